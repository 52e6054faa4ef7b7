theorem dX0_init_0 : decode cX0_init 0 = .ok (.aload_n 0, 1) := by decide +kernel
theorem dX0_init_1 : decode cX0_init 1 = .ok (.invokespecial 3, 3) := by decide +kernel
theorem dX0_init_4 : decode cX0_init 4 = .ok (.return_, 1) := by decide +kernel
theorem dX0_light_0 : decode cX0_light 0 = .ok (.aload_n 0, 1) := by decide +kernel
theorem dX0_light_1 : decode cX0_light 1 = .ok (.iload_n 1, 1) := by decide +kernel
theorem dX0_light_2 : decode cX0_light 2 = .ok (.putfield 9, 3) := by decide +kernel
theorem dX0_light_5 : decode cX0_light 5 = .ok (.aload_n 0, 1) := by decide +kernel
theorem dX0_light_6 : decode cX0_light 6 = .ok (.iload_n 2, 1) := by decide +kernel
theorem dX0_light_7 : decode cX0_light 7 = .ok (.putfield 15, 3) := by decide +kernel
theorem dX0_light_10 : decode cX0_light 10 = .ok (.aload_n 0, 1) := by decide +kernel
theorem dX0_light_11 : decode cX0_light 11 = .ok (.iload_n 3, 1) := by decide +kernel
theorem dX0_light_12 : decode cX0_light 12 = .ok (.putfield 18, 3) := by decide +kernel
theorem dX0_light_15 : decode cX0_light 15 = .ok (.aload_n 0, 1) := by decide +kernel
theorem dX0_light_16 : decode cX0_light 16 = .ok (.iload 4, 2) := by decide +kernel
theorem dX0_light_18 : decode cX0_light 18 = .ok (.putfield 21, 3) := by decide +kernel
theorem dX0_light_21 : decode cX0_light 21 = .ok (.aload_n 0, 1) := by decide +kernel
theorem dX0_light_22 : decode cX0_light 22 = .ok (.iconst 0, 1) := by decide +kernel
theorem dX0_light_23 : decode cX0_light 23 = .ok (.putfield 24, 3) := by decide +kernel
theorem dX0_light_26 : decode cX0_light 26 = .ok (.aload_n 0, 1) := by decide +kernel
theorem dX0_light_27 : decode cX0_light 27 = .ok (.sipush 999, 3) := by decide +kernel
theorem dX0_light_30 : decode cX0_light 30 = .ok (.putfield 27, 3) := by decide +kernel
theorem dX0_light_33 : decode cX0_light 33 = .ok (.aload_n 0, 1) := by decide +kernel
theorem dX0_light_34 : decode cX0_light 34 = .ok (.iconst 0, 1) := by decide +kernel
theorem dX0_light_35 : decode cX0_light 35 = .ok (.putfield 30, 3) := by decide +kernel
theorem dX0_light_38 : decode cX0_light 38 = .ok (.return_, 1) := by decide +kernel
theorem dX0_become_0 : decode cX0_become 0 = .ok (.aload_n 0, 1) := by decide +kernel
theorem dX0_become_1 : decode cX0_become 1 = .ok (.aload_n 1, 1) := by decide +kernel
theorem dX0_become_2 : decode cX0_become 2 = .ok (.getfield 9, 3) := by decide +kernel
theorem dX0_become_5 : decode cX0_become 5 = .ok (.putfield 9, 3) := by decide +kernel
theorem dX0_become_8 : decode cX0_become 8 = .ok (.aload_n 0, 1) := by decide +kernel
theorem dX0_become_9 : decode cX0_become 9 = .ok (.aload_n 1, 1) := by decide +kernel
theorem dX0_become_10 : decode cX0_become 10 = .ok (.getfield 15, 3) := by decide +kernel
theorem dX0_become_13 : decode cX0_become 13 = .ok (.putfield 15, 3) := by decide +kernel
theorem dX0_become_16 : decode cX0_become 16 = .ok (.aload_n 0, 1) := by decide +kernel
theorem dX0_become_17 : decode cX0_become 17 = .ok (.aload_n 1, 1) := by decide +kernel
theorem dX0_become_18 : decode cX0_become 18 = .ok (.getfield 18, 3) := by decide +kernel
theorem dX0_become_21 : decode cX0_become 21 = .ok (.putfield 18, 3) := by decide +kernel
theorem dX0_become_24 : decode cX0_become 24 = .ok (.aload_n 0, 1) := by decide +kernel
theorem dX0_become_25 : decode cX0_become 25 = .ok (.aload_n 1, 1) := by decide +kernel
theorem dX0_become_26 : decode cX0_become 26 = .ok (.getfield 21, 3) := by decide +kernel
theorem dX0_become_29 : decode cX0_become 29 = .ok (.putfield 21, 3) := by decide +kernel
theorem dX0_become_32 : decode cX0_become 32 = .ok (.aload_n 0, 1) := by decide +kernel
theorem dX0_become_33 : decode cX0_become 33 = .ok (.aload_n 1, 1) := by decide +kernel
theorem dX0_become_34 : decode cX0_become 34 = .ok (.getfield 24, 3) := by decide +kernel
theorem dX0_become_37 : decode cX0_become 37 = .ok (.putfield 24, 3) := by decide +kernel
theorem dX0_become_40 : decode cX0_become 40 = .ok (.aload_n 0, 1) := by decide +kernel
theorem dX0_become_41 : decode cX0_become 41 = .ok (.aload_n 1, 1) := by decide +kernel
theorem dX0_become_42 : decode cX0_become 42 = .ok (.getfield 27, 3) := by decide +kernel
theorem dX0_become_45 : decode cX0_become 45 = .ok (.putfield 27, 3) := by decide +kernel
theorem dX0_become_48 : decode cX0_become 48 = .ok (.aload_n 0, 1) := by decide +kernel
theorem dX0_become_49 : decode cX0_become 49 = .ok (.aload_n 1, 1) := by decide +kernel
theorem dX0_become_50 : decode cX0_become 50 = .ok (.getfield 30, 3) := by decide +kernel
theorem dX0_become_53 : decode cX0_become 53 = .ok (.putfield 30, 3) := by decide +kernel
theorem dX0_become_56 : decode cX0_become 56 = .ok (.return_, 1) := by decide +kernel
theorem dX0_isLit_0 : decode cX0_isLit 0 = .ok (.aload_n 0, 1) := by decide +kernel
theorem dX0_isLit_1 : decode cX0_isLit 1 = .ok (.getfield 27, 3) := by decide +kernel
theorem dX0_isLit_4 : decode cX0_isLit 4 = .ok (.ifCond .le 7, 3) := by decide +kernel
theorem dX0_isLit_7 : decode cX0_isLit 7 = .ok (.iconst 1, 1) := by decide +kernel
theorem dX0_isLit_8 : decode cX0_isLit 8 = .ok (.goto 4, 3) := by decide +kernel
theorem dX0_isLit_11 : decode cX0_isLit 11 = .ok (.iconst 0, 1) := by decide +kernel
theorem dX0_isLit_12 : decode cX0_isLit 12 = .ok (.ireturn, 1) := by decide +kernel
theorem dX0_isOf_0 : decode cX0_isOf 0 = .ok (.iload_n 1, 1) := by decide +kernel
theorem dX0_isOf_1 : decode cX0_isOf 1 = .ok (.ifCond .eq 37, 3) := by decide +kernel
theorem dX0_isOf_4 : decode cX0_isOf 4 = .ok (.iload_n 1, 1) := by decide +kernel
theorem dX0_isOf_5 : decode cX0_isOf 5 = .ok (.aload_n 0, 1) := by decide +kernel
theorem dX0_isOf_6 : decode cX0_isOf 6 = .ok (.getfield 9, 3) := by decide +kernel
theorem dX0_isOf_9 : decode cX0_isOf 9 = .ok (.if_icmp .eq 29, 3) := by decide +kernel
theorem dX0_isOf_12 : decode cX0_isOf 12 = .ok (.iload_n 1, 1) := by decide +kernel
theorem dX0_isOf_13 : decode cX0_isOf 13 = .ok (.iconst 1, 1) := by decide +kernel
theorem dX0_isOf_14 : decode cX0_isOf 14 = .ok (.if_icmp .ne 11, 3) := by decide +kernel
theorem dX0_isOf_17 : decode cX0_isOf 17 = .ok (.aload_n 0, 1) := by decide +kernel
theorem dX0_isOf_18 : decode cX0_isOf 18 = .ok (.getfield 9, 3) := by decide +kernel
theorem dX0_isOf_21 : decode cX0_isOf 21 = .ok (.iconst 3, 1) := by decide +kernel
theorem dX0_isOf_22 : decode cX0_isOf 22 = .ok (.if_icmp .eq 16, 3) := by decide +kernel
theorem dX0_isOf_25 : decode cX0_isOf 25 = .ok (.iload_n 1, 1) := by decide +kernel
theorem dX0_isOf_26 : decode cX0_isOf 26 = .ok (.iconst 2, 1) := by decide +kernel
theorem dX0_isOf_27 : decode cX0_isOf 27 = .ok (.if_icmp .ne 15, 3) := by decide +kernel
theorem dX0_isOf_30 : decode cX0_isOf 30 = .ok (.aload_n 0, 1) := by decide +kernel
theorem dX0_isOf_31 : decode cX0_isOf 31 = .ok (.getfield 9, 3) := by decide +kernel
theorem dX0_isOf_34 : decode cX0_isOf 34 = .ok (.iconst 4, 1) := by decide +kernel
theorem dX0_isOf_35 : decode cX0_isOf 35 = .ok (.if_icmp .ne 7, 3) := by decide +kernel
theorem dX0_isOf_38 : decode cX0_isOf 38 = .ok (.iconst 1, 1) := by decide +kernel
theorem dX0_isOf_39 : decode cX0_isOf 39 = .ok (.goto 4, 3) := by decide +kernel
theorem dX0_isOf_42 : decode cX0_isOf 42 = .ok (.iconst 0, 1) := by decide +kernel
theorem dX0_isOf_43 : decode cX0_isOf 43 = .ok (.ireturn, 1) := by decide +kernel
theorem dX0_wayTo_0 : decode cX0_wayTo 0 = .ok (.aload_n 0, 1) := by decide +kernel
theorem dX0_wayTo_1 : decode cX0_wayTo 1 = .ok (.getfield 15, 3) := by decide +kernel
theorem dX0_wayTo_4 : decode cX0_wayTo 4 = .ok (.iload_n 1, 1) := by decide +kernel
theorem dX0_wayTo_5 : decode cX0_wayTo 5 = .ok (.isub, 1) := by decide +kernel
theorem dX0_wayTo_6 : decode cX0_wayTo 6 = .ok (.invokestatic 33, 3) := by decide +kernel
theorem dX0_wayTo_9 : decode cX0_wayTo 9 = .ok (.aload_n 0, 1) := by decide +kernel
theorem dX0_wayTo_10 : decode cX0_wayTo 10 = .ok (.getfield 18, 3) := by decide +kernel
theorem dX0_wayTo_13 : decode cX0_wayTo 13 = .ok (.iload_n 2, 1) := by decide +kernel
theorem dX0_wayTo_14 : decode cX0_wayTo 14 = .ok (.isub, 1) := by decide +kernel
theorem dX0_wayTo_15 : decode cX0_wayTo 15 = .ok (.invokestatic 33, 3) := by decide +kernel
theorem dX0_wayTo_18 : decode cX0_wayTo 18 = .ok (.iadd, 1) := by decide +kernel
theorem dX0_wayTo_19 : decode cX0_wayTo 19 = .ok (.ireturn, 1) := by decide +kernel
theorem dX0_paceFrom_0 : decode cX0_paceFrom 0 = .ok (.aload_n 0, 1) := by decide +kernel
theorem dX0_paceFrom_1 : decode cX0_paceFrom 1 = .ok (.getfield 9, 3) := by decide +kernel
theorem dX0_paceFrom_4 : decode cX0_paceFrom 4 = .ok (.tableswitch 56 1 5 #[36, 46, 40, 50, 52], 36) := by decide +kernel
theorem dX0_paceFrom_40 : decode cX0_paceFrom 40 = .ok (.iload_n 1, 1) := by decide +kernel
theorem dX0_paceFrom_41 : decode cX0_paceFrom 41 = .ok (.iconst 1, 1) := by decide +kernel
theorem dX0_paceFrom_42 : decode cX0_paceFrom 42 = .ok (.iadd, 1) := by decide +kernel
theorem dX0_paceFrom_43 : decode cX0_paceFrom 43 = .ok (.ireturn, 1) := by decide +kernel
theorem dX0_paceFrom_44 : decode cX0_paceFrom 44 = .ok (.iconst 2, 1) := by decide +kernel
theorem dX0_paceFrom_45 : decode cX0_paceFrom 45 = .ok (.iload_n 1, 1) := by decide +kernel
theorem dX0_paceFrom_46 : decode cX0_paceFrom 46 = .ok (.iconst 1, 1) := by decide +kernel
theorem dX0_paceFrom_47 : decode cX0_paceFrom 47 = .ok (.iadd, 1) := by decide +kernel
theorem dX0_paceFrom_48 : decode cX0_paceFrom 48 = .ok (.imul, 1) := by decide +kernel
theorem dX0_paceFrom_49 : decode cX0_paceFrom 49 = .ok (.ireturn, 1) := by decide +kernel
theorem dX0_paceFrom_50 : decode cX0_paceFrom 50 = .ok (.iload_n 1, 1) := by decide +kernel
theorem dX0_paceFrom_51 : decode cX0_paceFrom 51 = .ok (.iconst 2, 1) := by decide +kernel
theorem dX0_paceFrom_52 : decode cX0_paceFrom 52 = .ok (.idiv, 1) := by decide +kernel
theorem dX0_paceFrom_53 : decode cX0_paceFrom 53 = .ok (.ireturn, 1) := by decide +kernel
theorem dX0_paceFrom_54 : decode cX0_paceFrom 54 = .ok (.iconst 0, 1) := by decide +kernel
theorem dX0_paceFrom_55 : decode cX0_paceFrom 55 = .ok (.ireturn, 1) := by decide +kernel
theorem dX0_paceFrom_56 : decode cX0_paceFrom 56 = .ok (.iload_n 1, 1) := by decide +kernel
theorem dX0_paceFrom_57 : decode cX0_paceFrom 57 = .ok (.iconst 2, 1) := by decide +kernel
theorem dX0_paceFrom_58 : decode cX0_paceFrom 58 = .ok (.iadd, 1) := by decide +kernel
theorem dX0_paceFrom_59 : decode cX0_paceFrom 59 = .ok (.ireturn, 1) := by decide +kernel
theorem dX0_paceFrom_60 : decode cX0_paceFrom 60 = .ok (.iload_n 1, 1) := by decide +kernel
theorem dX0_paceFrom_61 : decode cX0_paceFrom 61 = .ok (.ireturn, 1) := by decide +kernel
theorem dX0_turnedFrom_0 : decode cX0_turnedFrom 0 = .ok (.aload_n 0, 1) := by decide +kernel
theorem dX0_turnedFrom_1 : decode cX0_turnedFrom 1 = .ok (.getfield 9, 3) := by decide +kernel
theorem dX0_turnedFrom_4 : decode cX0_turnedFrom 4 = .ok (.tableswitch 70 1 5 #[36, 46, 40, 49, 66], 36) := by decide +kernel
theorem dX0_turnedFrom_40 : decode cX0_turnedFrom 40 = .ok (.iconst 2, 1) := by decide +kernel
theorem dX0_turnedFrom_41 : decode cX0_turnedFrom 41 = .ok (.iload_n 1, 1) := by decide +kernel
theorem dX0_turnedFrom_42 : decode cX0_turnedFrom 42 = .ok (.imul, 1) := by decide +kernel
theorem dX0_turnedFrom_43 : decode cX0_turnedFrom 43 = .ok (.ireturn, 1) := by decide +kernel
theorem dX0_turnedFrom_44 : decode cX0_turnedFrom 44 = .ok (.iconst 2, 1) := by decide +kernel
theorem dX0_turnedFrom_45 : decode cX0_turnedFrom 45 = .ok (.iload_n 1, 1) := by decide +kernel
theorem dX0_turnedFrom_46 : decode cX0_turnedFrom 46 = .ok (.imul, 1) := by decide +kernel
theorem dX0_turnedFrom_47 : decode cX0_turnedFrom 47 = .ok (.iconst 3, 1) := by decide +kernel
theorem dX0_turnedFrom_48 : decode cX0_turnedFrom 48 = .ok (.iadd, 1) := by decide +kernel
theorem dX0_turnedFrom_49 : decode cX0_turnedFrom 49 = .ok (.ireturn, 1) := by decide +kernel
theorem dX0_turnedFrom_50 : decode cX0_turnedFrom 50 = .ok (.iload_n 1, 1) := by decide +kernel
theorem dX0_turnedFrom_51 : decode cX0_turnedFrom 51 = .ok (.ineg, 1) := by decide +kernel
theorem dX0_turnedFrom_52 : decode cX0_turnedFrom 52 = .ok (.ireturn, 1) := by decide +kernel
theorem dX0_turnedFrom_53 : decode cX0_turnedFrom 53 = .ok (.iload_n 1, 1) := by decide +kernel
theorem dX0_turnedFrom_54 : decode cX0_turnedFrom 54 = .ok (.bipush (-4), 2) := by decide +kernel
theorem dX0_turnedFrom_56 : decode cX0_turnedFrom 56 = .ok (.iconst 4, 1) := by decide +kernel
theorem dX0_turnedFrom_57 : decode cX0_turnedFrom 57 = .ok (.invokestatic 39, 3) := by decide +kernel
theorem dX0_turnedFrom_60 : decode cX0_turnedFrom 60 = .ok (.ifCond .eq 7, 3) := by decide +kernel
theorem dX0_turnedFrom_63 : decode cX0_turnedFrom 63 = .ok (.iconst 0, 1) := by decide +kernel
theorem dX0_turnedFrom_64 : decode cX0_turnedFrom 64 = .ok (.goto 5, 3) := by decide +kernel
theorem dX0_turnedFrom_67 : decode cX0_turnedFrom 67 = .ok (.iload_n 1, 1) := by decide +kernel
theorem dX0_turnedFrom_68 : decode cX0_turnedFrom 68 = .ok (.ineg, 1) := by decide +kernel
theorem dX0_turnedFrom_69 : decode cX0_turnedFrom 69 = .ok (.ireturn, 1) := by decide +kernel
theorem dX0_turnedFrom_70 : decode cX0_turnedFrom 70 = .ok (.iload_n 1, 1) := by decide +kernel
theorem dX0_turnedFrom_71 : decode cX0_turnedFrom 71 = .ok (.iload_n 2, 1) := by decide +kernel
theorem dX0_turnedFrom_72 : decode cX0_turnedFrom 72 = .ok (.iadd, 1) := by decide +kernel
theorem dX0_turnedFrom_73 : decode cX0_turnedFrom 73 = .ok (.ireturn, 1) := by decide +kernel
theorem dX0_turnedFrom_74 : decode cX0_turnedFrom 74 = .ok (.iload_n 1, 1) := by decide +kernel
theorem dX0_turnedFrom_75 : decode cX0_turnedFrom 75 = .ok (.ireturn, 1) := by decide +kernel
theorem dX0_worth_0 : decode cX0_worth 0 = .ok (.aload_n 0, 1) := by decide +kernel
theorem dX0_worth_1 : decode cX0_worth 1 = .ok (.getfield 9, 3) := by decide +kernel
theorem dX0_worth_4 : decode cX0_worth 4 = .ok (.tableswitch 80 1 5 #[36, 52, 43, 60, 70], 36) := by decide +kernel
theorem dX0_worth_40 : decode cX0_worth 40 = .ok (.aload_n 0, 1) := by decide +kernel
theorem dX0_worth_41 : decode cX0_worth 41 = .ok (.getfield 21, 3) := by decide +kernel
theorem dX0_worth_44 : decode cX0_worth 44 = .ok (.iconst 4, 1) := by decide +kernel
theorem dX0_worth_45 : decode cX0_worth 45 = .ok (.iadd, 1) := by decide +kernel
theorem dX0_worth_46 : decode cX0_worth 46 = .ok (.ireturn, 1) := by decide +kernel
theorem dX0_worth_47 : decode cX0_worth 47 = .ok (.iconst 2, 1) := by decide +kernel
theorem dX0_worth_48 : decode cX0_worth 48 = .ok (.aload_n 0, 1) := by decide +kernel
theorem dX0_worth_49 : decode cX0_worth 49 = .ok (.getfield 21, 3) := by decide +kernel
theorem dX0_worth_52 : decode cX0_worth 52 = .ok (.iconst 4, 1) := by decide +kernel
theorem dX0_worth_53 : decode cX0_worth 53 = .ok (.iadd, 1) := by decide +kernel
theorem dX0_worth_54 : decode cX0_worth 54 = .ok (.imul, 1) := by decide +kernel
theorem dX0_worth_55 : decode cX0_worth 55 = .ok (.ireturn, 1) := by decide +kernel
theorem dX0_worth_56 : decode cX0_worth 56 = .ok (.bipush 9, 2) := by decide +kernel
theorem dX0_worth_58 : decode cX0_worth 58 = .ok (.aload_n 0, 1) := by decide +kernel
theorem dX0_worth_59 : decode cX0_worth 59 = .ok (.getfield 21, 3) := by decide +kernel
theorem dX0_worth_62 : decode cX0_worth 62 = .ok (.isub, 1) := by decide +kernel
theorem dX0_worth_63 : decode cX0_worth 63 = .ok (.ireturn, 1) := by decide +kernel
theorem dX0_worth_64 : decode cX0_worth 64 = .ok (.bipush 9, 2) := by decide +kernel
theorem dX0_worth_66 : decode cX0_worth 66 = .ok (.aload_n 0, 1) := by decide +kernel
theorem dX0_worth_67 : decode cX0_worth 67 = .ok (.getfield 21, 3) := by decide +kernel
theorem dX0_worth_70 : decode cX0_worth 70 = .ok (.isub, 1) := by decide +kernel
theorem dX0_worth_71 : decode cX0_worth 71 = .ok (.iconst 2, 1) := by decide +kernel
theorem dX0_worth_72 : decode cX0_worth 72 = .ok (.isub, 1) := by decide +kernel
theorem dX0_worth_73 : decode cX0_worth 73 = .ok (.ireturn, 1) := by decide +kernel
theorem dX0_worth_74 : decode cX0_worth 74 = .ok (.aload_n 0, 1) := by decide +kernel
theorem dX0_worth_75 : decode cX0_worth 75 = .ok (.getfield 21, 3) := by decide +kernel
theorem dX0_worth_78 : decode cX0_worth 78 = .ok (.aload_n 0, 1) := by decide +kernel
theorem dX0_worth_79 : decode cX0_worth 79 = .ok (.getfield 21, 3) := by decide +kernel
theorem dX0_worth_82 : decode cX0_worth 82 = .ok (.imul, 1) := by decide +kernel
theorem dX0_worth_83 : decode cX0_worth 83 = .ok (.ireturn, 1) := by decide +kernel
theorem dX0_worth_84 : decode cX0_worth 84 = .ok (.aload_n 0, 1) := by decide +kernel
theorem dX0_worth_85 : decode cX0_worth 85 = .ok (.getfield 21, 3) := by decide +kernel
theorem dX0_worth_88 : decode cX0_worth 88 = .ok (.ireturn, 1) := by decide +kernel
theorem dX0_burnTo_0 : decode cX0_burnTo 0 = .ok (.iload_n 1, 1) := by decide +kernel
theorem dX0_burnTo_1 : decode cX0_burnTo 1 = .ok (.bipush 120, 2) := by decide +kernel
theorem dX0_burnTo_3 : decode cX0_burnTo 3 = .ok (.if_icmp .lt 7, 3) := by decide +kernel
theorem dX0_burnTo_6 : decode cX0_burnTo 6 = .ok (.iconst 1, 1) := by decide +kernel
theorem dX0_burnTo_7 : decode cX0_burnTo 7 = .ok (.goto 4, 3) := by decide +kernel
theorem dX0_burnTo_10 : decode cX0_burnTo 10 = .ok (.iconst 0, 1) := by decide +kernel
theorem dX0_burnTo_11 : decode cX0_burnTo 11 = .ok (.istore_n 2, 1) := by decide +kernel
theorem dX0_burnTo_12 : decode cX0_burnTo 12 = .ok (.iload_n 1, 1) := by decide +kernel
theorem dX0_burnTo_13 : decode cX0_burnTo 13 = .ok (.bipush 120, 2) := by decide +kernel
theorem dX0_burnTo_15 : decode cX0_burnTo 15 = .ok (.irem, 1) := by decide +kernel
theorem dX0_burnTo_16 : decode cX0_burnTo 16 = .ok (.istore_n 3, 1) := by decide +kernel
theorem dX0_burnTo_17 : decode cX0_burnTo 17 = .ok (.aload_n 0, 1) := by decide +kernel
theorem dX0_burnTo_18 : decode cX0_burnTo 18 = .ok (.iload_n 3, 1) := by decide +kernel
theorem dX0_burnTo_19 : decode cX0_burnTo 19 = .ok (.ifCond .ge 10, 3) := by decide +kernel
theorem dX0_burnTo_22 : decode cX0_burnTo 22 = .ok (.iload_n 3, 1) := by decide +kernel
theorem dX0_burnTo_23 : decode cX0_burnTo 23 = .ok (.bipush 120, 2) := by decide +kernel
theorem dX0_burnTo_25 : decode cX0_burnTo 25 = .ok (.iadd, 1) := by decide +kernel
theorem dX0_burnTo_26 : decode cX0_burnTo 26 = .ok (.goto 4, 3) := by decide +kernel
theorem dX0_burnTo_29 : decode cX0_burnTo 29 = .ok (.iload_n 3, 1) := by decide +kernel
theorem dX0_burnTo_30 : decode cX0_burnTo 30 = .ok (.putfield 24, 3) := by decide +kernel
theorem dX0_burnTo_33 : decode cX0_burnTo 33 = .ok (.aload_n 0, 1) := by decide +kernel
theorem dX0_burnTo_34 : decode cX0_burnTo 34 = .ok (.iconst 0, 1) := by decide +kernel
theorem dX0_burnTo_35 : decode cX0_burnTo 35 = .ok (.aload_n 0, 1) := by decide +kernel
theorem dX0_burnTo_36 : decode cX0_burnTo 36 = .ok (.getfield 27, 3) := by decide +kernel
theorem dX0_burnTo_39 : decode cX0_burnTo 39 = .ok (.aload_n 0, 1) := by decide +kernel
theorem dX0_burnTo_40 : decode cX0_burnTo 40 = .ok (.getfield 21, 3) := by decide +kernel
theorem dX0_burnTo_43 : decode cX0_burnTo 43 = .ok (.isub, 1) := by decide +kernel
theorem dX0_burnTo_44 : decode cX0_burnTo 44 = .ok (.invokestatic 43, 3) := by decide +kernel
theorem dX0_burnTo_47 : decode cX0_burnTo 47 = .ok (.putfield 27, 3) := by decide +kernel
theorem dX0_burnTo_50 : decode cX0_burnTo 50 = .ok (.aload_n 0, 1) := by decide +kernel
theorem dX0_burnTo_51 : decode cX0_burnTo 51 = .ok (.dup, 1) := by decide +kernel
theorem dX0_burnTo_52 : decode cX0_burnTo 52 = .ok (.getfield 30, 3) := by decide +kernel
theorem dX0_burnTo_55 : decode cX0_burnTo 55 = .ok (.iload_n 2, 1) := by decide +kernel
theorem dX0_burnTo_56 : decode cX0_burnTo 56 = .ok (.ifCond .eq 7, 3) := by decide +kernel
theorem dX0_burnTo_59 : decode cX0_burnTo 59 = .ok (.iconst 1, 1) := by decide +kernel
theorem dX0_burnTo_60 : decode cX0_burnTo 60 = .ok (.goto 4, 3) := by decide +kernel
theorem dX0_burnTo_63 : decode cX0_burnTo 63 = .ok (.iconst 0, 1) := by decide +kernel
theorem dX0_burnTo_64 : decode cX0_burnTo 64 = .ok (.iadd, 1) := by decide +kernel
theorem dX0_burnTo_65 : decode cX0_burnTo 65 = .ok (.putfield 30, 3) := by decide +kernel
theorem dX0_burnTo_68 : decode cX0_burnTo 68 = .ok (.iload_n 2, 1) := by decide +kernel
theorem dX0_burnTo_69 : decode cX0_burnTo 69 = .ok (.ireturn, 1) := by decide +kernel
theorem dX1_init_0 : decode cX1_init 0 = .ok (.aload_n 0, 1) := by decide +kernel
theorem dX1_init_1 : decode cX1_init 1 = .ok (.invokespecial 3, 3) := by decide +kernel
theorem dX1_init_4 : decode cX1_init 4 = .ok (.aload_n 0, 1) := by decide +kernel
theorem dX1_init_5 : decode cX1_init 5 = .ok (.iconst 0, 1) := by decide +kernel
theorem dX1_init_6 : decode cX1_init 6 = .ok (.putfield 9, 3) := by decide +kernel
theorem dX1_init_9 : decode cX1_init 9 = .ok (.aload_n 0, 1) := by decide +kernel
theorem dX1_init_10 : decode cX1_init 10 = .ok (.iconst 0, 1) := by decide +kernel
theorem dX1_init_11 : decode cX1_init 11 = .ok (.putfield 15, 3) := by decide +kernel
theorem dX1_init_14 : decode cX1_init 14 = .ok (.aload_n 0, 1) := by decide +kernel
theorem dX1_init_15 : decode cX1_init 15 = .ok (.iconst 0, 1) := by decide +kernel
theorem dX1_init_16 : decode cX1_init 16 = .ok (.putfield 18, 3) := by decide +kernel
theorem dX1_init_19 : decode cX1_init 19 = .ok (.aload_n 0, 1) := by decide +kernel
theorem dX1_init_20 : decode cX1_init 20 = .ok (.bipush 96, 2) := by decide +kernel
theorem dX1_init_22 : decode cX1_init 22 = .ok (.newarray .int, 2) := by decide +kernel
theorem dX1_init_24 : decode cX1_init 24 = .ok (.putfield 21, 3) := by decide +kernel
theorem dX1_init_27 : decode cX1_init 27 = .ok (.aload_n 0, 1) := by decide +kernel
theorem dX1_init_28 : decode cX1_init 28 = .ok (.bipush 96, 2) := by decide +kernel
theorem dX1_init_30 : decode cX1_init 30 = .ok (.newarray .int, 2) := by decide +kernel
theorem dX1_init_32 : decode cX1_init 32 = .ok (.putfield 25, 3) := by decide +kernel
theorem dX1_init_35 : decode cX1_init 35 = .ok (.aload_n 0, 1) := by decide +kernel
theorem dX1_init_36 : decode cX1_init 36 = .ok (.bipush 96, 2) := by decide +kernel
theorem dX1_init_38 : decode cX1_init 38 = .ok (.newarray .int, 2) := by decide +kernel
theorem dX1_init_40 : decode cX1_init 40 = .ok (.putfield 28, 3) := by decide +kernel
theorem dX1_init_43 : decode cX1_init 43 = .ok (.aload_n 0, 1) := by decide +kernel
theorem dX1_init_44 : decode cX1_init 44 = .ok (.bipush 96, 2) := by decide +kernel
theorem dX1_init_46 : decode cX1_init 46 = .ok (.newarray .int, 2) := by decide +kernel
theorem dX1_init_48 : decode cX1_init 48 = .ok (.putfield 31, 3) := by decide +kernel
theorem dX1_init_51 : decode cX1_init 51 = .ok (.return_, 1) := by decide +kernel
theorem dX1_begin_0 : decode cX1_begin 0 = .ok (.aload_n 0, 1) := by decide +kernel
theorem dX1_begin_1 : decode cX1_begin 1 = .ok (.iload_n 1, 1) := by decide +kernel
theorem dX1_begin_2 : decode cX1_begin 2 = .ok (.putfield 9, 3) := by decide +kernel
theorem dX1_begin_5 : decode cX1_begin 5 = .ok (.aload_n 0, 1) := by decide +kernel
theorem dX1_begin_6 : decode cX1_begin 6 = .ok (.iconst 0, 1) := by decide +kernel
theorem dX1_begin_7 : decode cX1_begin 7 = .ok (.putfield 15, 3) := by decide +kernel
theorem dX1_begin_10 : decode cX1_begin 10 = .ok (.aload_n 0, 1) := by decide +kernel
theorem dX1_begin_11 : decode cX1_begin 11 = .ok (.iconst 0, 1) := by decide +kernel
theorem dX1_begin_12 : decode cX1_begin 12 = .ok (.putfield 18, 3) := by decide +kernel
theorem dX1_begin_15 : decode cX1_begin 15 = .ok (.return_, 1) := by decide +kernel
theorem dX1_addLeaf_0 : decode cX1_addLeaf 0 = .ok (.aload_n 0, 1) := by decide +kernel
theorem dX1_addLeaf_1 : decode cX1_addLeaf 1 = .ok (.getfield 18, 3) := by decide +kernel
theorem dX1_addLeaf_4 : decode cX1_addLeaf 4 = .ok (.bipush 96, 2) := by decide +kernel
theorem dX1_addLeaf_6 : decode cX1_addLeaf 6 = .ok (.if_icmp .lt 5, 3) := by decide +kernel
theorem dX1_addLeaf_9 : decode cX1_addLeaf 9 = .ok (.iconst (-1), 1) := by decide +kernel
theorem dX1_addLeaf_10 : decode cX1_addLeaf 10 = .ok (.ireturn, 1) := by decide +kernel
theorem dX1_addLeaf_11 : decode cX1_addLeaf 11 = .ok (.aload_n 0, 1) := by decide +kernel
theorem dX1_addLeaf_12 : decode cX1_addLeaf 12 = .ok (.dup, 1) := by decide +kernel
theorem dX1_addLeaf_13 : decode cX1_addLeaf 13 = .ok (.getfield 15, 3) := by decide +kernel
theorem dX1_addLeaf_16 : decode cX1_addLeaf 16 = .ok (.iconst 1, 1) := by decide +kernel
theorem dX1_addLeaf_17 : decode cX1_addLeaf 17 = .ok (.iadd, 1) := by decide +kernel
theorem dX1_addLeaf_18 : decode cX1_addLeaf 18 = .ok (.putfield 15, 3) := by decide +kernel
theorem dX1_addLeaf_21 : decode cX1_addLeaf 21 = .ok (.aload_n 0, 1) := by decide +kernel
theorem dX1_addLeaf_22 : decode cX1_addLeaf 22 = .ok (.iload_n 1, 1) := by decide +kernel
theorem dX1_addLeaf_23 : decode cX1_addLeaf 23 = .ok (.iload_n 2, 1) := by decide +kernel
theorem dX1_addLeaf_24 : decode cX1_addLeaf 24 = .ok (.iconst 0, 1) := by decide +kernel
theorem dX1_addLeaf_25 : decode cX1_addLeaf 25 = .ok (.invokevirtual 34, 3) := by decide +kernel
theorem dX1_addLeaf_28 : decode cX1_addLeaf 28 = .ok (.ireturn, 1) := by decide +kernel
theorem dX1_addStep_0 : decode cX1_addStep 0 = .ok (.aload_n 0, 1) := by decide +kernel
theorem dX1_addStep_1 : decode cX1_addStep 1 = .ok (.getfield 18, 3) := by decide +kernel
theorem dX1_addStep_4 : decode cX1_addStep 4 = .ok (.bipush 96, 2) := by decide +kernel
theorem dX1_addStep_6 : decode cX1_addStep 6 = .ok (.if_icmp .ge 31, 3) := by decide +kernel
theorem dX1_addStep_9 : decode cX1_addStep 9 = .ok (.iload_n 2, 1) := by decide +kernel
theorem dX1_addStep_10 : decode cX1_addStep 10 = .ok (.iconst 0, 1) := by decide +kernel
theorem dX1_addStep_11 : decode cX1_addStep 11 = .ok (.aload_n 0, 1) := by decide +kernel
theorem dX1_addStep_12 : decode cX1_addStep 12 = .ok (.getfield 18, 3) := by decide +kernel
theorem dX1_addStep_15 : decode cX1_addStep 15 = .ok (.iconst 1, 1) := by decide +kernel
theorem dX1_addStep_16 : decode cX1_addStep 16 = .ok (.isub, 1) := by decide +kernel
theorem dX1_addStep_17 : decode cX1_addStep 17 = .ok (.invokestatic 38, 3) := by decide +kernel
theorem dX1_addStep_20 : decode cX1_addStep 20 = .ok (.ifCond .eq 17, 3) := by decide +kernel
theorem dX1_addStep_23 : decode cX1_addStep 23 = .ok (.iload_n 3, 1) := by decide +kernel
theorem dX1_addStep_24 : decode cX1_addStep 24 = .ok (.iconst 0, 1) := by decide +kernel
theorem dX1_addStep_25 : decode cX1_addStep 25 = .ok (.aload_n 0, 1) := by decide +kernel
theorem dX1_addStep_26 : decode cX1_addStep 26 = .ok (.getfield 18, 3) := by decide +kernel
theorem dX1_addStep_29 : decode cX1_addStep 29 = .ok (.iconst 1, 1) := by decide +kernel
theorem dX1_addStep_30 : decode cX1_addStep 30 = .ok (.isub, 1) := by decide +kernel
theorem dX1_addStep_31 : decode cX1_addStep 31 = .ok (.invokestatic 38, 3) := by decide +kernel
theorem dX1_addStep_34 : decode cX1_addStep 34 = .ok (.ifCond .ne 5, 3) := by decide +kernel
theorem dX1_addStep_37 : decode cX1_addStep 37 = .ok (.iconst (-1), 1) := by decide +kernel
theorem dX1_addStep_38 : decode cX1_addStep 38 = .ok (.ireturn, 1) := by decide +kernel
theorem dX1_addStep_39 : decode cX1_addStep 39 = .ok (.aload_n 0, 1) := by decide +kernel
theorem dX1_addStep_40 : decode cX1_addStep 40 = .ok (.iload_n 1, 1) := by decide +kernel
theorem dX1_addStep_41 : decode cX1_addStep 41 = .ok (.iload_n 2, 1) := by decide +kernel
theorem dX1_addStep_42 : decode cX1_addStep 42 = .ok (.iload_n 3, 1) := by decide +kernel
theorem dX1_addStep_43 : decode cX1_addStep 43 = .ok (.invokevirtual 34, 3) := by decide +kernel
theorem dX1_addStep_46 : decode cX1_addStep 46 = .ok (.ireturn, 1) := by decide +kernel
theorem dX1_put_0 : decode cX1_put 0 = .ok (.aload_n 0, 1) := by decide +kernel
theorem dX1_put_1 : decode cX1_put 1 = .ok (.getfield 21, 3) := by decide +kernel
theorem dX1_put_4 : decode cX1_put 4 = .ok (.aload_n 0, 1) := by decide +kernel
theorem dX1_put_5 : decode cX1_put 5 = .ok (.getfield 18, 3) := by decide +kernel
theorem dX1_put_8 : decode cX1_put 8 = .ok (.iload_n 1, 1) := by decide +kernel
theorem dX1_put_9 : decode cX1_put 9 = .ok (.iastore, 1) := by decide +kernel
theorem dX1_put_10 : decode cX1_put 10 = .ok (.aload_n 0, 1) := by decide +kernel
theorem dX1_put_11 : decode cX1_put 11 = .ok (.getfield 25, 3) := by decide +kernel
theorem dX1_put_14 : decode cX1_put 14 = .ok (.aload_n 0, 1) := by decide +kernel
theorem dX1_put_15 : decode cX1_put 15 = .ok (.getfield 18, 3) := by decide +kernel
theorem dX1_put_18 : decode cX1_put 18 = .ok (.iload_n 2, 1) := by decide +kernel
theorem dX1_put_19 : decode cX1_put 19 = .ok (.iastore, 1) := by decide +kernel
theorem dX1_put_20 : decode cX1_put 20 = .ok (.aload_n 0, 1) := by decide +kernel
theorem dX1_put_21 : decode cX1_put 21 = .ok (.getfield 28, 3) := by decide +kernel
theorem dX1_put_24 : decode cX1_put 24 = .ok (.aload_n 0, 1) := by decide +kernel
theorem dX1_put_25 : decode cX1_put 25 = .ok (.getfield 18, 3) := by decide +kernel
theorem dX1_put_28 : decode cX1_put 28 = .ok (.iload_n 3, 1) := by decide +kernel
theorem dX1_put_29 : decode cX1_put 29 = .ok (.iastore, 1) := by decide +kernel
theorem dX1_put_30 : decode cX1_put 30 = .ok (.aload_n 0, 1) := by decide +kernel
theorem dX1_put_31 : decode cX1_put 31 = .ok (.dup, 1) := by decide +kernel
theorem dX1_put_32 : decode cX1_put 32 = .ok (.getfield 18, 3) := by decide +kernel
theorem dX1_put_35 : decode cX1_put 35 = .ok (.iconst 1, 1) := by decide +kernel
theorem dX1_put_36 : decode cX1_put 36 = .ok (.iadd, 1) := by decide +kernel
theorem dX1_put_37 : decode cX1_put 37 = .ok (.putfield 18, 3) := by decide +kernel
theorem dX1_put_40 : decode cX1_put 40 = .ok (.aload_n 0, 1) := by decide +kernel
theorem dX1_put_41 : decode cX1_put 41 = .ok (.getfield 18, 3) := by decide +kernel
theorem dX1_put_44 : decode cX1_put 44 = .ok (.iconst 1, 1) := by decide +kernel
theorem dX1_put_45 : decode cX1_put 45 = .ok (.isub, 1) := by decide +kernel
theorem dX1_put_46 : decode cX1_put 46 = .ok (.ireturn, 1) := by decide +kernel
theorem dX1_gives_0 : decode cX1_gives 0 = .ok (.iconst 0, 1) := by decide +kernel
theorem dX1_gives_1 : decode cX1_gives 1 = .ok (.istore 4, 2) := by decide +kernel
theorem dX1_gives_3 : decode cX1_gives 3 = .ok (.iconst 0, 1) := by decide +kernel
theorem dX1_gives_4 : decode cX1_gives 4 = .ok (.istore 5, 2) := by decide +kernel
theorem dX1_gives_6 : decode cX1_gives 6 = .ok (.iload 5, 2) := by decide +kernel
theorem dX1_gives_8 : decode cX1_gives 8 = .ok (.aload_n 0, 1) := by decide +kernel
theorem dX1_gives_9 : decode cX1_gives 9 = .ok (.getfield 18, 3) := by decide +kernel
theorem dX1_gives_12 : decode cX1_gives 12 = .ok (.if_icmp .ge 111, 3) := by decide +kernel
theorem dX1_gives_15 : decode cX1_gives 15 = .ok (.aload_n 0, 1) := by decide +kernel
theorem dX1_gives_16 : decode cX1_gives 16 = .ok (.getfield 25, 3) := by decide +kernel
theorem dX1_gives_19 : decode cX1_gives 19 = .ok (.iload 5, 2) := by decide +kernel
theorem dX1_gives_21 : decode cX1_gives 21 = .ok (.iaload, 1) := by decide +kernel
theorem dX1_gives_22 : decode cX1_gives 22 = .ok (.istore 6, 2) := by decide +kernel
theorem dX1_gives_24 : decode cX1_gives 24 = .ok (.aload_n 0, 1) := by decide +kernel
theorem dX1_gives_25 : decode cX1_gives 25 = .ok (.getfield 21, 3) := by decide +kernel
theorem dX1_gives_28 : decode cX1_gives 28 = .ok (.iload 5, 2) := by decide +kernel
theorem dX1_gives_30 : decode cX1_gives 30 = .ok (.iaload, 1) := by decide +kernel
theorem dX1_gives_31 : decode cX1_gives 31 = .ok (.ifCond .ne 10, 3) := by decide +kernel
theorem dX1_gives_34 : decode cX1_gives 34 = .ok (.iload 6, 2) := by decide +kernel
theorem dX1_gives_36 : decode cX1_gives 36 = .ok (.istore 4, 2) := by decide +kernel
theorem dX1_gives_38 : decode cX1_gives 38 = .ok (.goto 70, 3) := by decide +kernel
theorem dX1_gives_41 : decode cX1_gives 41 = .ok (.aload_n 0, 1) := by decide +kernel
theorem dX1_gives_42 : decode cX1_gives 42 = .ok (.getfield 21, 3) := by decide +kernel
theorem dX1_gives_45 : decode cX1_gives 45 = .ok (.iload 5, 2) := by decide +kernel
theorem dX1_gives_47 : decode cX1_gives 47 = .ok (.iaload, 1) := by decide +kernel
theorem dX1_gives_48 : decode cX1_gives 48 = .ok (.iconst 1, 1) := by decide +kernel
theorem dX1_gives_49 : decode cX1_gives 49 = .ok (.if_icmp .ne 28, 3) := by decide +kernel
theorem dX1_gives_52 : decode cX1_gives 52 = .ok (.iload 6, 2) := by decide +kernel
theorem dX1_gives_54 : decode cX1_gives 54 = .ok (.ifCond .ne 7, 3) := by decide +kernel
theorem dX1_gives_57 : decode cX1_gives 57 = .ok (.iload_n 1, 1) := by decide +kernel
theorem dX1_gives_58 : decode cX1_gives 58 = .ok (.goto 14, 3) := by decide +kernel
theorem dX1_gives_61 : decode cX1_gives 61 = .ok (.iload 6, 2) := by decide +kernel
theorem dX1_gives_63 : decode cX1_gives 63 = .ok (.iconst 1, 1) := by decide +kernel
theorem dX1_gives_64 : decode cX1_gives 64 = .ok (.if_icmp .ne 7, 3) := by decide +kernel
theorem dX1_gives_67 : decode cX1_gives 67 = .ok (.iload_n 2, 1) := by decide +kernel
theorem dX1_gives_68 : decode cX1_gives 68 = .ok (.goto 4, 3) := by decide +kernel
theorem dX1_gives_71 : decode cX1_gives 71 = .ok (.iload_n 3, 1) := by decide +kernel
theorem dX1_gives_72 : decode cX1_gives 72 = .ok (.istore 4, 2) := by decide +kernel
theorem dX1_gives_74 : decode cX1_gives 74 = .ok (.goto 34, 3) := by decide +kernel
theorem dX1_gives_77 : decode cX1_gives 77 = .ok (.aload_n 0, 1) := by decide +kernel
theorem dX1_gives_78 : decode cX1_gives 78 = .ok (.getfield 21, 3) := by decide +kernel
theorem dX1_gives_81 : decode cX1_gives 81 = .ok (.iload 5, 2) := by decide +kernel
theorem dX1_gives_83 : decode cX1_gives 83 = .ok (.iaload, 1) := by decide +kernel
theorem dX1_gives_84 : decode cX1_gives 84 = .ok (.aload_n 0, 1) := by decide +kernel
theorem dX1_gives_85 : decode cX1_gives 85 = .ok (.getfield 31, 3) := by decide +kernel
theorem dX1_gives_88 : decode cX1_gives 88 = .ok (.iload 6, 2) := by decide +kernel
theorem dX1_gives_90 : decode cX1_gives 90 = .ok (.iaload, 1) := by decide +kernel
theorem dX1_gives_91 : decode cX1_gives 91 = .ok (.aload_n 0, 1) := by decide +kernel
theorem dX1_gives_92 : decode cX1_gives 92 = .ok (.getfield 31, 3) := by decide +kernel
theorem dX1_gives_95 : decode cX1_gives 95 = .ok (.aload_n 0, 1) := by decide +kernel
theorem dX1_gives_96 : decode cX1_gives 96 = .ok (.getfield 28, 3) := by decide +kernel
theorem dX1_gives_99 : decode cX1_gives 99 = .ok (.iload 5, 2) := by decide +kernel
theorem dX1_gives_101 : decode cX1_gives 101 = .ok (.iaload, 1) := by decide +kernel
theorem dX1_gives_102 : decode cX1_gives 102 = .ok (.iaload, 1) := by decide +kernel
theorem dX1_gives_103 : decode cX1_gives 103 = .ok (.invokestatic 42, 3) := by decide +kernel
theorem dX1_gives_106 : decode cX1_gives 106 = .ok (.istore 4, 2) := by decide +kernel
theorem dX1_gives_108 : decode cX1_gives 108 = .ok (.aload_n 0, 1) := by decide +kernel
theorem dX1_gives_109 : decode cX1_gives 109 = .ok (.getfield 31, 3) := by decide +kernel
theorem dX1_gives_112 : decode cX1_gives 112 = .ok (.iload 5, 2) := by decide +kernel
theorem dX1_gives_114 : decode cX1_gives 114 = .ok (.iload 4, 2) := by decide +kernel
theorem dX1_gives_116 : decode cX1_gives 116 = .ok (.iastore, 1) := by decide +kernel
theorem dX1_gives_117 : decode cX1_gives 117 = .ok (.iinc 5 1, 3) := by decide +kernel
theorem dX1_gives_120 : decode cX1_gives 120 = .ok (.goto (-114), 3) := by decide +kernel
theorem dX1_gives_123 : decode cX1_gives 123 = .ok (.iload 4, 2) := by decide +kernel
theorem dX1_gives_125 : decode cX1_gives 125 = .ok (.ireturn, 1) := by decide +kernel
theorem dX1_work_0 : decode cX1_work 0 = .ok (.iload_n 0, 1) := by decide +kernel
theorem dX1_work_1 : decode cX1_work 1 = .ok (.lookupswitch 186 #[(33, 176), (38, 105), (42, 160), (43, 152), (45, 156), (47, 164), (60, 119), (61, 130), (62, 141), (124, 91)], 91) := by decide +kernel
theorem dX1_work_92 : decode cX1_work 92 = .ok (.iload_n 1, 1) := by decide +kernel
theorem dX1_work_93 : decode cX1_work 93 = .ok (.ifCond .ne 7, 3) := by decide +kernel
theorem dX1_work_96 : decode cX1_work 96 = .ok (.iload_n 2, 1) := by decide +kernel
theorem dX1_work_97 : decode cX1_work 97 = .ok (.ifCond .eq 7, 3) := by decide +kernel
theorem dX1_work_100 : decode cX1_work 100 = .ok (.iconst 1, 1) := by decide +kernel
theorem dX1_work_101 : decode cX1_work 101 = .ok (.goto 4, 3) := by decide +kernel
theorem dX1_work_104 : decode cX1_work 104 = .ok (.iconst 0, 1) := by decide +kernel
theorem dX1_work_105 : decode cX1_work 105 = .ok (.ireturn, 1) := by decide +kernel
theorem dX1_work_106 : decode cX1_work 106 = .ok (.iload_n 1, 1) := by decide +kernel
theorem dX1_work_107 : decode cX1_work 107 = .ok (.ifCond .eq 11, 3) := by decide +kernel
theorem dX1_work_110 : decode cX1_work 110 = .ok (.iload_n 2, 1) := by decide +kernel
theorem dX1_work_111 : decode cX1_work 111 = .ok (.ifCond .eq 7, 3) := by decide +kernel
theorem dX1_work_114 : decode cX1_work 114 = .ok (.iconst 1, 1) := by decide +kernel
theorem dX1_work_115 : decode cX1_work 115 = .ok (.goto 4, 3) := by decide +kernel
theorem dX1_work_118 : decode cX1_work 118 = .ok (.iconst 0, 1) := by decide +kernel
theorem dX1_work_119 : decode cX1_work 119 = .ok (.ireturn, 1) := by decide +kernel
theorem dX1_work_120 : decode cX1_work 120 = .ok (.iload_n 1, 1) := by decide +kernel
theorem dX1_work_121 : decode cX1_work 121 = .ok (.iload_n 2, 1) := by decide +kernel
theorem dX1_work_122 : decode cX1_work 122 = .ok (.if_icmp .ge 7, 3) := by decide +kernel
theorem dX1_work_125 : decode cX1_work 125 = .ok (.iconst 1, 1) := by decide +kernel
theorem dX1_work_126 : decode cX1_work 126 = .ok (.goto 4, 3) := by decide +kernel
theorem dX1_work_129 : decode cX1_work 129 = .ok (.iconst 0, 1) := by decide +kernel
theorem dX1_work_130 : decode cX1_work 130 = .ok (.ireturn, 1) := by decide +kernel
theorem dX1_work_131 : decode cX1_work 131 = .ok (.iload_n 1, 1) := by decide +kernel
theorem dX1_work_132 : decode cX1_work 132 = .ok (.iload_n 2, 1) := by decide +kernel
theorem dX1_work_133 : decode cX1_work 133 = .ok (.if_icmp .ne 7, 3) := by decide +kernel
theorem dX1_work_136 : decode cX1_work 136 = .ok (.iconst 1, 1) := by decide +kernel
theorem dX1_work_137 : decode cX1_work 137 = .ok (.goto 4, 3) := by decide +kernel
theorem dX1_work_140 : decode cX1_work 140 = .ok (.iconst 0, 1) := by decide +kernel
theorem dX1_work_141 : decode cX1_work 141 = .ok (.ireturn, 1) := by decide +kernel
theorem dX1_work_142 : decode cX1_work 142 = .ok (.iload_n 1, 1) := by decide +kernel
theorem dX1_work_143 : decode cX1_work 143 = .ok (.iload_n 2, 1) := by decide +kernel
theorem dX1_work_144 : decode cX1_work 144 = .ok (.if_icmp .le 7, 3) := by decide +kernel
theorem dX1_work_147 : decode cX1_work 147 = .ok (.iconst 1, 1) := by decide +kernel
theorem dX1_work_148 : decode cX1_work 148 = .ok (.goto 4, 3) := by decide +kernel
theorem dX1_work_151 : decode cX1_work 151 = .ok (.iconst 0, 1) := by decide +kernel
theorem dX1_work_152 : decode cX1_work 152 = .ok (.ireturn, 1) := by decide +kernel
theorem dX1_work_153 : decode cX1_work 153 = .ok (.iload_n 1, 1) := by decide +kernel
theorem dX1_work_154 : decode cX1_work 154 = .ok (.iload_n 2, 1) := by decide +kernel
theorem dX1_work_155 : decode cX1_work 155 = .ok (.iadd, 1) := by decide +kernel
theorem dX1_work_156 : decode cX1_work 156 = .ok (.ireturn, 1) := by decide +kernel
theorem dX1_work_157 : decode cX1_work 157 = .ok (.iload_n 1, 1) := by decide +kernel
theorem dX1_work_158 : decode cX1_work 158 = .ok (.iload_n 2, 1) := by decide +kernel
theorem dX1_work_159 : decode cX1_work 159 = .ok (.isub, 1) := by decide +kernel
theorem dX1_work_160 : decode cX1_work 160 = .ok (.ireturn, 1) := by decide +kernel
theorem dX1_work_161 : decode cX1_work 161 = .ok (.iload_n 1, 1) := by decide +kernel
theorem dX1_work_162 : decode cX1_work 162 = .ok (.iload_n 2, 1) := by decide +kernel
theorem dX1_work_163 : decode cX1_work 163 = .ok (.imul, 1) := by decide +kernel
theorem dX1_work_164 : decode cX1_work 164 = .ok (.ireturn, 1) := by decide +kernel
theorem dX1_work_165 : decode cX1_work 165 = .ok (.iload_n 2, 1) := by decide +kernel
theorem dX1_work_166 : decode cX1_work 166 = .ok (.ifCond .ne 7, 3) := by decide +kernel
theorem dX1_work_169 : decode cX1_work 169 = .ok (.iconst 0, 1) := by decide +kernel
theorem dX1_work_170 : decode cX1_work 170 = .ok (.goto 6, 3) := by decide +kernel
theorem dX1_work_173 : decode cX1_work 173 = .ok (.iload_n 1, 1) := by decide +kernel
theorem dX1_work_174 : decode cX1_work 174 = .ok (.iload_n 2, 1) := by decide +kernel
theorem dX1_work_175 : decode cX1_work 175 = .ok (.idiv, 1) := by decide +kernel
theorem dX1_work_176 : decode cX1_work 176 = .ok (.ireturn, 1) := by decide +kernel
theorem dX1_work_177 : decode cX1_work 177 = .ok (.iload_n 1, 1) := by decide +kernel
theorem dX1_work_178 : decode cX1_work 178 = .ok (.ifCond .ne 7, 3) := by decide +kernel
theorem dX1_work_181 : decode cX1_work 181 = .ok (.iconst 1, 1) := by decide +kernel
theorem dX1_work_182 : decode cX1_work 182 = .ok (.goto 4, 3) := by decide +kernel
theorem dX1_work_185 : decode cX1_work 185 = .ok (.iconst 0, 1) := by decide +kernel
theorem dX1_work_186 : decode cX1_work 186 = .ok (.ireturn, 1) := by decide +kernel
theorem dX1_work_187 : decode cX1_work 187 = .ok (.iconst 0, 1) := by decide +kernel
theorem dX1_work_188 : decode cX1_work 188 = .ok (.ireturn, 1) := by decide +kernel
theorem dX2_init_0 : decode cX2_init 0 = .ok (.aload_n 0, 1) := by decide +kernel
theorem dX2_init_1 : decode cX2_init 1 = .ok (.invokespecial 3, 3) := by decide +kernel
theorem dX2_init_4 : decode cX2_init 4 = .ok (.aload_n 0, 1) := by decide +kernel
theorem dX2_init_5 : decode cX2_init 5 = .ok (.bipush 8, 2) := by decide +kernel
theorem dX2_init_7 : decode cX2_init 7 = .ok (.anewarray 9, 3) := by decide +kernel
theorem dX2_init_10 : decode cX2_init 10 = .ok (.putfield 11, 3) := by decide +kernel
theorem dX2_init_13 : decode cX2_init 13 = .ok (.aload_n 0, 1) := by decide +kernel
theorem dX2_init_14 : decode cX2_init 14 = .ok (.bipush 8, 2) := by decide +kernel
theorem dX2_init_16 : decode cX2_init 16 = .ok (.newarray .int, 2) := by decide +kernel
theorem dX2_init_18 : decode cX2_init 18 = .ok (.putfield 17, 3) := by decide +kernel
theorem dX2_init_21 : decode cX2_init 21 = .ok (.aload_n 0, 1) := by decide +kernel
theorem dX2_init_22 : decode cX2_init 22 = .ok (.bipush 8, 2) := by decide +kernel
theorem dX2_init_24 : decode cX2_init 24 = .ok (.newarray .int, 2) := by decide +kernel
theorem dX2_init_26 : decode cX2_init 26 = .ok (.putfield 21, 3) := by decide +kernel
theorem dX2_init_29 : decode cX2_init 29 = .ok (.aload_n 0, 1) := by decide +kernel
theorem dX2_init_30 : decode cX2_init 30 = .ok (.iconst 3, 1) := by decide +kernel
theorem dX2_init_31 : decode cX2_init 31 = .ok (.newarray .int, 2) := by decide +kernel
theorem dX2_init_33 : decode cX2_init 33 = .ok (.putfield 24, 3) := by decide +kernel
theorem dX2_init_36 : decode cX2_init 36 = .ok (.aload_n 0, 1) := by decide +kernel
theorem dX2_init_37 : decode cX2_init 37 = .ok (.iconst 0, 1) := by decide +kernel
theorem dX2_init_38 : decode cX2_init 38 = .ok (.putfield 27, 3) := by decide +kernel
theorem dX2_init_41 : decode cX2_init 41 = .ok (.aload_n 0, 1) := by decide +kernel
theorem dX2_init_42 : decode cX2_init 42 = .ok (.iconst 4, 1) := by decide +kernel
theorem dX2_init_43 : decode cX2_init 43 = .ok (.putfield 31, 3) := by decide +kernel
theorem dX2_init_46 : decode cX2_init 46 = .ok (.aload_n 0, 1) := by decide +kernel
theorem dX2_init_47 : decode cX2_init 47 = .ok (.bipush 9, 2) := by decide +kernel
theorem dX2_init_49 : decode cX2_init 49 = .ok (.putfield 34, 3) := by decide +kernel
theorem dX2_init_52 : decode cX2_init 52 = .ok (.aload_n 0, 1) := by decide +kernel
theorem dX2_init_53 : decode cX2_init 53 = .ok (.iconst 0, 1) := by decide +kernel
theorem dX2_init_54 : decode cX2_init 54 = .ok (.putfield 37, 3) := by decide +kernel
theorem dX2_init_57 : decode cX2_init 57 = .ok (.aload_n 0, 1) := by decide +kernel
theorem dX2_init_58 : decode cX2_init 58 = .ok (.iconst 1, 1) := by decide +kernel
theorem dX2_init_59 : decode cX2_init 59 = .ok (.putfield 40, 3) := by decide +kernel
theorem dX2_init_62 : decode cX2_init 62 = .ok (.aload_n 0, 1) := by decide +kernel
theorem dX2_init_63 : decode cX2_init 63 = .ok (.iconst 0, 1) := by decide +kernel
theorem dX2_init_64 : decode cX2_init 64 = .ok (.putfield 43, 3) := by decide +kernel
theorem dX2_init_67 : decode cX2_init 67 = .ok (.aload_n 0, 1) := by decide +kernel
theorem dX2_init_68 : decode cX2_init 68 = .ok (.aload_n 1, 1) := by decide +kernel
theorem dX2_init_69 : decode cX2_init 69 = .ok (.putfield 46, 3) := by decide +kernel
theorem dX2_init_72 : decode cX2_init 72 = .ok (.iconst 0, 1) := by decide +kernel
theorem dX2_init_73 : decode cX2_init 73 = .ok (.istore_n 2, 1) := by decide +kernel
theorem dX2_init_74 : decode cX2_init 74 = .ok (.iload_n 2, 1) := by decide +kernel
theorem dX2_init_75 : decode cX2_init 75 = .ok (.bipush 8, 2) := by decide +kernel
theorem dX2_init_77 : decode cX2_init 77 = .ok (.if_icmp .ge 22, 3) := by decide +kernel
theorem dX2_init_80 : decode cX2_init 80 = .ok (.aload_n 0, 1) := by decide +kernel
theorem dX2_init_81 : decode cX2_init 81 = .ok (.getfield 11, 3) := by decide +kernel
theorem dX2_init_84 : decode cX2_init 84 = .ok (.iload_n 2, 1) := by decide +kernel
theorem dX2_init_85 : decode cX2_init 85 = .ok (.new 9, 3) := by decide +kernel
theorem dX2_init_88 : decode cX2_init 88 = .ok (.dup, 1) := by decide +kernel
theorem dX2_init_89 : decode cX2_init 89 = .ok (.invokespecial 50, 3) := by decide +kernel
theorem dX2_init_92 : decode cX2_init 92 = .ok (.aastore, 1) := by decide +kernel
theorem dX2_init_93 : decode cX2_init 93 = .ok (.iinc 2 1, 3) := by decide +kernel
theorem dX2_init_96 : decode cX2_init 96 = .ok (.goto (-22), 3) := by decide +kernel
theorem dX2_init_99 : decode cX2_init 99 = .ok (.iconst 0, 1) := by decide +kernel
theorem dX2_init_100 : decode cX2_init 100 = .ok (.istore_n 2, 1) := by decide +kernel
theorem dX2_init_101 : decode cX2_init 101 = .ok (.iload_n 2, 1) := by decide +kernel
theorem dX2_init_102 : decode cX2_init 102 = .ok (.iconst 3, 1) := by decide +kernel
theorem dX2_init_103 : decode cX2_init 103 = .ok (.if_icmp .ge 16, 3) := by decide +kernel
theorem dX2_init_106 : decode cX2_init 106 = .ok (.aload_n 0, 1) := by decide +kernel
theorem dX2_init_107 : decode cX2_init 107 = .ok (.getfield 24, 3) := by decide +kernel
theorem dX2_init_110 : decode cX2_init 110 = .ok (.iload_n 2, 1) := by decide +kernel
theorem dX2_init_111 : decode cX2_init 111 = .ok (.iconst (-1), 1) := by decide +kernel
theorem dX2_init_112 : decode cX2_init 112 = .ok (.iastore, 1) := by decide +kernel
theorem dX2_init_113 : decode cX2_init 113 = .ok (.iinc 2 1, 3) := by decide +kernel
theorem dX2_init_116 : decode cX2_init 116 = .ok (.goto (-15), 3) := by decide +kernel
theorem dX2_init_119 : decode cX2_init 119 = .ok (.return_, 1) := by decide +kernel
theorem dX2_become_0 : decode cX2_become 0 = .ok (.iconst 0, 1) := by decide +kernel
theorem dX2_become_1 : decode cX2_become 1 = .ok (.istore_n 2, 1) := by decide +kernel
theorem dX2_become_2 : decode cX2_become 2 = .ok (.iload_n 2, 1) := by decide +kernel
theorem dX2_become_3 : decode cX2_become 3 = .ok (.bipush 8, 2) := by decide +kernel
theorem dX2_become_5 : decode cX2_become 5 = .ok (.if_icmp .ge 36, 3) := by decide +kernel
theorem dX2_become_8 : decode cX2_become 8 = .ok (.aload_n 0, 1) := by decide +kernel
theorem dX2_become_9 : decode cX2_become 9 = .ok (.getfield 11, 3) := by decide +kernel
theorem dX2_become_12 : decode cX2_become 12 = .ok (.iload_n 2, 1) := by decide +kernel
theorem dX2_become_13 : decode cX2_become 13 = .ok (.aaload, 1) := by decide +kernel
theorem dX2_become_14 : decode cX2_become 14 = .ok (.aload_n 1, 1) := by decide +kernel
theorem dX2_become_15 : decode cX2_become 15 = .ok (.getfield 11, 3) := by decide +kernel
theorem dX2_become_18 : decode cX2_become 18 = .ok (.iload_n 2, 1) := by decide +kernel
theorem dX2_become_19 : decode cX2_become 19 = .ok (.aaload, 1) := by decide +kernel
theorem dX2_become_20 : decode cX2_become 20 = .ok (.invokevirtual 51, 3) := by decide +kernel
theorem dX2_become_23 : decode cX2_become 23 = .ok (.aload_n 0, 1) := by decide +kernel
theorem dX2_become_24 : decode cX2_become 24 = .ok (.getfield 17, 3) := by decide +kernel
theorem dX2_become_27 : decode cX2_become 27 = .ok (.iload_n 2, 1) := by decide +kernel
theorem dX2_become_28 : decode cX2_become 28 = .ok (.aload_n 1, 1) := by decide +kernel
theorem dX2_become_29 : decode cX2_become 29 = .ok (.getfield 17, 3) := by decide +kernel
theorem dX2_become_32 : decode cX2_become 32 = .ok (.iload_n 2, 1) := by decide +kernel
theorem dX2_become_33 : decode cX2_become 33 = .ok (.iaload, 1) := by decide +kernel
theorem dX2_become_34 : decode cX2_become 34 = .ok (.iastore, 1) := by decide +kernel
theorem dX2_become_35 : decode cX2_become 35 = .ok (.iinc 2 1, 3) := by decide +kernel
theorem dX2_become_38 : decode cX2_become 38 = .ok (.goto (-36), 3) := by decide +kernel
theorem dX2_become_41 : decode cX2_become 41 = .ok (.iconst 0, 1) := by decide +kernel
theorem dX2_become_42 : decode cX2_become 42 = .ok (.istore_n 2, 1) := by decide +kernel
theorem dX2_become_43 : decode cX2_become 43 = .ok (.iload_n 2, 1) := by decide +kernel
theorem dX2_become_44 : decode cX2_become 44 = .ok (.iconst 3, 1) := by decide +kernel
theorem dX2_become_45 : decode cX2_become 45 = .ok (.if_icmp .ge 21, 3) := by decide +kernel
theorem dX2_become_48 : decode cX2_become 48 = .ok (.aload_n 0, 1) := by decide +kernel
theorem dX2_become_49 : decode cX2_become 49 = .ok (.getfield 24, 3) := by decide +kernel
theorem dX2_become_52 : decode cX2_become 52 = .ok (.iload_n 2, 1) := by decide +kernel
theorem dX2_become_53 : decode cX2_become 53 = .ok (.aload_n 1, 1) := by decide +kernel
theorem dX2_become_54 : decode cX2_become 54 = .ok (.getfield 24, 3) := by decide +kernel
theorem dX2_become_57 : decode cX2_become 57 = .ok (.iload_n 2, 1) := by decide +kernel
theorem dX2_become_58 : decode cX2_become 58 = .ok (.iaload, 1) := by decide +kernel
theorem dX2_become_59 : decode cX2_become 59 = .ok (.iastore, 1) := by decide +kernel
theorem dX2_become_60 : decode cX2_become 60 = .ok (.iinc 2 1, 3) := by decide +kernel
theorem dX2_become_63 : decode cX2_become 63 = .ok (.goto (-20), 3) := by decide +kernel
theorem dX2_become_66 : decode cX2_become 66 = .ok (.aload_n 0, 1) := by decide +kernel
theorem dX2_become_67 : decode cX2_become 67 = .ok (.aload_n 1, 1) := by decide +kernel
theorem dX2_become_68 : decode cX2_become 68 = .ok (.getfield 27, 3) := by decide +kernel
theorem dX2_become_71 : decode cX2_become 71 = .ok (.putfield 27, 3) := by decide +kernel
theorem dX2_become_74 : decode cX2_become 74 = .ok (.aload_n 0, 1) := by decide +kernel
theorem dX2_become_75 : decode cX2_become 75 = .ok (.aload_n 1, 1) := by decide +kernel
theorem dX2_become_76 : decode cX2_become 76 = .ok (.getfield 31, 3) := by decide +kernel
theorem dX2_become_79 : decode cX2_become 79 = .ok (.putfield 31, 3) := by decide +kernel
theorem dX2_become_82 : decode cX2_become 82 = .ok (.aload_n 0, 1) := by decide +kernel
theorem dX2_become_83 : decode cX2_become 83 = .ok (.aload_n 1, 1) := by decide +kernel
theorem dX2_become_84 : decode cX2_become 84 = .ok (.getfield 34, 3) := by decide +kernel
theorem dX2_become_87 : decode cX2_become 87 = .ok (.putfield 34, 3) := by decide +kernel
theorem dX2_become_90 : decode cX2_become 90 = .ok (.aload_n 0, 1) := by decide +kernel
theorem dX2_become_91 : decode cX2_become 91 = .ok (.aload_n 1, 1) := by decide +kernel
theorem dX2_become_92 : decode cX2_become 92 = .ok (.getfield 37, 3) := by decide +kernel
theorem dX2_become_95 : decode cX2_become 95 = .ok (.putfield 37, 3) := by decide +kernel
theorem dX2_become_98 : decode cX2_become 98 = .ok (.aload_n 0, 1) := by decide +kernel
theorem dX2_become_99 : decode cX2_become 99 = .ok (.aload_n 1, 1) := by decide +kernel
theorem dX2_become_100 : decode cX2_become 100 = .ok (.getfield 40, 3) := by decide +kernel
theorem dX2_become_103 : decode cX2_become 103 = .ok (.putfield 40, 3) := by decide +kernel
theorem dX2_become_106 : decode cX2_become 106 = .ok (.aload_n 0, 1) := by decide +kernel
theorem dX2_become_107 : decode cX2_become 107 = .ok (.aload_n 1, 1) := by decide +kernel
theorem dX2_become_108 : decode cX2_become 108 = .ok (.getfield 43, 3) := by decide +kernel
theorem dX2_become_111 : decode cX2_become 111 = .ok (.putfield 43, 3) := by decide +kernel
theorem dX2_become_114 : decode cX2_become 114 = .ok (.return_, 1) := by decide +kernel
theorem dX2_lightOne_0 : decode cX2_lightOne 0 = .ok (.aload_n 0, 1) := by decide +kernel
theorem dX2_lightOne_1 : decode cX2_lightOne 1 = .ok (.getfield 27, 3) := by decide +kernel
theorem dX2_lightOne_4 : decode cX2_lightOne 4 = .ok (.bipush 8, 2) := by decide +kernel
theorem dX2_lightOne_6 : decode cX2_lightOne 6 = .ok (.if_icmp .lt 6, 3) := by decide +kernel
theorem dX2_lightOne_9 : decode cX2_lightOne 9 = .ok (.ldc 55, 2) := by decide +kernel
theorem dX2_lightOne_11 : decode cX2_lightOne 11 = .ok (.ireturn, 1) := by decide +kernel
theorem dX2_lightOne_12 : decode cX2_lightOne 12 = .ok (.aload_n 0, 1) := by decide +kernel
theorem dX2_lightOne_13 : decode cX2_lightOne 13 = .ok (.getfield 11, 3) := by decide +kernel
theorem dX2_lightOne_16 : decode cX2_lightOne 16 = .ok (.aload_n 0, 1) := by decide +kernel
theorem dX2_lightOne_17 : decode cX2_lightOne 17 = .ok (.getfield 27, 3) := by decide +kernel
theorem dX2_lightOne_20 : decode cX2_lightOne 20 = .ok (.aaload, 1) := by decide +kernel
theorem dX2_lightOne_21 : decode cX2_lightOne 21 = .ok (.iload_n 1, 1) := by decide +kernel
theorem dX2_lightOne_22 : decode cX2_lightOne 22 = .ok (.iload_n 2, 1) := by decide +kernel
theorem dX2_lightOne_23 : decode cX2_lightOne 23 = .ok (.iload_n 3, 1) := by decide +kernel
theorem dX2_lightOne_24 : decode cX2_lightOne 24 = .ok (.iload 4, 2) := by decide +kernel
theorem dX2_lightOne_26 : decode cX2_lightOne 26 = .ok (.invokevirtual 56, 3) := by decide +kernel
theorem dX2_lightOne_29 : decode cX2_lightOne 29 = .ok (.aload_n 0, 1) := by decide +kernel
theorem dX2_lightOne_30 : decode cX2_lightOne 30 = .ok (.dup, 1) := by decide +kernel
theorem dX2_lightOne_31 : decode cX2_lightOne 31 = .ok (.getfield 27, 3) := by decide +kernel
theorem dX2_lightOne_34 : decode cX2_lightOne 34 = .ok (.iconst 1, 1) := by decide +kernel
theorem dX2_lightOne_35 : decode cX2_lightOne 35 = .ok (.iadd, 1) := by decide +kernel
theorem dX2_lightOne_36 : decode cX2_lightOne 36 = .ok (.putfield 27, 3) := by decide +kernel
theorem dX2_lightOne_39 : decode cX2_lightOne 39 = .ok (.aload_n 0, 1) := by decide +kernel
theorem dX2_lightOne_40 : decode cX2_lightOne 40 = .ok (.getfield 27, 3) := by decide +kernel
theorem dX2_lightOne_43 : decode cX2_lightOne 43 = .ok (.iconst 1, 1) := by decide +kernel
theorem dX2_lightOne_44 : decode cX2_lightOne 44 = .ok (.isub, 1) := by decide +kernel
theorem dX2_lightOne_45 : decode cX2_lightOne 45 = .ok (.ireturn, 1) := by decide +kernel
theorem dX2_drawOne_0 : decode cX2_drawOne 0 = .ok (.aload_n 0, 1) := by decide +kernel
theorem dX2_drawOne_1 : decode cX2_drawOne 1 = .ok (.invokevirtual 60, 3) := by decide +kernel
theorem dX2_drawOne_4 : decode cX2_drawOne 4 = .ok (.iconst 5, 1) := by decide +kernel
theorem dX2_drawOne_5 : decode cX2_drawOne 5 = .ok (.irem, 1) := by decide +kernel
theorem dX2_drawOne_6 : decode cX2_drawOne 6 = .ok (.istore_n 1, 1) := by decide +kernel
theorem dX2_drawOne_7 : decode cX2_drawOne 7 = .ok (.aload_n 0, 1) := by decide +kernel
theorem dX2_drawOne_8 : decode cX2_drawOne 8 = .ok (.invokevirtual 60, 3) := by decide +kernel
theorem dX2_drawOne_11 : decode cX2_drawOne 11 = .ok (.bipush 30, 2) := by decide +kernel
theorem dX2_drawOne_13 : decode cX2_drawOne 13 = .ok (.irem, 1) := by decide +kernel
theorem dX2_drawOne_14 : decode cX2_drawOne 14 = .ok (.istore_n 2, 1) := by decide +kernel
theorem dX2_drawOne_15 : decode cX2_drawOne 15 = .ok (.aload_n 0, 1) := by decide +kernel
theorem dX2_drawOne_16 : decode cX2_drawOne 16 = .ok (.invokevirtual 60, 3) := by decide +kernel
theorem dX2_drawOne_19 : decode cX2_drawOne 19 = .ok (.bipush 30, 2) := by decide +kernel
theorem dX2_drawOne_21 : decode cX2_drawOne 21 = .ok (.irem, 1) := by decide +kernel
theorem dX2_drawOne_22 : decode cX2_drawOne 22 = .ok (.istore_n 3, 1) := by decide +kernel
theorem dX2_drawOne_23 : decode cX2_drawOne 23 = .ok (.iconst 1, 1) := by decide +kernel
theorem dX2_drawOne_24 : decode cX2_drawOne 24 = .ok (.aload_n 0, 1) := by decide +kernel
theorem dX2_drawOne_25 : decode cX2_drawOne 25 = .ok (.invokevirtual 60, 3) := by decide +kernel
theorem dX2_drawOne_28 : decode cX2_drawOne 28 = .ok (.bipush 9, 2) := by decide +kernel
theorem dX2_drawOne_30 : decode cX2_drawOne 30 = .ok (.irem, 1) := by decide +kernel
theorem dX2_drawOne_31 : decode cX2_drawOne 31 = .ok (.iadd, 1) := by decide +kernel
theorem dX2_drawOne_32 : decode cX2_drawOne 32 = .ok (.istore 4, 2) := by decide +kernel
theorem dX2_drawOne_34 : decode cX2_drawOne 34 = .ok (.aload_n 0, 1) := by decide +kernel
theorem dX2_drawOne_35 : decode cX2_drawOne 35 = .ok (.invokevirtual 60, 3) := by decide +kernel
theorem dX2_drawOne_38 : decode cX2_drawOne 38 = .ok (.bipush 120, 2) := by decide +kernel
theorem dX2_drawOne_40 : decode cX2_drawOne 40 = .ok (.irem, 1) := by decide +kernel
theorem dX2_drawOne_41 : decode cX2_drawOne 41 = .ok (.istore 5, 2) := by decide +kernel
theorem dX2_drawOne_43 : decode cX2_drawOne 43 = .ok (.aload_n 0, 1) := by decide +kernel
theorem dX2_drawOne_44 : decode cX2_drawOne 44 = .ok (.iload_n 1, 1) := by decide +kernel
theorem dX2_drawOne_45 : decode cX2_drawOne 45 = .ok (.iload_n 2, 1) := by decide +kernel
theorem dX2_drawOne_46 : decode cX2_drawOne 46 = .ok (.iload_n 3, 1) := by decide +kernel
theorem dX2_drawOne_47 : decode cX2_drawOne 47 = .ok (.iload 4, 2) := by decide +kernel
theorem dX2_drawOne_49 : decode cX2_drawOne 49 = .ok (.invokevirtual 64, 3) := by decide +kernel
theorem dX2_drawOne_52 : decode cX2_drawOne 52 = .ok (.istore 6, 2) := by decide +kernel
theorem dX2_drawOne_54 : decode cX2_drawOne 54 = .ok (.iload 6, 2) := by decide +kernel
theorem dX2_drawOne_56 : decode cX2_drawOne 56 = .ok (.ifCond .lt 15, 3) := by decide +kernel
theorem dX2_drawOne_59 : decode cX2_drawOne 59 = .ok (.aload_n 0, 1) := by decide +kernel
theorem dX2_drawOne_60 : decode cX2_drawOne 60 = .ok (.getfield 11, 3) := by decide +kernel
theorem dX2_drawOne_63 : decode cX2_drawOne 63 = .ok (.iload 6, 2) := by decide +kernel
theorem dX2_drawOne_65 : decode cX2_drawOne 65 = .ok (.aaload, 1) := by decide +kernel
theorem dX2_drawOne_66 : decode cX2_drawOne 66 = .ok (.iload 5, 2) := by decide +kernel
theorem dX2_drawOne_68 : decode cX2_drawOne 68 = .ok (.putfield 68, 3) := by decide +kernel
theorem dX2_drawOne_71 : decode cX2_drawOne 71 = .ok (.return_, 1) := by decide +kernel
theorem dX2_draw_0 : decode cX2_draw 0 = .ok (.aload_n 0, 1) := by decide +kernel
theorem dX2_draw_1 : decode cX2_draw 1 = .ok (.aload_n 0, 1) := by decide +kernel
theorem dX2_draw_2 : decode cX2_draw 2 = .ok (.getfield 40, 3) := by decide +kernel
theorem dX2_draw_5 : decode cX2_draw 5 = .ok (.ldc 71, 2) := by decide +kernel
theorem dX2_draw_7 : decode cX2_draw 7 = .ok (.imul, 1) := by decide +kernel
theorem dX2_draw_8 : decode cX2_draw 8 = .ok (.sipush 12345, 3) := by decide +kernel
theorem dX2_draw_11 : decode cX2_draw 11 = .ok (.iadd, 1) := by decide +kernel
theorem dX2_draw_12 : decode cX2_draw 12 = .ok (.putfield 40, 3) := by decide +kernel
theorem dX2_draw_15 : decode cX2_draw 15 = .ok (.aload_n 0, 1) := by decide +kernel
theorem dX2_draw_16 : decode cX2_draw 16 = .ok (.getfield 40, 3) := by decide +kernel
theorem dX2_draw_19 : decode cX2_draw 19 = .ok (.bipush 8, 2) := by decide +kernel
theorem dX2_draw_21 : decode cX2_draw 21 = .ok (.iushr, 1) := by decide +kernel
theorem dX2_draw_22 : decode cX2_draw 22 = .ok (.ireturn, 1) := by decide +kernel
theorem dX2_hasGlass_0 : decode cX2_hasGlass 0 = .ok (.aload_n 0, 1) := by decide +kernel
theorem dX2_hasGlass_1 : decode cX2_hasGlass 1 = .ok (.getfield 17, 3) := by decide +kernel
theorem dX2_hasGlass_4 : decode cX2_hasGlass 4 = .ok (.iload_n 1, 1) := by decide +kernel
theorem dX2_hasGlass_5 : decode cX2_hasGlass 5 = .ok (.iaload, 1) := by decide +kernel
theorem dX2_hasGlass_6 : decode cX2_hasGlass 6 = .ok (.iload_n 2, 1) := by decide +kernel
theorem dX2_hasGlass_7 : decode cX2_hasGlass 7 = .ok (.iushr, 1) := by decide +kernel
theorem dX2_hasGlass_8 : decode cX2_hasGlass 8 = .ok (.iconst 1, 1) := by decide +kernel
theorem dX2_hasGlass_9 : decode cX2_hasGlass 9 = .ok (.iand, 1) := by decide +kernel
theorem dX2_hasGlass_10 : decode cX2_hasGlass 10 = .ok (.iconst 1, 1) := by decide +kernel
theorem dX2_hasGlass_11 : decode cX2_hasGlass 11 = .ok (.if_icmp .ne 7, 3) := by decide +kernel
theorem dX2_hasGlass_14 : decode cX2_hasGlass 14 = .ok (.iconst 1, 1) := by decide +kernel
theorem dX2_hasGlass_15 : decode cX2_hasGlass 15 = .ok (.goto 4, 3) := by decide +kernel
theorem dX2_hasGlass_18 : decode cX2_hasGlass 18 = .ok (.iconst 0, 1) := by decide +kernel
theorem dX2_hasGlass_19 : decode cX2_hasGlass 19 = .ok (.ireturn, 1) := by decide +kernel
theorem dX2_putGlass_0 : decode cX2_putGlass 0 = .ok (.iconst 1, 1) := by decide +kernel
theorem dX2_putGlass_1 : decode cX2_putGlass 1 = .ok (.iload_n 2, 1) := by decide +kernel
theorem dX2_putGlass_2 : decode cX2_putGlass 2 = .ok (.ishl, 1) := by decide +kernel
theorem dX2_putGlass_3 : decode cX2_putGlass 3 = .ok (.istore 4, 2) := by decide +kernel
theorem dX2_putGlass_5 : decode cX2_putGlass 5 = .ok (.iconst 1, 1) := by decide +kernel
theorem dX2_putGlass_6 : decode cX2_putGlass 6 = .ok (.iload_n 1, 1) := by decide +kernel
theorem dX2_putGlass_7 : decode cX2_putGlass 7 = .ok (.ishl, 1) := by decide +kernel
theorem dX2_putGlass_8 : decode cX2_putGlass 8 = .ok (.istore 5, 2) := by decide +kernel
theorem dX2_putGlass_10 : decode cX2_putGlass 10 = .ok (.aload_n 0, 1) := by decide +kernel
theorem dX2_putGlass_11 : decode cX2_putGlass 11 = .ok (.getfield 17, 3) := by decide +kernel
theorem dX2_putGlass_14 : decode cX2_putGlass 14 = .ok (.iload_n 1, 1) := by decide +kernel
theorem dX2_putGlass_15 : decode cX2_putGlass 15 = .ok (.iload_n 3, 1) := by decide +kernel
theorem dX2_putGlass_16 : decode cX2_putGlass 16 = .ok (.ifCond .eq 15, 3) := by decide +kernel
theorem dX2_putGlass_19 : decode cX2_putGlass 19 = .ok (.aload_n 0, 1) := by decide +kernel
theorem dX2_putGlass_20 : decode cX2_putGlass 20 = .ok (.getfield 17, 3) := by decide +kernel
theorem dX2_putGlass_23 : decode cX2_putGlass 23 = .ok (.iload_n 1, 1) := by decide +kernel
theorem dX2_putGlass_24 : decode cX2_putGlass 24 = .ok (.iaload, 1) := by decide +kernel
theorem dX2_putGlass_25 : decode cX2_putGlass 25 = .ok (.iload 4, 2) := by decide +kernel
theorem dX2_putGlass_27 : decode cX2_putGlass 27 = .ok (.ior, 1) := by decide +kernel
theorem dX2_putGlass_28 : decode cX2_putGlass 28 = .ok (.goto 14, 3) := by decide +kernel
theorem dX2_putGlass_31 : decode cX2_putGlass 31 = .ok (.aload_n 0, 1) := by decide +kernel
theorem dX2_putGlass_32 : decode cX2_putGlass 32 = .ok (.getfield 17, 3) := by decide +kernel
theorem dX2_putGlass_35 : decode cX2_putGlass 35 = .ok (.iload_n 1, 1) := by decide +kernel
theorem dX2_putGlass_36 : decode cX2_putGlass 36 = .ok (.iaload, 1) := by decide +kernel
theorem dX2_putGlass_37 : decode cX2_putGlass 37 = .ok (.iload 4, 2) := by decide +kernel
theorem dX2_putGlass_39 : decode cX2_putGlass 39 = .ok (.iconst (-1), 1) := by decide +kernel
theorem dX2_putGlass_40 : decode cX2_putGlass 40 = .ok (.ixor, 1) := by decide +kernel
theorem dX2_putGlass_41 : decode cX2_putGlass 41 = .ok (.iand, 1) := by decide +kernel
theorem dX2_putGlass_42 : decode cX2_putGlass 42 = .ok (.iastore, 1) := by decide +kernel
theorem dX2_putGlass_43 : decode cX2_putGlass 43 = .ok (.aload_n 0, 1) := by decide +kernel
theorem dX2_putGlass_44 : decode cX2_putGlass 44 = .ok (.getfield 17, 3) := by decide +kernel
theorem dX2_putGlass_47 : decode cX2_putGlass 47 = .ok (.iload_n 2, 1) := by decide +kernel
theorem dX2_putGlass_48 : decode cX2_putGlass 48 = .ok (.iload_n 3, 1) := by decide +kernel
theorem dX2_putGlass_49 : decode cX2_putGlass 49 = .ok (.ifCond .eq 15, 3) := by decide +kernel
theorem dX2_putGlass_52 : decode cX2_putGlass 52 = .ok (.aload_n 0, 1) := by decide +kernel
theorem dX2_putGlass_53 : decode cX2_putGlass 53 = .ok (.getfield 17, 3) := by decide +kernel
theorem dX2_putGlass_56 : decode cX2_putGlass 56 = .ok (.iload_n 2, 1) := by decide +kernel
theorem dX2_putGlass_57 : decode cX2_putGlass 57 = .ok (.iaload, 1) := by decide +kernel
theorem dX2_putGlass_58 : decode cX2_putGlass 58 = .ok (.iload 5, 2) := by decide +kernel
theorem dX2_putGlass_60 : decode cX2_putGlass 60 = .ok (.ior, 1) := by decide +kernel
theorem dX2_putGlass_61 : decode cX2_putGlass 61 = .ok (.goto 14, 3) := by decide +kernel
theorem dX2_putGlass_64 : decode cX2_putGlass 64 = .ok (.aload_n 0, 1) := by decide +kernel
theorem dX2_putGlass_65 : decode cX2_putGlass 65 = .ok (.getfield 17, 3) := by decide +kernel
theorem dX2_putGlass_68 : decode cX2_putGlass 68 = .ok (.iload_n 2, 1) := by decide +kernel
theorem dX2_putGlass_69 : decode cX2_putGlass 69 = .ok (.iaload, 1) := by decide +kernel
theorem dX2_putGlass_70 : decode cX2_putGlass 70 = .ok (.iload 5, 2) := by decide +kernel
theorem dX2_putGlass_72 : decode cX2_putGlass 72 = .ok (.iconst (-1), 1) := by decide +kernel
theorem dX2_putGlass_73 : decode cX2_putGlass 73 = .ok (.ixor, 1) := by decide +kernel
theorem dX2_putGlass_74 : decode cX2_putGlass 74 = .ok (.iand, 1) := by decide +kernel
theorem dX2_putGlass_75 : decode cX2_putGlass 75 = .ok (.iastore, 1) := by decide +kernel
theorem dX2_putGlass_76 : decode cX2_putGlass 76 = .ok (.return_, 1) := by decide +kernel
theorem dX2_lawFor_0 : decode cX2_lawFor 0 = .ok (.aload_n 0, 1) := by decide +kernel
theorem dX2_lawFor_1 : decode cX2_lawFor 1 = .ok (.getfield 24, 3) := by decide +kernel
theorem dX2_lawFor_4 : decode cX2_lawFor 4 = .ok (.iload_n 1, 1) := by decide +kernel
theorem dX2_lawFor_5 : decode cX2_lawFor 5 = .ok (.iaload, 1) := by decide +kernel
theorem dX2_lawFor_6 : decode cX2_lawFor 6 = .ok (.istore_n 2, 1) := by decide +kernel
theorem dX2_lawFor_7 : decode cX2_lawFor 7 = .ok (.iload_n 2, 1) := by decide +kernel
theorem dX2_lawFor_8 : decode cX2_lawFor 8 = .ok (.iconst 0, 1) := by decide +kernel
theorem dX2_lawFor_9 : decode cX2_lawFor 9 = .ok (.bipush 13, 2) := by decide +kernel
theorem dX2_lawFor_11 : decode cX2_lawFor 11 = .ok (.invokestatic 72, 3) := by decide +kernel
theorem dX2_lawFor_14 : decode cX2_lawFor 14 = .ok (.ifCond .eq 12, 3) := by decide +kernel
theorem dX2_lawFor_17 : decode cX2_lawFor 17 = .ok (.aload_n 0, 1) := by decide +kernel
theorem dX2_lawFor_18 : decode cX2_lawFor 18 = .ok (.getfield 46, 3) := by decide +kernel
theorem dX2_lawFor_21 : decode cX2_lawFor 21 = .ok (.iload_n 2, 1) := by decide +kernel
theorem dX2_lawFor_22 : decode cX2_lawFor 22 = .ok (.aaload, 1) := by decide +kernel
theorem dX2_lawFor_23 : decode cX2_lawFor 23 = .ok (.goto 4, 3) := by decide +kernel
theorem dX2_lawFor_26 : decode cX2_lawFor 26 = .ok (.aconst_null, 1) := by decide +kernel
theorem dX2_lawFor_27 : decode cX2_lawFor 27 = .ok (.areturn, 1) := by decide +kernel
theorem dX2_paceOf_0 : decode cX2_paceOf 0 = .ok (.aload_n 0, 1) := by decide +kernel
theorem dX2_paceOf_1 : decode cX2_paceOf 1 = .ok (.getfield 11, 3) := by decide +kernel
theorem dX2_paceOf_4 : decode cX2_paceOf 4 = .ok (.iload_n 1, 1) := by decide +kernel
theorem dX2_paceOf_5 : decode cX2_paceOf 5 = .ok (.aaload, 1) := by decide +kernel
theorem dX2_paceOf_6 : decode cX2_paceOf 6 = .ok (.astore_n 2, 1) := by decide +kernel
theorem dX2_paceOf_7 : decode cX2_paceOf 7 = .ok (.aload_n 0, 1) := by decide +kernel
theorem dX2_paceOf_8 : decode cX2_paceOf 8 = .ok (.iconst 0, 1) := by decide +kernel
theorem dX2_paceOf_9 : decode cX2_paceOf 9 = .ok (.invokevirtual 76, 3) := by decide +kernel
theorem dX2_paceOf_12 : decode cX2_paceOf 12 = .ok (.astore_n 3, 1) := by decide +kernel
theorem dX2_paceOf_13 : decode cX2_paceOf 13 = .ok (.aload_n 3, 1) := by decide +kernel
theorem dX2_paceOf_14 : decode cX2_paceOf 14 = .ok (.ifnonnull 13, 3) := by decide +kernel
theorem dX2_paceOf_17 : decode cX2_paceOf 17 = .ok (.bipush 12, 2) := by decide +kernel
theorem dX2_paceOf_19 : decode cX2_paceOf 19 = .ok (.aload_n 2, 1) := by decide +kernel
theorem dX2_paceOf_20 : decode cX2_paceOf 20 = .ok (.getfield 80, 3) := by decide +kernel
theorem dX2_paceOf_23 : decode cX2_paceOf 23 = .ok (.isub, 1) := by decide +kernel
theorem dX2_paceOf_24 : decode cX2_paceOf 24 = .ok (.goto 19, 3) := by decide +kernel
theorem dX2_paceOf_27 : decode cX2_paceOf 27 = .ok (.aload_n 3, 1) := by decide +kernel
theorem dX2_paceOf_28 : decode cX2_paceOf 28 = .ok (.aload_n 2, 1) := by decide +kernel
theorem dX2_paceOf_29 : decode cX2_paceOf 29 = .ok (.getfield 80, 3) := by decide +kernel
theorem dX2_paceOf_32 : decode cX2_paceOf 32 = .ok (.iload_n 1, 1) := by decide +kernel
theorem dX2_paceOf_33 : decode cX2_paceOf 33 = .ok (.iconst 0, 1) := by decide +kernel
theorem dX2_paceOf_34 : decode cX2_paceOf 34 = .ok (.invokevirtual 83, 3) := by decide +kernel
theorem dX2_paceOf_37 : decode cX2_paceOf 37 = .ok (.iconst 0, 1) := by decide +kernel
theorem dX2_paceOf_38 : decode cX2_paceOf 38 = .ok (.bipush 40, 2) := by decide +kernel
theorem dX2_paceOf_40 : decode cX2_paceOf 40 = .ok (.invokestatic 89, 3) := by decide +kernel
theorem dX2_paceOf_43 : decode cX2_paceOf 43 = .ok (.istore 4, 2) := by decide +kernel
theorem dX2_paceOf_45 : decode cX2_paceOf 45 = .ok (.aload_n 2, 1) := by decide +kernel
theorem dX2_paceOf_46 : decode cX2_paceOf 46 = .ok (.iload 4, 2) := by decide +kernel
theorem dX2_paceOf_48 : decode cX2_paceOf 48 = .ok (.invokevirtual 92, 3) := by decide +kernel
theorem dX2_paceOf_51 : decode cX2_paceOf 51 = .ok (.ireturn, 1) := by decide +kernel
theorem dX2_pushBy_0 : decode cX2_pushBy 0 = .ok (.aload_n 0, 1) := by decide +kernel
theorem dX2_pushBy_1 : decode cX2_pushBy 1 = .ok (.getfield 11, 3) := by decide +kernel
theorem dX2_pushBy_4 : decode cX2_pushBy 4 = .ok (.iload_n 1, 1) := by decide +kernel
theorem dX2_pushBy_5 : decode cX2_pushBy 5 = .ok (.aaload, 1) := by decide +kernel
theorem dX2_pushBy_6 : decode cX2_pushBy 6 = .ok (.astore_n 3, 1) := by decide +kernel
theorem dX2_pushBy_7 : decode cX2_pushBy 7 = .ok (.aload_n 0, 1) := by decide +kernel
theorem dX2_pushBy_8 : decode cX2_pushBy 8 = .ok (.getfield 11, 3) := by decide +kernel
theorem dX2_pushBy_11 : decode cX2_pushBy 11 = .ok (.iload_n 2, 1) := by decide +kernel
theorem dX2_pushBy_12 : decode cX2_pushBy 12 = .ok (.aaload, 1) := by decide +kernel
theorem dX2_pushBy_13 : decode cX2_pushBy 13 = .ok (.astore 4, 2) := by decide +kernel
theorem dX2_pushBy_15 : decode cX2_pushBy 15 = .ok (.aload_n 3, 1) := by decide +kernel
theorem dX2_pushBy_16 : decode cX2_pushBy 16 = .ok (.invokevirtual 96, 3) := by decide +kernel
theorem dX2_pushBy_19 : decode cX2_pushBy 19 = .ok (.ifCond .eq 20, 3) := by decide +kernel
theorem dX2_pushBy_22 : decode cX2_pushBy 22 = .ok (.aload 4, 2) := by decide +kernel
theorem dX2_pushBy_24 : decode cX2_pushBy 24 = .ok (.invokevirtual 96, 3) := by decide +kernel
theorem dX2_pushBy_27 : decode cX2_pushBy 27 = .ok (.ifCond .eq 12, 3) := by decide +kernel
theorem dX2_pushBy_30 : decode cX2_pushBy 30 = .ok (.aload_n 0, 1) := by decide +kernel
theorem dX2_pushBy_31 : decode cX2_pushBy 31 = .ok (.iload_n 1, 1) := by decide +kernel
theorem dX2_pushBy_32 : decode cX2_pushBy 32 = .ok (.iload_n 2, 1) := by decide +kernel
theorem dX2_pushBy_33 : decode cX2_pushBy 33 = .ok (.invokevirtual 100, 3) := by decide +kernel
theorem dX2_pushBy_36 : decode cX2_pushBy 36 = .ok (.ifCond .eq 5, 3) := by decide +kernel
theorem dX2_pushBy_39 : decode cX2_pushBy 39 = .ok (.iconst 0, 1) := by decide +kernel
theorem dX2_pushBy_40 : decode cX2_pushBy 40 = .ok (.ireturn, 1) := by decide +kernel
theorem dX2_pushBy_41 : decode cX2_pushBy 41 = .ok (.aload_n 3, 1) := by decide +kernel
theorem dX2_pushBy_42 : decode cX2_pushBy 42 = .ok (.aload 4, 2) := by decide +kernel
theorem dX2_pushBy_44 : decode cX2_pushBy 44 = .ok (.getfield 104, 3) := by decide +kernel
theorem dX2_pushBy_47 : decode cX2_pushBy 47 = .ok (.aload 4, 2) := by decide +kernel
theorem dX2_pushBy_49 : decode cX2_pushBy 49 = .ok (.getfield 107, 3) := by decide +kernel
theorem dX2_pushBy_52 : decode cX2_pushBy 52 = .ok (.invokevirtual 110, 3) := by decide +kernel
theorem dX2_pushBy_55 : decode cX2_pushBy 55 = .ok (.istore 5, 2) := by decide +kernel
theorem dX2_pushBy_57 : decode cX2_pushBy 57 = .ok (.aload 4, 2) := by decide +kernel
theorem dX2_pushBy_59 : decode cX2_pushBy 59 = .ok (.getfield 68, 3) := by decide +kernel
theorem dX2_pushBy_62 : decode cX2_pushBy 62 = .ok (.aload_n 3, 1) := by decide +kernel
theorem dX2_pushBy_63 : decode cX2_pushBy 63 = .ok (.getfield 68, 3) := by decide +kernel
theorem dX2_pushBy_66 : decode cX2_pushBy 66 = .ok (.invokestatic 114, 3) := by decide +kernel
theorem dX2_pushBy_69 : decode cX2_pushBy 69 = .ok (.istore 6, 2) := by decide +kernel
theorem dX2_pushBy_71 : decode cX2_pushBy 71 = .ok (.aload_n 0, 1) := by decide +kernel
theorem dX2_pushBy_72 : decode cX2_pushBy 72 = .ok (.iconst 1, 1) := by decide +kernel
theorem dX2_pushBy_73 : decode cX2_pushBy 73 = .ok (.invokevirtual 76, 3) := by decide +kernel
theorem dX2_pushBy_76 : decode cX2_pushBy 76 = .ok (.astore 7, 2) := by decide +kernel
theorem dX2_pushBy_78 : decode cX2_pushBy 78 = .ok (.aload 7, 2) := by decide +kernel
theorem dX2_pushBy_80 : decode cX2_pushBy 80 = .ok (.ifnull 25, 3) := by decide +kernel
theorem dX2_pushBy_83 : decode cX2_pushBy 83 = .ok (.aload 7, 2) := by decide +kernel
theorem dX2_pushBy_85 : decode cX2_pushBy 85 = .ok (.iload 5, 2) := by decide +kernel
theorem dX2_pushBy_87 : decode cX2_pushBy 87 = .ok (.iload 6, 2) := by decide +kernel
theorem dX2_pushBy_89 : decode cX2_pushBy 89 = .ok (.aload 4, 2) := by decide +kernel
theorem dX2_pushBy_91 : decode cX2_pushBy 91 = .ok (.getfield 80, 3) := by decide +kernel
theorem dX2_pushBy_94 : decode cX2_pushBy 94 = .ok (.invokevirtual 83, 3) := by decide +kernel
theorem dX2_pushBy_97 : decode cX2_pushBy 97 = .ok (.bipush (-20), 2) := by decide +kernel
theorem dX2_pushBy_99 : decode cX2_pushBy 99 = .ok (.bipush 20, 2) := by decide +kernel
theorem dX2_pushBy_101 : decode cX2_pushBy 101 = .ok (.invokestatic 89, 3) := by decide +kernel
theorem dX2_pushBy_104 : decode cX2_pushBy 104 = .ok (.ireturn, 1) := by decide +kernel
theorem dX2_pushBy_105 : decode cX2_pushBy 105 = .ok (.iload 5, 2) := by decide +kernel
theorem dX2_pushBy_107 : decode cX2_pushBy 107 = .ok (.aload_n 0, 1) := by decide +kernel
theorem dX2_pushBy_108 : decode cX2_pushBy 108 = .ok (.getfield 31, 3) := by decide +kernel
theorem dX2_pushBy_111 : decode cX2_pushBy 111 = .ok (.if_icmp .gt 8, 3) := by decide +kernel
theorem dX2_pushBy_114 : decode cX2_pushBy 114 = .ok (.iload 6, 2) := by decide +kernel
theorem dX2_pushBy_116 : decode cX2_pushBy 116 = .ok (.iconst 4, 1) := by decide +kernel
theorem dX2_pushBy_117 : decode cX2_pushBy 117 = .ok (.idiv, 1) := by decide +kernel
theorem dX2_pushBy_118 : decode cX2_pushBy 118 = .ok (.ireturn, 1) := by decide +kernel
theorem dX2_pushBy_119 : decode cX2_pushBy 119 = .ok (.iload 5, 2) := by decide +kernel
theorem dX2_pushBy_121 : decode cX2_pushBy 121 = .ok (.aload_n 0, 1) := by decide +kernel
theorem dX2_pushBy_122 : decode cX2_pushBy 122 = .ok (.getfield 34, 3) := by decide +kernel
theorem dX2_pushBy_125 : decode cX2_pushBy 125 = .ok (.if_icmp .gt 11, 3) := by decide +kernel
theorem dX2_pushBy_128 : decode cX2_pushBy 128 = .ok (.iload 6, 2) := by decide +kernel
theorem dX2_pushBy_130 : decode cX2_pushBy 130 = .ok (.ineg, 1) := by decide +kernel
theorem dX2_pushBy_131 : decode cX2_pushBy 131 = .ok (.iconst 4, 1) := by decide +kernel
theorem dX2_pushBy_132 : decode cX2_pushBy 132 = .ok (.idiv, 1) := by decide +kernel
theorem dX2_pushBy_133 : decode cX2_pushBy 133 = .ok (.goto 4, 3) := by decide +kernel
theorem dX2_pushBy_136 : decode cX2_pushBy 136 = .ok (.iconst 0, 1) := by decide +kernel
theorem dX2_pushBy_137 : decode cX2_pushBy 137 = .ok (.ireturn, 1) := by decide +kernel
theorem dX2_pushesOn_0 : decode cX2_pushesOn 0 = .ok (.iconst 0, 1) := by decide +kernel
theorem dX2_pushesOn_1 : decode cX2_pushesOn 1 = .ok (.istore_n 2, 1) := by decide +kernel
theorem dX2_pushesOn_2 : decode cX2_pushesOn 2 = .ok (.iconst 0, 1) := by decide +kernel
theorem dX2_pushesOn_3 : decode cX2_pushesOn 3 = .ok (.istore_n 3, 1) := by decide +kernel
theorem dX2_pushesOn_4 : decode cX2_pushesOn 4 = .ok (.iload_n 3, 1) := by decide +kernel
theorem dX2_pushesOn_5 : decode cX2_pushesOn 5 = .ok (.aload_n 0, 1) := by decide +kernel
theorem dX2_pushesOn_6 : decode cX2_pushesOn 6 = .ok (.getfield 27, 3) := by decide +kernel
theorem dX2_pushesOn_9 : decode cX2_pushesOn 9 = .ok (.if_icmp .ge 27, 3) := by decide +kernel
theorem dX2_pushesOn_12 : decode cX2_pushesOn 12 = .ok (.iload_n 2, 1) := by decide +kernel
theorem dX2_pushesOn_13 : decode cX2_pushesOn 13 = .ok (.iload_n 3, 1) := by decide +kernel
theorem dX2_pushesOn_14 : decode cX2_pushesOn 14 = .ok (.iload_n 1, 1) := by decide +kernel
theorem dX2_pushesOn_15 : decode cX2_pushesOn 15 = .ok (.if_icmp .ne 7, 3) := by decide +kernel
theorem dX2_pushesOn_18 : decode cX2_pushesOn 18 = .ok (.iconst 0, 1) := by decide +kernel
theorem dX2_pushesOn_19 : decode cX2_pushesOn 19 = .ok (.goto 9, 3) := by decide +kernel
theorem dX2_pushesOn_22 : decode cX2_pushesOn 22 = .ok (.aload_n 0, 1) := by decide +kernel
theorem dX2_pushesOn_23 : decode cX2_pushesOn 23 = .ok (.iload_n 1, 1) := by decide +kernel
theorem dX2_pushesOn_24 : decode cX2_pushesOn 24 = .ok (.iload_n 3, 1) := by decide +kernel
theorem dX2_pushesOn_25 : decode cX2_pushesOn 25 = .ok (.invokevirtual 117, 3) := by decide +kernel
theorem dX2_pushesOn_28 : decode cX2_pushesOn 28 = .ok (.iadd, 1) := by decide +kernel
theorem dX2_pushesOn_29 : decode cX2_pushesOn 29 = .ok (.istore_n 2, 1) := by decide +kernel
theorem dX2_pushesOn_30 : decode cX2_pushesOn 30 = .ok (.iinc 3 1, 3) := by decide +kernel
theorem dX2_pushesOn_33 : decode cX2_pushesOn 33 = .ok (.goto (-29), 3) := by decide +kernel
theorem dX2_pushesOn_36 : decode cX2_pushesOn 36 = .ok (.iload_n 2, 1) := by decide +kernel
theorem dX2_pushesOn_37 : decode cX2_pushesOn 37 = .ok (.ireturn, 1) := by decide +kernel
theorem dX2_windOn_0 : decode cX2_windOn 0 = .ok (.aload_n 0, 1) := by decide +kernel
theorem dX2_windOn_1 : decode cX2_windOn 1 = .ok (.iconst 2, 1) := by decide +kernel
theorem dX2_windOn_2 : decode cX2_windOn 2 = .ok (.invokevirtual 76, 3) := by decide +kernel
theorem dX2_windOn_5 : decode cX2_windOn 5 = .ok (.astore_n 2, 1) := by decide +kernel
theorem dX2_windOn_6 : decode cX2_windOn 6 = .ok (.aload_n 2, 1) := by decide +kernel
theorem dX2_windOn_7 : decode cX2_windOn 7 = .ok (.ifnonnull 15, 3) := by decide +kernel
theorem dX2_windOn_10 : decode cX2_windOn 10 = .ok (.aload_n 0, 1) := by decide +kernel
theorem dX2_windOn_11 : decode cX2_windOn 11 = .ok (.invokevirtual 60, 3) := by decide +kernel
theorem dX2_windOn_14 : decode cX2_windOn 14 = .ok (.bipush 11, 2) := by decide +kernel
theorem dX2_windOn_16 : decode cX2_windOn 16 = .ok (.irem, 1) := by decide +kernel
theorem dX2_windOn_17 : decode cX2_windOn 17 = .ok (.iconst 5, 1) := by decide +kernel
theorem dX2_windOn_18 : decode cX2_windOn 18 = .ok (.isub, 1) := by decide +kernel
theorem dX2_windOn_19 : decode cX2_windOn 19 = .ok (.goto 20, 3) := by decide +kernel
theorem dX2_windOn_22 : decode cX2_windOn 22 = .ok (.aload_n 2, 1) := by decide +kernel
theorem dX2_windOn_23 : decode cX2_windOn 23 = .ok (.aload_n 0, 1) := by decide +kernel
theorem dX2_windOn_24 : decode cX2_windOn 24 = .ok (.getfield 37, 3) := by decide +kernel
theorem dX2_windOn_27 : decode cX2_windOn 27 = .ok (.iload_n 1, 1) := by decide +kernel
theorem dX2_windOn_28 : decode cX2_windOn 28 = .ok (.iconst 0, 1) := by decide +kernel
theorem dX2_windOn_29 : decode cX2_windOn 29 = .ok (.invokevirtual 83, 3) := by decide +kernel
theorem dX2_windOn_32 : decode cX2_windOn 32 = .ok (.bipush (-30), 2) := by decide +kernel
theorem dX2_windOn_34 : decode cX2_windOn 34 = .ok (.bipush 30, 2) := by decide +kernel
theorem dX2_windOn_36 : decode cX2_windOn 36 = .ok (.invokestatic 89, 3) := by decide +kernel
theorem dX2_windOn_39 : decode cX2_windOn 39 = .ok (.ireturn, 1) := by decide +kernel
theorem dX2_nextOf_0 : decode cX2_nextOf 0 = .ok (.aload_n 0, 1) := by decide +kernel
theorem dX2_nextOf_1 : decode cX2_nextOf 1 = .ok (.getfield 11, 3) := by decide +kernel
theorem dX2_nextOf_4 : decode cX2_nextOf 4 = .ok (.iload_n 1, 1) := by decide +kernel
theorem dX2_nextOf_5 : decode cX2_nextOf 5 = .ok (.aaload, 1) := by decide +kernel
theorem dX2_nextOf_6 : decode cX2_nextOf 6 = .ok (.astore_n 2, 1) := by decide +kernel
theorem dX2_nextOf_7 : decode cX2_nextOf 7 = .ok (.aload_n 2, 1) := by decide +kernel
theorem dX2_nextOf_8 : decode cX2_nextOf 8 = .ok (.getfield 120, 3) := by decide +kernel
theorem dX2_nextOf_11 : decode cX2_nextOf 11 = .ok (.iconst 5, 1) := by decide +kernel
theorem dX2_nextOf_12 : decode cX2_nextOf 12 = .ok (.if_icmp .ne 11, 3) := by decide +kernel
theorem dX2_nextOf_15 : decode cX2_nextOf 15 = .ok (.aload_n 0, 1) := by decide +kernel
theorem dX2_nextOf_16 : decode cX2_nextOf 16 = .ok (.iload_n 1, 1) := by decide +kernel
theorem dX2_nextOf_17 : decode cX2_nextOf 17 = .ok (.invokevirtual 123, 3) := by decide +kernel
theorem dX2_nextOf_20 : decode cX2_nextOf 20 = .ok (.goto 4, 3) := by decide +kernel
theorem dX2_nextOf_23 : decode cX2_nextOf 23 = .ok (.iconst 0, 1) := by decide +kernel
theorem dX2_nextOf_24 : decode cX2_nextOf 24 = .ok (.istore_n 3, 1) := by decide +kernel
theorem dX2_nextOf_25 : decode cX2_nextOf 25 = .ok (.aload_n 2, 1) := by decide +kernel
theorem dX2_nextOf_26 : decode cX2_nextOf 26 = .ok (.getfield 68, 3) := by decide +kernel
theorem dX2_nextOf_29 : decode cX2_nextOf 29 = .ok (.aload_n 0, 1) := by decide +kernel
theorem dX2_nextOf_30 : decode cX2_nextOf 30 = .ok (.iload_n 1, 1) := by decide +kernel
theorem dX2_nextOf_31 : decode cX2_nextOf 31 = .ok (.invokevirtual 126, 3) := by decide +kernel
theorem dX2_nextOf_34 : decode cX2_nextOf 34 = .ok (.iadd, 1) := by decide +kernel
theorem dX2_nextOf_35 : decode cX2_nextOf 35 = .ok (.aload_n 2, 1) := by decide +kernel
theorem dX2_nextOf_36 : decode cX2_nextOf 36 = .ok (.aload_n 0, 1) := by decide +kernel
theorem dX2_nextOf_37 : decode cX2_nextOf 37 = .ok (.iload_n 1, 1) := by decide +kernel
theorem dX2_nextOf_38 : decode cX2_nextOf 38 = .ok (.invokevirtual 129, 3) := by decide +kernel
theorem dX2_nextOf_41 : decode cX2_nextOf 41 = .ok (.iload_n 3, 1) := by decide +kernel
theorem dX2_nextOf_42 : decode cX2_nextOf 42 = .ok (.invokevirtual 132, 3) := by decide +kernel
theorem dX2_nextOf_45 : decode cX2_nextOf 45 = .ok (.iadd, 1) := by decide +kernel
theorem dX2_nextOf_46 : decode cX2_nextOf 46 = .ok (.ireturn, 1) := by decide +kernel
theorem dX2_goBy_0 : decode cX2_goBy 0 = .ok (.iconst 0, 1) := by decide +kernel
theorem dX2_goBy_1 : decode cX2_goBy 1 = .ok (.istore_n 1, 1) := by decide +kernel
theorem dX2_goBy_2 : decode cX2_goBy 2 = .ok (.iload_n 1, 1) := by decide +kernel
theorem dX2_goBy_3 : decode cX2_goBy 3 = .ok (.aload_n 0, 1) := by decide +kernel
theorem dX2_goBy_4 : decode cX2_goBy 4 = .ok (.getfield 27, 3) := by decide +kernel
theorem dX2_goBy_7 : decode cX2_goBy 7 = .ok (.if_icmp .ge 36, 3) := by decide +kernel
theorem dX2_goBy_10 : decode cX2_goBy 10 = .ok (.aload_n 0, 1) := by decide +kernel
theorem dX2_goBy_11 : decode cX2_goBy 11 = .ok (.getfield 21, 3) := by decide +kernel
theorem dX2_goBy_14 : decode cX2_goBy 14 = .ok (.iload_n 1, 1) := by decide +kernel
theorem dX2_goBy_15 : decode cX2_goBy 15 = .ok (.aload_n 0, 1) := by decide +kernel
theorem dX2_goBy_16 : decode cX2_goBy 16 = .ok (.getfield 11, 3) := by decide +kernel
theorem dX2_goBy_19 : decode cX2_goBy 19 = .ok (.iload_n 1, 1) := by decide +kernel
theorem dX2_goBy_20 : decode cX2_goBy 20 = .ok (.aaload, 1) := by decide +kernel
theorem dX2_goBy_21 : decode cX2_goBy 21 = .ok (.invokevirtual 96, 3) := by decide +kernel
theorem dX2_goBy_24 : decode cX2_goBy 24 = .ok (.ifCond .eq 11, 3) := by decide +kernel
theorem dX2_goBy_27 : decode cX2_goBy 27 = .ok (.aload_n 0, 1) := by decide +kernel
theorem dX2_goBy_28 : decode cX2_goBy 28 = .ok (.iload_n 1, 1) := by decide +kernel
theorem dX2_goBy_29 : decode cX2_goBy 29 = .ok (.invokevirtual 135, 3) := by decide +kernel
theorem dX2_goBy_32 : decode cX2_goBy 32 = .ok (.goto 4, 3) := by decide +kernel
theorem dX2_goBy_35 : decode cX2_goBy 35 = .ok (.iconst 0, 1) := by decide +kernel
theorem dX2_goBy_36 : decode cX2_goBy 36 = .ok (.iastore, 1) := by decide +kernel
theorem dX2_goBy_37 : decode cX2_goBy 37 = .ok (.iinc 1 1, 3) := by decide +kernel
theorem dX2_goBy_40 : decode cX2_goBy 40 = .ok (.goto (-38), 3) := by decide +kernel
theorem dX2_goBy_43 : decode cX2_goBy 43 = .ok (.iconst 0, 1) := by decide +kernel
theorem dX2_goBy_44 : decode cX2_goBy 44 = .ok (.istore_n 1, 1) := by decide +kernel
theorem dX2_goBy_45 : decode cX2_goBy 45 = .ok (.iconst 0, 1) := by decide +kernel
theorem dX2_goBy_46 : decode cX2_goBy 46 = .ok (.istore_n 2, 1) := by decide +kernel
theorem dX2_goBy_47 : decode cX2_goBy 47 = .ok (.iload_n 2, 1) := by decide +kernel
theorem dX2_goBy_48 : decode cX2_goBy 48 = .ok (.aload_n 0, 1) := by decide +kernel
theorem dX2_goBy_49 : decode cX2_goBy 49 = .ok (.getfield 27, 3) := by decide +kernel
theorem dX2_goBy_52 : decode cX2_goBy 52 = .ok (.if_icmp .ge 47, 3) := by decide +kernel
theorem dX2_goBy_55 : decode cX2_goBy 55 = .ok (.iload_n 1, 1) := by decide +kernel
theorem dX2_goBy_56 : decode cX2_goBy 56 = .ok (.aload_n 0, 1) := by decide +kernel
theorem dX2_goBy_57 : decode cX2_goBy 57 = .ok (.getfield 11, 3) := by decide +kernel
theorem dX2_goBy_60 : decode cX2_goBy 60 = .ok (.iload_n 2, 1) := by decide +kernel
theorem dX2_goBy_61 : decode cX2_goBy 61 = .ok (.aaload, 1) := by decide +kernel
theorem dX2_goBy_62 : decode cX2_goBy 62 = .ok (.invokevirtual 96, 3) := by decide +kernel
theorem dX2_goBy_65 : decode cX2_goBy 65 = .ok (.ifCond .eq 25, 3) := by decide +kernel
theorem dX2_goBy_68 : decode cX2_goBy 68 = .ok (.aload_n 0, 1) := by decide +kernel
theorem dX2_goBy_69 : decode cX2_goBy 69 = .ok (.getfield 11, 3) := by decide +kernel
theorem dX2_goBy_72 : decode cX2_goBy 72 = .ok (.iload_n 2, 1) := by decide +kernel
theorem dX2_goBy_73 : decode cX2_goBy 73 = .ok (.aaload, 1) := by decide +kernel
theorem dX2_goBy_74 : decode cX2_goBy 74 = .ok (.aload_n 0, 1) := by decide +kernel
theorem dX2_goBy_75 : decode cX2_goBy 75 = .ok (.getfield 21, 3) := by decide +kernel
theorem dX2_goBy_78 : decode cX2_goBy 78 = .ok (.iload_n 2, 1) := by decide +kernel
theorem dX2_goBy_79 : decode cX2_goBy 79 = .ok (.iaload, 1) := by decide +kernel
theorem dX2_goBy_80 : decode cX2_goBy 80 = .ok (.invokevirtual 138, 3) := by decide +kernel
theorem dX2_goBy_83 : decode cX2_goBy 83 = .ok (.ifCond .eq 7, 3) := by decide +kernel
theorem dX2_goBy_86 : decode cX2_goBy 86 = .ok (.iconst 1, 1) := by decide +kernel
theorem dX2_goBy_87 : decode cX2_goBy 87 = .ok (.goto 4, 3) := by decide +kernel
theorem dX2_goBy_90 : decode cX2_goBy 90 = .ok (.iconst 0, 1) := by decide +kernel
theorem dX2_goBy_91 : decode cX2_goBy 91 = .ok (.iadd, 1) := by decide +kernel
theorem dX2_goBy_92 : decode cX2_goBy 92 = .ok (.istore_n 1, 1) := by decide +kernel
theorem dX2_goBy_93 : decode cX2_goBy 93 = .ok (.iinc 2 1, 3) := by decide +kernel
theorem dX2_goBy_96 : decode cX2_goBy 96 = .ok (.goto (-49), 3) := by decide +kernel
theorem dX2_goBy_99 : decode cX2_goBy 99 = .ok (.aload_n 0, 1) := by decide +kernel
theorem dX2_goBy_100 : decode cX2_goBy 100 = .ok (.dup, 1) := by decide +kernel
theorem dX2_goBy_101 : decode cX2_goBy 101 = .ok (.getfield 37, 3) := by decide +kernel
theorem dX2_goBy_104 : decode cX2_goBy 104 = .ok (.iconst 1, 1) := by decide +kernel
theorem dX2_goBy_105 : decode cX2_goBy 105 = .ok (.iadd, 1) := by decide +kernel
theorem dX2_goBy_106 : decode cX2_goBy 106 = .ok (.putfield 37, 3) := by decide +kernel
theorem dX2_goBy_109 : decode cX2_goBy 109 = .ok (.iload_n 1, 1) := by decide +kernel
theorem dX2_goBy_110 : decode cX2_goBy 110 = .ok (.ireturn, 1) := by decide +kernel
theorem dX2_litFrom_0 : decode cX2_litFrom 0 = .ok (.iconst 0, 1) := by decide +kernel
theorem dX2_litFrom_1 : decode cX2_litFrom 1 = .ok (.iload_n 1, 1) := by decide +kernel
theorem dX2_litFrom_2 : decode cX2_litFrom 2 = .ok (.invokestatic 142, 3) := by decide +kernel
theorem dX2_litFrom_5 : decode cX2_litFrom 5 = .ok (.istore_n 2, 1) := by decide +kernel
theorem dX2_litFrom_6 : decode cX2_litFrom 6 = .ok (.iload_n 2, 1) := by decide +kernel
theorem dX2_litFrom_7 : decode cX2_litFrom 7 = .ok (.aload_n 0, 1) := by decide +kernel
theorem dX2_litFrom_8 : decode cX2_litFrom 8 = .ok (.getfield 27, 3) := by decide +kernel
theorem dX2_litFrom_11 : decode cX2_litFrom 11 = .ok (.if_icmp .ge 23, 3) := by decide +kernel
theorem dX2_litFrom_14 : decode cX2_litFrom 14 = .ok (.aload_n 0, 1) := by decide +kernel
theorem dX2_litFrom_15 : decode cX2_litFrom 15 = .ok (.getfield 11, 3) := by decide +kernel
theorem dX2_litFrom_18 : decode cX2_litFrom 18 = .ok (.iload_n 2, 1) := by decide +kernel
theorem dX2_litFrom_19 : decode cX2_litFrom 19 = .ok (.aaload, 1) := by decide +kernel
theorem dX2_litFrom_20 : decode cX2_litFrom 20 = .ok (.invokevirtual 96, 3) := by decide +kernel
theorem dX2_litFrom_23 : decode cX2_litFrom 23 = .ok (.ifCond .eq 5, 3) := by decide +kernel
theorem dX2_litFrom_26 : decode cX2_litFrom 26 = .ok (.iload_n 2, 1) := by decide +kernel
theorem dX2_litFrom_27 : decode cX2_litFrom 27 = .ok (.ireturn, 1) := by decide +kernel
theorem dX2_litFrom_28 : decode cX2_litFrom 28 = .ok (.iinc 2 1, 3) := by decide +kernel
theorem dX2_litFrom_31 : decode cX2_litFrom 31 = .ok (.goto (-25), 3) := by decide +kernel
theorem dX2_litFrom_34 : decode cX2_litFrom 34 = .ok (.aload_n 0, 1) := by decide +kernel
theorem dX2_litFrom_35 : decode cX2_litFrom 35 = .ok (.getfield 27, 3) := by decide +kernel
theorem dX2_litFrom_38 : decode cX2_litFrom 38 = .ok (.ireturn, 1) := by decide +kernel
theorem dX2_litMany_0 : decode cX2_litMany 0 = .ok (.iconst 0, 1) := by decide +kernel
theorem dX2_litMany_1 : decode cX2_litMany 1 = .ok (.istore_n 1, 1) := by decide +kernel
theorem dX2_litMany_2 : decode cX2_litMany 2 = .ok (.iconst 0, 1) := by decide +kernel
theorem dX2_litMany_3 : decode cX2_litMany 3 = .ok (.istore_n 2, 1) := by decide +kernel
theorem dX2_litMany_4 : decode cX2_litMany 4 = .ok (.iload_n 2, 1) := by decide +kernel
theorem dX2_litMany_5 : decode cX2_litMany 5 = .ok (.aload_n 0, 1) := by decide +kernel
theorem dX2_litMany_6 : decode cX2_litMany 6 = .ok (.getfield 27, 3) := by decide +kernel
theorem dX2_litMany_9 : decode cX2_litMany 9 = .ok (.if_icmp .ge 29, 3) := by decide +kernel
theorem dX2_litMany_12 : decode cX2_litMany 12 = .ok (.iload_n 1, 1) := by decide +kernel
theorem dX2_litMany_13 : decode cX2_litMany 13 = .ok (.aload_n 0, 1) := by decide +kernel
theorem dX2_litMany_14 : decode cX2_litMany 14 = .ok (.getfield 11, 3) := by decide +kernel
theorem dX2_litMany_17 : decode cX2_litMany 17 = .ok (.iload_n 2, 1) := by decide +kernel
theorem dX2_litMany_18 : decode cX2_litMany 18 = .ok (.aaload, 1) := by decide +kernel
theorem dX2_litMany_19 : decode cX2_litMany 19 = .ok (.invokevirtual 96, 3) := by decide +kernel
theorem dX2_litMany_22 : decode cX2_litMany 22 = .ok (.ifCond .eq 7, 3) := by decide +kernel
theorem dX2_litMany_25 : decode cX2_litMany 25 = .ok (.iconst 1, 1) := by decide +kernel
theorem dX2_litMany_26 : decode cX2_litMany 26 = .ok (.goto 4, 3) := by decide +kernel
theorem dX2_litMany_29 : decode cX2_litMany 29 = .ok (.iconst 0, 1) := by decide +kernel
theorem dX2_litMany_30 : decode cX2_litMany 30 = .ok (.iadd, 1) := by decide +kernel
theorem dX2_litMany_31 : decode cX2_litMany 31 = .ok (.istore_n 1, 1) := by decide +kernel
theorem dX2_litMany_32 : decode cX2_litMany 32 = .ok (.iinc 2 1, 3) := by decide +kernel
theorem dX2_litMany_35 : decode cX2_litMany 35 = .ok (.goto (-31), 3) := by decide +kernel
theorem dX2_litMany_38 : decode cX2_litMany 38 = .ok (.iload_n 1, 1) := by decide +kernel
theorem dX2_litMany_39 : decode cX2_litMany 39 = .ok (.ireturn, 1) := by decide +kernel
theorem dX2_beatsAs_0 : decode cX2_beatsAs 0 = .ok (.iconst 0, 1) := by decide +kernel
theorem dX2_beatsAs_1 : decode cX2_beatsAs 1 = .ok (.istore_n 2, 1) := by decide +kernel
theorem dX2_beatsAs_2 : decode cX2_beatsAs 2 = .ok (.iload_n 2, 1) := by decide +kernel
theorem dX2_beatsAs_3 : decode cX2_beatsAs 3 = .ok (.aload_n 0, 1) := by decide +kernel
theorem dX2_beatsAs_4 : decode cX2_beatsAs 4 = .ok (.getfield 27, 3) := by decide +kernel
theorem dX2_beatsAs_7 : decode cX2_beatsAs 7 = .ok (.if_icmp .ge 32, 3) := by decide +kernel
theorem dX2_beatsAs_10 : decode cX2_beatsAs 10 = .ok (.aload_n 0, 1) := by decide +kernel
theorem dX2_beatsAs_11 : decode cX2_beatsAs 11 = .ok (.getfield 11, 3) := by decide +kernel
theorem dX2_beatsAs_14 : decode cX2_beatsAs 14 = .ok (.iload_n 2, 1) := by decide +kernel
theorem dX2_beatsAs_15 : decode cX2_beatsAs 15 = .ok (.aaload, 1) := by decide +kernel
theorem dX2_beatsAs_16 : decode cX2_beatsAs 16 = .ok (.getfield 68, 3) := by decide +kernel
theorem dX2_beatsAs_19 : decode cX2_beatsAs 19 = .ok (.aload_n 1, 1) := by decide +kernel
theorem dX2_beatsAs_20 : decode cX2_beatsAs 20 = .ok (.getfield 11, 3) := by decide +kernel
theorem dX2_beatsAs_23 : decode cX2_beatsAs 23 = .ok (.iload_n 2, 1) := by decide +kernel
theorem dX2_beatsAs_24 : decode cX2_beatsAs 24 = .ok (.aaload, 1) := by decide +kernel
theorem dX2_beatsAs_25 : decode cX2_beatsAs 25 = .ok (.getfield 68, 3) := by decide +kernel
theorem dX2_beatsAs_28 : decode cX2_beatsAs 28 = .ok (.if_icmp .eq 5, 3) := by decide +kernel
theorem dX2_beatsAs_31 : decode cX2_beatsAs 31 = .ok (.iconst 0, 1) := by decide +kernel
theorem dX2_beatsAs_32 : decode cX2_beatsAs 32 = .ok (.ireturn, 1) := by decide +kernel
theorem dX2_beatsAs_33 : decode cX2_beatsAs 33 = .ok (.iinc 2 1, 3) := by decide +kernel
theorem dX2_beatsAs_36 : decode cX2_beatsAs 36 = .ok (.goto (-34), 3) := by decide +kernel
theorem dX2_beatsAs_39 : decode cX2_beatsAs 39 = .ok (.iconst 1, 1) := by decide +kernel
theorem dX2_beatsAs_40 : decode cX2_beatsAs 40 = .ok (.ireturn, 1) := by decide +kernel
theorem dX2_stepFrom_0 : decode cX2_stepFrom 0 = .ok (.bipush 120, 2) := by decide +kernel
theorem dX2_stepFrom_2 : decode cX2_stepFrom 2 = .ok (.istore_n 2, 1) := by decide +kernel
theorem dX2_stepFrom_3 : decode cX2_stepFrom 3 = .ok (.iconst 0, 1) := by decide +kernel
theorem dX2_stepFrom_4 : decode cX2_stepFrom 4 = .ok (.istore_n 3, 1) := by decide +kernel
theorem dX2_stepFrom_5 : decode cX2_stepFrom 5 = .ok (.iload_n 3, 1) := by decide +kernel
theorem dX2_stepFrom_6 : decode cX2_stepFrom 6 = .ok (.aload_n 0, 1) := by decide +kernel
theorem dX2_stepFrom_7 : decode cX2_stepFrom 7 = .ok (.getfield 27, 3) := by decide +kernel
theorem dX2_stepFrom_10 : decode cX2_stepFrom 10 = .ok (.if_icmp .ge 73, 3) := by decide +kernel
theorem dX2_stepFrom_13 : decode cX2_stepFrom 13 = .ok (.aload_n 0, 1) := by decide +kernel
theorem dX2_stepFrom_14 : decode cX2_stepFrom 14 = .ok (.getfield 11, 3) := by decide +kernel
theorem dX2_stepFrom_17 : decode cX2_stepFrom 17 = .ok (.iload_n 3, 1) := by decide +kernel
theorem dX2_stepFrom_18 : decode cX2_stepFrom 18 = .ok (.aaload, 1) := by decide +kernel
theorem dX2_stepFrom_19 : decode cX2_stepFrom 19 = .ok (.getfield 68, 3) := by decide +kernel
theorem dX2_stepFrom_22 : decode cX2_stepFrom 22 = .ok (.aload_n 0, 1) := by decide +kernel
theorem dX2_stepFrom_23 : decode cX2_stepFrom 23 = .ok (.getfield 11, 3) := by decide +kernel
theorem dX2_stepFrom_26 : decode cX2_stepFrom 26 = .ok (.iload_n 1, 1) := by decide +kernel
theorem dX2_stepFrom_27 : decode cX2_stepFrom 27 = .ok (.aaload, 1) := by decide +kernel
theorem dX2_stepFrom_28 : decode cX2_stepFrom 28 = .ok (.getfield 68, 3) := by decide +kernel
theorem dX2_stepFrom_31 : decode cX2_stepFrom 31 = .ok (.isub, 1) := by decide +kernel
theorem dX2_stepFrom_32 : decode cX2_stepFrom 32 = .ok (.istore 4, 2) := by decide +kernel
theorem dX2_stepFrom_34 : decode cX2_stepFrom 34 = .ok (.iload 4, 2) := by decide +kernel
theorem dX2_stepFrom_36 : decode cX2_stepFrom 36 = .ok (.ifCond .ge 11, 3) := by decide +kernel
theorem dX2_stepFrom_39 : decode cX2_stepFrom 39 = .ok (.iload 4, 2) := by decide +kernel
theorem dX2_stepFrom_41 : decode cX2_stepFrom 41 = .ok (.bipush 120, 2) := by decide +kernel
theorem dX2_stepFrom_43 : decode cX2_stepFrom 43 = .ok (.iadd, 1) := by decide +kernel
theorem dX2_stepFrom_44 : decode cX2_stepFrom 44 = .ok (.goto 5, 3) := by decide +kernel
theorem dX2_stepFrom_47 : decode cX2_stepFrom 47 = .ok (.iload 4, 2) := by decide +kernel
theorem dX2_stepFrom_49 : decode cX2_stepFrom 49 = .ok (.istore 4, 2) := by decide +kernel
theorem dX2_stepFrom_51 : decode cX2_stepFrom 51 = .ok (.aload_n 0, 1) := by decide +kernel
theorem dX2_stepFrom_52 : decode cX2_stepFrom 52 = .ok (.getfield 11, 3) := by decide +kernel
theorem dX2_stepFrom_55 : decode cX2_stepFrom 55 = .ok (.iload_n 3, 1) := by decide +kernel
theorem dX2_stepFrom_56 : decode cX2_stepFrom 56 = .ok (.aaload, 1) := by decide +kernel
theorem dX2_stepFrom_57 : decode cX2_stepFrom 57 = .ok (.invokevirtual 96, 3) := by decide +kernel
theorem dX2_stepFrom_60 : decode cX2_stepFrom 60 = .ok (.ifCond .eq 17, 3) := by decide +kernel
theorem dX2_stepFrom_63 : decode cX2_stepFrom 63 = .ok (.iload 4, 2) := by decide +kernel
theorem dX2_stepFrom_65 : decode cX2_stepFrom 65 = .ok (.ifCond .le 12, 3) := by decide +kernel
theorem dX2_stepFrom_68 : decode cX2_stepFrom 68 = .ok (.iload 4, 2) := by decide +kernel
theorem dX2_stepFrom_70 : decode cX2_stepFrom 70 = .ok (.iload_n 2, 1) := by decide +kernel
theorem dX2_stepFrom_71 : decode cX2_stepFrom 71 = .ok (.if_icmp .ge 6, 3) := by decide +kernel
theorem dX2_stepFrom_74 : decode cX2_stepFrom 74 = .ok (.iload 4, 2) := by decide +kernel
theorem dX2_stepFrom_76 : decode cX2_stepFrom 76 = .ok (.istore_n 2, 1) := by decide +kernel
theorem dX2_stepFrom_77 : decode cX2_stepFrom 77 = .ok (.iinc 3 1, 3) := by decide +kernel
theorem dX2_stepFrom_80 : decode cX2_stepFrom 80 = .ok (.goto (-75), 3) := by decide +kernel
theorem dX2_stepFrom_83 : decode cX2_stepFrom 83 = .ok (.iload_n 2, 1) := by decide +kernel
theorem dX2_stepFrom_84 : decode cX2_stepFrom 84 = .ok (.ireturn, 1) := by decide +kernel
theorem dX2_arc_0 : decode cX2_arc 0 = .ok (.iconst 0, 1) := by decide +kernel
theorem dX2_arc_1 : decode cX2_arc 1 = .ok (.istore_n 1, 1) := by decide +kernel
theorem dX2_arc_2 : decode cX2_arc 2 = .ok (.iconst 0, 1) := by decide +kernel
theorem dX2_arc_3 : decode cX2_arc 3 = .ok (.istore_n 2, 1) := by decide +kernel
theorem dX2_arc_4 : decode cX2_arc 4 = .ok (.iload_n 2, 1) := by decide +kernel
theorem dX2_arc_5 : decode cX2_arc 5 = .ok (.aload_n 0, 1) := by decide +kernel
theorem dX2_arc_6 : decode cX2_arc 6 = .ok (.getfield 27, 3) := by decide +kernel
theorem dX2_arc_9 : decode cX2_arc 9 = .ok (.if_icmp .ge 31, 3) := by decide +kernel
theorem dX2_arc_12 : decode cX2_arc 12 = .ok (.aload_n 0, 1) := by decide +kernel
theorem dX2_arc_13 : decode cX2_arc 13 = .ok (.getfield 11, 3) := by decide +kernel
theorem dX2_arc_16 : decode cX2_arc 16 = .ok (.iload_n 2, 1) := by decide +kernel
theorem dX2_arc_17 : decode cX2_arc 17 = .ok (.aaload, 1) := by decide +kernel
theorem dX2_arc_18 : decode cX2_arc 18 = .ok (.invokevirtual 96, 3) := by decide +kernel
theorem dX2_arc_21 : decode cX2_arc 21 = .ok (.ifCond .eq 13, 3) := by decide +kernel
theorem dX2_arc_24 : decode cX2_arc 24 = .ok (.iload_n 1, 1) := by decide +kernel
theorem dX2_arc_25 : decode cX2_arc 25 = .ok (.aload_n 0, 1) := by decide +kernel
theorem dX2_arc_26 : decode cX2_arc 26 = .ok (.iload_n 2, 1) := by decide +kernel
theorem dX2_arc_27 : decode cX2_arc 27 = .ok (.invokevirtual 147, 3) := by decide +kernel
theorem dX2_arc_30 : decode cX2_arc 30 = .ok (.invokestatic 142, 3) := by decide +kernel
theorem dX2_arc_33 : decode cX2_arc 33 = .ok (.istore_n 1, 1) := by decide +kernel
theorem dX2_arc_34 : decode cX2_arc 34 = .ok (.iinc 2 1, 3) := by decide +kernel
theorem dX2_arc_37 : decode cX2_arc 37 = .ok (.goto (-33), 3) := by decide +kernel
theorem dX2_arc_40 : decode cX2_arc 40 = .ok (.iload_n 1, 1) := by decide +kernel
theorem dX2_arc_41 : decode cX2_arc 41 = .ok (.ifCond .ne 8, 3) := by decide +kernel
theorem dX2_arc_44 : decode cX2_arc 44 = .ok (.ldc 150, 2) := by decide +kernel
theorem dX2_arc_46 : decode cX2_arc 46 = .ok (.goto 7, 3) := by decide +kernel
theorem dX2_arc_49 : decode cX2_arc 49 = .ok (.bipush 120, 2) := by decide +kernel
theorem dX2_arc_51 : decode cX2_arc 51 = .ok (.iload_n 1, 1) := by decide +kernel
theorem dX2_arc_52 : decode cX2_arc 52 = .ok (.isub, 1) := by decide +kernel
theorem dX2_arc_53 : decode cX2_arc 53 = .ok (.ireturn, 1) := by decide +kernel
theorem dX2_agrees_0 : decode cX2_agrees 0 = .ok (.aload_n 0, 1) := by decide +kernel
theorem dX2_agrees_1 : decode cX2_agrees 1 = .ok (.invokevirtual 151, 3) := by decide +kernel
theorem dX2_agrees_4 : decode cX2_agrees 4 = .ok (.iconst 0, 1) := by decide +kernel
theorem dX2_agrees_5 : decode cX2_agrees 5 = .ok (.iload_n 1, 1) := by decide +kernel
theorem dX2_agrees_6 : decode cX2_agrees 6 = .ok (.invokestatic 72, 3) := by decide +kernel
theorem dX2_agrees_9 : decode cX2_agrees 9 = .ok (.ireturn, 1) := by decide +kernel
theorem dX2_gapsAbove_0 : decode cX2_gapsAbove 0 = .ok (.iconst 0, 1) := by decide +kernel
theorem dX2_gapsAbove_1 : decode cX2_gapsAbove 1 = .ok (.istore_n 2, 1) := by decide +kernel
theorem dX2_gapsAbove_2 : decode cX2_gapsAbove 2 = .ok (.iconst 0, 1) := by decide +kernel
theorem dX2_gapsAbove_3 : decode cX2_gapsAbove 3 = .ok (.istore_n 3, 1) := by decide +kernel
theorem dX2_gapsAbove_4 : decode cX2_gapsAbove 4 = .ok (.iload_n 3, 1) := by decide +kernel
theorem dX2_gapsAbove_5 : decode cX2_gapsAbove 5 = .ok (.aload_n 0, 1) := by decide +kernel
theorem dX2_gapsAbove_6 : decode cX2_gapsAbove 6 = .ok (.getfield 27, 3) := by decide +kernel
theorem dX2_gapsAbove_9 : decode cX2_gapsAbove 9 = .ok (.if_icmp .ge 46, 3) := by decide +kernel
theorem dX2_gapsAbove_12 : decode cX2_gapsAbove 12 = .ok (.iload_n 2, 1) := by decide +kernel
theorem dX2_gapsAbove_13 : decode cX2_gapsAbove 13 = .ok (.aload_n 0, 1) := by decide +kernel
theorem dX2_gapsAbove_14 : decode cX2_gapsAbove 14 = .ok (.getfield 11, 3) := by decide +kernel
theorem dX2_gapsAbove_17 : decode cX2_gapsAbove 17 = .ok (.iload_n 3, 1) := by decide +kernel
theorem dX2_gapsAbove_18 : decode cX2_gapsAbove 18 = .ok (.aaload, 1) := by decide +kernel
theorem dX2_gapsAbove_19 : decode cX2_gapsAbove 19 = .ok (.invokevirtual 96, 3) := by decide +kernel
theorem dX2_gapsAbove_22 : decode cX2_gapsAbove 22 = .ok (.ifCond .eq 24, 3) := by decide +kernel
theorem dX2_gapsAbove_25 : decode cX2_gapsAbove 25 = .ok (.aload_n 0, 1) := by decide +kernel
theorem dX2_gapsAbove_26 : decode cX2_gapsAbove 26 = .ok (.iload_n 3, 1) := by decide +kernel
theorem dX2_gapsAbove_27 : decode cX2_gapsAbove 27 = .ok (.invokevirtual 154, 3) := by decide +kernel
theorem dX2_gapsAbove_30 : decode cX2_gapsAbove 30 = .ok (.ifCond .eq 16, 3) := by decide +kernel
theorem dX2_gapsAbove_33 : decode cX2_gapsAbove 33 = .ok (.aload_n 0, 1) := by decide +kernel
theorem dX2_gapsAbove_34 : decode cX2_gapsAbove 34 = .ok (.iload_n 3, 1) := by decide +kernel
theorem dX2_gapsAbove_35 : decode cX2_gapsAbove 35 = .ok (.invokevirtual 147, 3) := by decide +kernel
theorem dX2_gapsAbove_38 : decode cX2_gapsAbove 38 = .ok (.iload_n 1, 1) := by decide +kernel
theorem dX2_gapsAbove_39 : decode cX2_gapsAbove 39 = .ok (.if_icmp .le 7, 3) := by decide +kernel
theorem dX2_gapsAbove_42 : decode cX2_gapsAbove 42 = .ok (.iconst 1, 1) := by decide +kernel
theorem dX2_gapsAbove_43 : decode cX2_gapsAbove 43 = .ok (.goto 4, 3) := by decide +kernel
theorem dX2_gapsAbove_46 : decode cX2_gapsAbove 46 = .ok (.iconst 0, 1) := by decide +kernel
theorem dX2_gapsAbove_47 : decode cX2_gapsAbove 47 = .ok (.iadd, 1) := by decide +kernel
theorem dX2_gapsAbove_48 : decode cX2_gapsAbove 48 = .ok (.istore_n 2, 1) := by decide +kernel
theorem dX2_gapsAbove_49 : decode cX2_gapsAbove 49 = .ok (.iinc 3 1, 3) := by decide +kernel
theorem dX2_gapsAbove_52 : decode cX2_gapsAbove 52 = .ok (.goto (-48), 3) := by decide +kernel
theorem dX2_gapsAbove_55 : decode cX2_gapsAbove 55 = .ok (.iload_n 2, 1) := by decide +kernel
theorem dX2_gapsAbove_56 : decode cX2_gapsAbove 56 = .ok (.ifCond .ne 14, 3) := by decide +kernel
theorem dX2_gapsAbove_59 : decode cX2_gapsAbove 59 = .ok (.aload_n 0, 1) := by decide +kernel
theorem dX2_gapsAbove_60 : decode cX2_gapsAbove 60 = .ok (.invokevirtual 157, 3) := by decide +kernel
theorem dX2_gapsAbove_63 : decode cX2_gapsAbove 63 = .ok (.ifCond .le 7, 3) := by decide +kernel
theorem dX2_gapsAbove_66 : decode cX2_gapsAbove 66 = .ok (.iconst 1, 1) := by decide +kernel
theorem dX2_gapsAbove_67 : decode cX2_gapsAbove 67 = .ok (.goto 4, 3) := by decide +kernel
theorem dX2_gapsAbove_70 : decode cX2_gapsAbove 70 = .ok (.iload_n 2, 1) := by decide +kernel
theorem dX2_gapsAbove_71 : decode cX2_gapsAbove 71 = .ok (.ireturn, 1) := by decide +kernel
theorem dX2_isFirstOfPhase_0 : decode cX2_isFirstOfPhase 0 = .ok (.iconst 0, 1) := by decide +kernel
theorem dX2_isFirstOfPhase_1 : decode cX2_isFirstOfPhase 1 = .ok (.istore_n 2, 1) := by decide +kernel
theorem dX2_isFirstOfPhase_2 : decode cX2_isFirstOfPhase 2 = .ok (.iload_n 2, 1) := by decide +kernel
theorem dX2_isFirstOfPhase_3 : decode cX2_isFirstOfPhase 3 = .ok (.iload_n 1, 1) := by decide +kernel
theorem dX2_isFirstOfPhase_4 : decode cX2_isFirstOfPhase 4 = .ok (.if_icmp .ge 44, 3) := by decide +kernel
theorem dX2_isFirstOfPhase_7 : decode cX2_isFirstOfPhase 7 = .ok (.aload_n 0, 1) := by decide +kernel
theorem dX2_isFirstOfPhase_8 : decode cX2_isFirstOfPhase 8 = .ok (.getfield 11, 3) := by decide +kernel
theorem dX2_isFirstOfPhase_11 : decode cX2_isFirstOfPhase 11 = .ok (.iload_n 2, 1) := by decide +kernel
theorem dX2_isFirstOfPhase_12 : decode cX2_isFirstOfPhase 12 = .ok (.aaload, 1) := by decide +kernel
theorem dX2_isFirstOfPhase_13 : decode cX2_isFirstOfPhase 13 = .ok (.invokevirtual 96, 3) := by decide +kernel
theorem dX2_isFirstOfPhase_16 : decode cX2_isFirstOfPhase 16 = .ok (.ifCond .eq 26, 3) := by decide +kernel
theorem dX2_isFirstOfPhase_19 : decode cX2_isFirstOfPhase 19 = .ok (.aload_n 0, 1) := by decide +kernel
theorem dX2_isFirstOfPhase_20 : decode cX2_isFirstOfPhase 20 = .ok (.getfield 11, 3) := by decide +kernel
theorem dX2_isFirstOfPhase_23 : decode cX2_isFirstOfPhase 23 = .ok (.iload_n 2, 1) := by decide +kernel
theorem dX2_isFirstOfPhase_24 : decode cX2_isFirstOfPhase 24 = .ok (.aaload, 1) := by decide +kernel
theorem dX2_isFirstOfPhase_25 : decode cX2_isFirstOfPhase 25 = .ok (.getfield 68, 3) := by decide +kernel
theorem dX2_isFirstOfPhase_28 : decode cX2_isFirstOfPhase 28 = .ok (.aload_n 0, 1) := by decide +kernel
theorem dX2_isFirstOfPhase_29 : decode cX2_isFirstOfPhase 29 = .ok (.getfield 11, 3) := by decide +kernel
theorem dX2_isFirstOfPhase_32 : decode cX2_isFirstOfPhase 32 = .ok (.iload_n 1, 1) := by decide +kernel
theorem dX2_isFirstOfPhase_33 : decode cX2_isFirstOfPhase 33 = .ok (.aaload, 1) := by decide +kernel
theorem dX2_isFirstOfPhase_34 : decode cX2_isFirstOfPhase 34 = .ok (.getfield 68, 3) := by decide +kernel
theorem dX2_isFirstOfPhase_37 : decode cX2_isFirstOfPhase 37 = .ok (.if_icmp .ne 5, 3) := by decide +kernel
theorem dX2_isFirstOfPhase_40 : decode cX2_isFirstOfPhase 40 = .ok (.iconst 0, 1) := by decide +kernel
theorem dX2_isFirstOfPhase_41 : decode cX2_isFirstOfPhase 41 = .ok (.ireturn, 1) := by decide +kernel
theorem dX2_isFirstOfPhase_42 : decode cX2_isFirstOfPhase 42 = .ok (.iinc 2 1, 3) := by decide +kernel
theorem dX2_isFirstOfPhase_45 : decode cX2_isFirstOfPhase 45 = .ok (.goto (-43), 3) := by decide +kernel
theorem dX2_isFirstOfPhase_48 : decode cX2_isFirstOfPhase 48 = .ok (.iconst 1, 1) := by decide +kernel
theorem dX2_isFirstOfPhase_49 : decode cX2_isFirstOfPhase 49 = .ok (.ireturn, 1) := by decide +kernel
theorem dX3_init_0 : decode cX3_init 0 = .ok (.aload_n 0, 1) := by decide +kernel
theorem dX3_init_1 : decode cX3_init 1 = .ok (.invokespecial 3, 3) := by decide +kernel
theorem dX3_init_4 : decode cX3_init 4 = .ok (.aload_n 0, 1) := by decide +kernel
theorem dX3_init_5 : decode cX3_init 5 = .ok (.iconst (-1), 1) := by decide +kernel
theorem dX3_init_6 : decode cX3_init 6 = .ok (.putfield 9, 3) := by decide +kernel
theorem dX3_init_9 : decode cX3_init 9 = .ok (.aload_n 0, 1) := by decide +kernel
theorem dX3_init_10 : decode cX3_init 10 = .ok (.iconst 0, 1) := by decide +kernel
theorem dX3_init_11 : decode cX3_init 11 = .ok (.putfield 15, 3) := by decide +kernel
theorem dX3_init_14 : decode cX3_init 14 = .ok (.aload_n 0, 1) := by decide +kernel
theorem dX3_init_15 : decode cX3_init 15 = .ok (.bipush 24, 2) := by decide +kernel
theorem dX3_init_17 : decode cX3_init 17 = .ok (.newarray .int, 2) := by decide +kernel
theorem dX3_init_19 : decode cX3_init 19 = .ok (.putfield 18, 3) := by decide +kernel
theorem dX3_init_22 : decode cX3_init 22 = .ok (.return_, 1) := by decide +kernel
theorem dX3_begin_0 : decode cX3_begin 0 = .ok (.aload_n 0, 1) := by decide +kernel
theorem dX3_begin_1 : decode cX3_begin 1 = .ok (.iload_n 1, 1) := by decide +kernel
theorem dX3_begin_2 : decode cX3_begin 2 = .ok (.putfield 9, 3) := by decide +kernel
theorem dX3_begin_5 : decode cX3_begin 5 = .ok (.aload_n 0, 1) := by decide +kernel
theorem dX3_begin_6 : decode cX3_begin 6 = .ok (.iload_n 2, 1) := by decide +kernel
theorem dX3_begin_7 : decode cX3_begin 7 = .ok (.putfield 15, 3) := by decide +kernel
theorem dX3_begin_10 : decode cX3_begin 10 = .ok (.iconst 0, 1) := by decide +kernel
theorem dX3_begin_11 : decode cX3_begin 11 = .ok (.istore_n 3, 1) := by decide +kernel
theorem dX3_begin_12 : decode cX3_begin 12 = .ok (.iload_n 3, 1) := by decide +kernel
theorem dX3_begin_13 : decode cX3_begin 13 = .ok (.bipush 24, 2) := by decide +kernel
theorem dX3_begin_15 : decode cX3_begin 15 = .ok (.if_icmp .ge 16, 3) := by decide +kernel
theorem dX3_begin_18 : decode cX3_begin 18 = .ok (.aload_n 0, 1) := by decide +kernel
theorem dX3_begin_19 : decode cX3_begin 19 = .ok (.getfield 18, 3) := by decide +kernel
theorem dX3_begin_22 : decode cX3_begin 22 = .ok (.iload_n 3, 1) := by decide +kernel
theorem dX3_begin_23 : decode cX3_begin 23 = .ok (.iconst 0, 1) := by decide +kernel
theorem dX3_begin_24 : decode cX3_begin 24 = .ok (.iastore, 1) := by decide +kernel
theorem dX3_begin_25 : decode cX3_begin 25 = .ok (.iinc 3 1, 3) := by decide +kernel
theorem dX3_begin_28 : decode cX3_begin 28 = .ok (.goto (-16), 3) := by decide +kernel
theorem dX3_begin_31 : decode cX3_begin 31 = .ok (.return_, 1) := by decide +kernel
theorem dX3_become_0 : decode cX3_become 0 = .ok (.aload_n 0, 1) := by decide +kernel
theorem dX3_become_1 : decode cX3_become 1 = .ok (.aload_n 1, 1) := by decide +kernel
theorem dX3_become_2 : decode cX3_become 2 = .ok (.getfield 9, 3) := by decide +kernel
theorem dX3_become_5 : decode cX3_become 5 = .ok (.putfield 9, 3) := by decide +kernel
theorem dX3_become_8 : decode cX3_become 8 = .ok (.aload_n 0, 1) := by decide +kernel
theorem dX3_become_9 : decode cX3_become 9 = .ok (.aload_n 1, 1) := by decide +kernel
theorem dX3_become_10 : decode cX3_become 10 = .ok (.getfield 15, 3) := by decide +kernel
theorem dX3_become_13 : decode cX3_become 13 = .ok (.putfield 15, 3) := by decide +kernel
theorem dX3_become_16 : decode cX3_become 16 = .ok (.iconst 0, 1) := by decide +kernel
theorem dX3_become_17 : decode cX3_become 17 = .ok (.istore_n 2, 1) := by decide +kernel
theorem dX3_become_18 : decode cX3_become 18 = .ok (.iload_n 2, 1) := by decide +kernel
theorem dX3_become_19 : decode cX3_become 19 = .ok (.bipush 24, 2) := by decide +kernel
theorem dX3_become_21 : decode cX3_become 21 = .ok (.if_icmp .ge 21, 3) := by decide +kernel
theorem dX3_become_24 : decode cX3_become 24 = .ok (.aload_n 0, 1) := by decide +kernel
theorem dX3_become_25 : decode cX3_become 25 = .ok (.getfield 18, 3) := by decide +kernel
theorem dX3_become_28 : decode cX3_become 28 = .ok (.iload_n 2, 1) := by decide +kernel
theorem dX3_become_29 : decode cX3_become 29 = .ok (.aload_n 1, 1) := by decide +kernel
theorem dX3_become_30 : decode cX3_become 30 = .ok (.getfield 18, 3) := by decide +kernel
theorem dX3_become_33 : decode cX3_become 33 = .ok (.iload_n 2, 1) := by decide +kernel
theorem dX3_become_34 : decode cX3_become 34 = .ok (.iaload, 1) := by decide +kernel
theorem dX3_become_35 : decode cX3_become 35 = .ok (.iastore, 1) := by decide +kernel
theorem dX3_become_36 : decode cX3_become 36 = .ok (.iinc 2 1, 3) := by decide +kernel
theorem dX3_become_39 : decode cX3_become 39 = .ok (.goto (-21), 3) := by decide +kernel
theorem dX3_become_42 : decode cX3_become 42 = .ok (.return_, 1) := by decide +kernel
theorem dX3_isMissing_0 : decode cX3_isMissing 0 = .ok (.aload_n 0, 1) := by decide +kernel
theorem dX3_isMissing_1 : decode cX3_isMissing 1 = .ok (.getfield 9, 3) := by decide +kernel
theorem dX3_isMissing_4 : decode cX3_isMissing 4 = .ok (.iconst (-1), 1) := by decide +kernel
theorem dX3_isMissing_5 : decode cX3_isMissing 5 = .ok (.if_icmp .ne 7, 3) := by decide +kernel
theorem dX3_isMissing_8 : decode cX3_isMissing 8 = .ok (.iconst 1, 1) := by decide +kernel
theorem dX3_isMissing_9 : decode cX3_isMissing 9 = .ok (.goto 4, 3) := by decide +kernel
theorem dX3_isMissing_12 : decode cX3_isMissing 12 = .ok (.iconst 0, 1) := by decide +kernel
theorem dX3_isMissing_13 : decode cX3_isMissing 13 = .ok (.ireturn, 1) := by decide +kernel
theorem dX3_has_0 : decode cX3_has 0 = .ok (.iload_n 1, 1) := by decide +kernel
theorem dX3_has_1 : decode cX3_has 1 = .ok (.iconst 0, 1) := by decide +kernel
theorem dX3_has_2 : decode cX3_has 2 = .ok (.aload_n 0, 1) := by decide +kernel
theorem dX3_has_3 : decode cX3_has 3 = .ok (.getfield 15, 3) := by decide +kernel
theorem dX3_has_6 : decode cX3_has 6 = .ok (.iconst 1, 1) := by decide +kernel
theorem dX3_has_7 : decode cX3_has 7 = .ok (.isub, 1) := by decide +kernel
theorem dX3_has_8 : decode cX3_has 8 = .ok (.invokestatic 22, 3) := by decide +kernel
theorem dX3_has_11 : decode cX3_has 11 = .ok (.ireturn, 1) := by decide +kernel
theorem dX3_hasRun_0 : decode cX3_hasRun 0 = .ok (.iload_n 1, 1) := by decide +kernel
theorem dX3_hasRun_1 : decode cX3_hasRun 1 = .ok (.iconst 0, 1) := by decide +kernel
theorem dX3_hasRun_2 : decode cX3_hasRun 2 = .ok (.aload_n 0, 1) := by decide +kernel
theorem dX3_hasRun_3 : decode cX3_hasRun 3 = .ok (.getfield 15, 3) := by decide +kernel
theorem dX3_hasRun_6 : decode cX3_hasRun 6 = .ok (.invokestatic 22, 3) := by decide +kernel
theorem dX3_hasRun_9 : decode cX3_hasRun 9 = .ok (.ifCond .eq 21, 3) := by decide +kernel
theorem dX3_hasRun_12 : decode cX3_hasRun 12 = .ok (.iload_n 2, 1) := by decide +kernel
theorem dX3_hasRun_13 : decode cX3_hasRun 13 = .ok (.iconst 0, 1) := by decide +kernel
theorem dX3_hasRun_14 : decode cX3_hasRun 14 = .ok (.aload_n 0, 1) := by decide +kernel
theorem dX3_hasRun_15 : decode cX3_hasRun 15 = .ok (.getfield 15, 3) := by decide +kernel
theorem dX3_hasRun_18 : decode cX3_hasRun 18 = .ok (.iload_n 1, 1) := by decide +kernel
theorem dX3_hasRun_19 : decode cX3_hasRun 19 = .ok (.isub, 1) := by decide +kernel
theorem dX3_hasRun_20 : decode cX3_hasRun 20 = .ok (.invokestatic 22, 3) := by decide +kernel
theorem dX3_hasRun_23 : decode cX3_hasRun 23 = .ok (.ifCond .eq 7, 3) := by decide +kernel
theorem dX3_hasRun_26 : decode cX3_hasRun 26 = .ok (.iconst 1, 1) := by decide +kernel
theorem dX3_hasRun_27 : decode cX3_hasRun 27 = .ok (.goto 4, 3) := by decide +kernel
theorem dX3_hasRun_30 : decode cX3_hasRun 30 = .ok (.iconst 0, 1) := by decide +kernel
theorem dX3_hasRun_31 : decode cX3_hasRun 31 = .ok (.ireturn, 1) := by decide +kernel
theorem dX4_init_0 : decode cX4_init 0 = .ok (.aload_n 0, 1) := by decide +kernel
theorem dX4_init_1 : decode cX4_init 1 = .ok (.invokespecial 3, 3) := by decide +kernel
theorem dX4_init_4 : decode cX4_init 4 = .ok (.aload_n 0, 1) := by decide +kernel
theorem dX4_init_5 : decode cX4_init 5 = .ok (.iconst 0, 1) := by decide +kernel
theorem dX4_init_6 : decode cX4_init 6 = .ok (.putfield 9, 3) := by decide +kernel
theorem dX4_init_9 : decode cX4_init 9 = .ok (.aload_n 0, 1) := by decide +kernel
theorem dX4_init_10 : decode cX4_init 10 = .ok (.new 15, 3) := by decide +kernel
theorem dX4_init_13 : decode cX4_init 13 = .ok (.dup, 1) := by decide +kernel
theorem dX4_init_14 : decode cX4_init 14 = .ok (.invokespecial 17, 3) := by decide +kernel
theorem dX4_init_17 : decode cX4_init 17 = .ok (.putfield 18, 3) := by decide +kernel
theorem dX4_init_20 : decode cX4_init 20 = .ok (.aload_n 0, 1) := by decide +kernel
theorem dX4_init_21 : decode cX4_init 21 = .ok (.new 22, 3) := by decide +kernel
theorem dX4_init_24 : decode cX4_init 24 = .ok (.dup, 1) := by decide +kernel
theorem dX4_init_25 : decode cX4_init 25 = .ok (.invokespecial 24, 3) := by decide +kernel
theorem dX4_init_28 : decode cX4_init 28 = .ok (.putfield 25, 3) := by decide +kernel
theorem dX4_init_31 : decode cX4_init 31 = .ok (.aload_n 0, 1) := by decide +kernel
theorem dX4_init_32 : decode cX4_init 32 = .ok (.iconst 0, 1) := by decide +kernel
theorem dX4_init_33 : decode cX4_init 33 = .ok (.putfield 29, 3) := by decide +kernel
theorem dX4_init_36 : decode cX4_init 36 = .ok (.return_, 1) := by decide +kernel
theorem dX5_init_0 : decode cX5_init 0 = .ok (.aload_n 0, 1) := by decide +kernel
theorem dX5_init_1 : decode cX5_init 1 = .ok (.invokespecial 3, 3) := by decide +kernel
theorem dX5_init_4 : decode cX5_init 4 = .ok (.aload_n 0, 1) := by decide +kernel
theorem dX5_init_5 : decode cX5_init 5 = .ok (.bipush 96, 2) := by decide +kernel
theorem dX5_init_7 : decode cX5_init 7 = .ok (.newarray .byte, 2) := by decide +kernel
theorem dX5_init_9 : decode cX5_init 9 = .ok (.putfield 9, 3) := by decide +kernel
theorem dX5_init_12 : decode cX5_init 12 = .ok (.aload_n 0, 1) := by decide +kernel
theorem dX5_init_13 : decode cX5_init 13 = .ok (.iconst 0, 1) := by decide +kernel
theorem dX5_init_14 : decode cX5_init 14 = .ok (.putfield 15, 3) := by decide +kernel
theorem dX5_init_17 : decode cX5_init 17 = .ok (.aload_n 0, 1) := by decide +kernel
theorem dX5_init_18 : decode cX5_init 18 = .ok (.iconst 0, 1) := by decide +kernel
theorem dX5_init_19 : decode cX5_init 19 = .ok (.putfield 19, 3) := by decide +kernel
theorem dX5_init_22 : decode cX5_init 22 = .ok (.aload_n 0, 1) := by decide +kernel
theorem dX5_init_23 : decode cX5_init 23 = .ok (.iconst 0, 1) := by decide +kernel
theorem dX5_init_24 : decode cX5_init 24 = .ok (.putfield 22, 3) := by decide +kernel
theorem dX5_init_27 : decode cX5_init 27 = .ok (.aload_n 0, 1) := by decide +kernel
theorem dX5_init_28 : decode cX5_init 28 = .ok (.iconst (-1), 1) := by decide +kernel
theorem dX5_init_29 : decode cX5_init 29 = .ok (.putfield 25, 3) := by decide +kernel
theorem dX5_init_32 : decode cX5_init 32 = .ok (.aload_n 0, 1) := by decide +kernel
theorem dX5_init_33 : decode cX5_init 33 = .ok (.iconst (-1), 1) := by decide +kernel
theorem dX5_init_34 : decode cX5_init 34 = .ok (.putfield 28, 3) := by decide +kernel
theorem dX5_init_37 : decode cX5_init 37 = .ok (.aload_n 0, 1) := by decide +kernel
theorem dX5_init_38 : decode cX5_init 38 = .ok (.new 31, 3) := by decide +kernel
theorem dX5_init_41 : decode cX5_init 41 = .ok (.dup, 1) := by decide +kernel
theorem dX5_init_42 : decode cX5_init 42 = .ok (.invokespecial 33, 3) := by decide +kernel
theorem dX5_init_45 : decode cX5_init 45 = .ok (.putfield 34, 3) := by decide +kernel
theorem dX5_init_48 : decode cX5_init 48 = .ok (.return_, 1) := by decide +kernel
theorem dX5_addFour_0 : decode cX5_addFour 0 = .ok (.bipush 24, 2) := by decide +kernel
theorem dX5_addFour_2 : decode cX5_addFour 2 = .ok (.istore_n 2, 1) := by decide +kernel
theorem dX5_addFour_3 : decode cX5_addFour 3 = .ok (.iload_n 2, 1) := by decide +kernel
theorem dX5_addFour_4 : decode cX5_addFour 4 = .ok (.ifCond .lt 41, 3) := by decide +kernel
theorem dX5_addFour_7 : decode cX5_addFour 7 = .ok (.aload_n 0, 1) := by decide +kernel
theorem dX5_addFour_8 : decode cX5_addFour 8 = .ok (.getfield 15, 3) := by decide +kernel
theorem dX5_addFour_11 : decode cX5_addFour 11 = .ok (.bipush 96, 2) := by decide +kernel
theorem dX5_addFour_13 : decode cX5_addFour 13 = .ok (.if_icmp .ge 32, 3) := by decide +kernel
theorem dX5_addFour_16 : decode cX5_addFour 16 = .ok (.aload_n 0, 1) := by decide +kernel
theorem dX5_addFour_17 : decode cX5_addFour 17 = .ok (.getfield 9, 3) := by decide +kernel
theorem dX5_addFour_20 : decode cX5_addFour 20 = .ok (.aload_n 0, 1) := by decide +kernel
theorem dX5_addFour_21 : decode cX5_addFour 21 = .ok (.getfield 15, 3) := by decide +kernel
theorem dX5_addFour_24 : decode cX5_addFour 24 = .ok (.iload_n 1, 1) := by decide +kernel
theorem dX5_addFour_25 : decode cX5_addFour 25 = .ok (.iload_n 2, 1) := by decide +kernel
theorem dX5_addFour_26 : decode cX5_addFour 26 = .ok (.iushr, 1) := by decide +kernel
theorem dX5_addFour_27 : decode cX5_addFour 27 = .ok (.i2b, 1) := by decide +kernel
theorem dX5_addFour_28 : decode cX5_addFour 28 = .ok (.bastore, 1) := by decide +kernel
theorem dX5_addFour_29 : decode cX5_addFour 29 = .ok (.aload_n 0, 1) := by decide +kernel
theorem dX5_addFour_30 : decode cX5_addFour 30 = .ok (.dup, 1) := by decide +kernel
theorem dX5_addFour_31 : decode cX5_addFour 31 = .ok (.getfield 15, 3) := by decide +kernel
theorem dX5_addFour_34 : decode cX5_addFour 34 = .ok (.iconst 1, 1) := by decide +kernel
theorem dX5_addFour_35 : decode cX5_addFour 35 = .ok (.iadd, 1) := by decide +kernel
theorem dX5_addFour_36 : decode cX5_addFour 36 = .ok (.putfield 15, 3) := by decide +kernel
theorem dX5_addFour_39 : decode cX5_addFour 39 = .ok (.iinc 2 (-8), 3) := by decide +kernel
theorem dX5_addFour_42 : decode cX5_addFour 42 = .ok (.goto (-39), 3) := by decide +kernel
theorem dX5_addFour_45 : decode cX5_addFour 45 = .ok (.return_, 1) := by decide +kernel
theorem dX5_faultOf_0 : decode cX5_faultOf 0 = .ok (.aload_n 0, 1) := by decide +kernel
theorem dX5_faultOf_1 : decode cX5_faultOf 1 = .ok (.iconst 0, 1) := by decide +kernel
theorem dX5_faultOf_2 : decode cX5_faultOf 2 = .ok (.putfield 22, 3) := by decide +kernel
theorem dX5_faultOf_5 : decode cX5_faultOf 5 = .ok (.aload_n 0, 1) := by decide +kernel
theorem dX5_faultOf_6 : decode cX5_faultOf 6 = .ok (.iconst (-1), 1) := by decide +kernel
theorem dX5_faultOf_7 : decode cX5_faultOf 7 = .ok (.putfield 25, 3) := by decide +kernel
theorem dX5_faultOf_10 : decode cX5_faultOf 10 = .ok (.aload_n 0, 1) := by decide +kernel
theorem dX5_faultOf_11 : decode cX5_faultOf 11 = .ok (.iconst (-1), 1) := by decide +kernel
theorem dX5_faultOf_12 : decode cX5_faultOf 12 = .ok (.putfield 28, 3) := by decide +kernel
theorem dX5_faultOf_15 : decode cX5_faultOf 15 = .ok (.aload_n 0, 1) := by decide +kernel
theorem dX5_faultOf_16 : decode cX5_faultOf 16 = .ok (.invokevirtual 38, 3) := by decide +kernel
theorem dX5_faultOf_19 : decode cX5_faultOf 19 = .ok (.aload_n 0, 1) := by decide +kernel
theorem dX5_faultOf_20 : decode cX5_faultOf 20 = .ok (.getfield 25, 3) := by decide +kernel
theorem dX5_faultOf_23 : decode cX5_faultOf 23 = .ok (.bipush (-2), 2) := by decide +kernel
theorem dX5_faultOf_25 : decode cX5_faultOf 25 = .ok (.if_icmp .ne 10, 3) := by decide +kernel
theorem dX5_faultOf_28 : decode cX5_faultOf 28 = .ok (.aload_n 0, 1) := by decide +kernel
theorem dX5_faultOf_29 : decode cX5_faultOf 29 = .ok (.invokevirtual 41, 3) := by decide +kernel
theorem dX5_faultOf_32 : decode cX5_faultOf 32 = .ok (.goto 4, 3) := by decide +kernel
theorem dX5_faultOf_35 : decode cX5_faultOf 35 = .ok (.iconst (-1), 1) := by decide +kernel
theorem dX5_faultOf_36 : decode cX5_faultOf 36 = .ok (.istore_n 1, 1) := by decide +kernel
theorem dX5_faultOf_37 : decode cX5_faultOf 37 = .ok (.iload_n 1, 1) := by decide +kernel
theorem dX5_faultOf_38 : decode cX5_faultOf 38 = .ok (.ifCond .ge 8, 3) := by decide +kernel
theorem dX5_faultOf_41 : decode cX5_faultOf 41 = .ok (.aload_n 0, 1) := by decide +kernel
theorem dX5_faultOf_42 : decode cX5_faultOf 42 = .ok (.getfield 19, 3) := by decide +kernel
theorem dX5_faultOf_45 : decode cX5_faultOf 45 = .ok (.ireturn, 1) := by decide +kernel
theorem dX5_faultOf_46 : decode cX5_faultOf 46 = .ok (.aload_n 0, 1) := by decide +kernel
theorem dX5_faultOf_47 : decode cX5_faultOf 47 = .ok (.getfield 34, 3) := by decide +kernel
theorem dX5_faultOf_50 : decode cX5_faultOf 50 = .ok (.iload_n 1, 1) := by decide +kernel
theorem dX5_faultOf_51 : decode cX5_faultOf 51 = .ok (.invokevirtual 45, 3) := by decide +kernel
theorem dX5_faultOf_54 : decode cX5_faultOf 54 = .ok (.aload_n 0, 1) := by decide +kernel
theorem dX5_faultOf_55 : decode cX5_faultOf 55 = .ok (.invokevirtual 38, 3) := by decide +kernel
theorem dX5_faultOf_58 : decode cX5_faultOf 58 = .ok (.aload_n 0, 1) := by decide +kernel
theorem dX5_faultOf_59 : decode cX5_faultOf 59 = .ok (.iconst 0, 1) := by decide +kernel
theorem dX5_faultOf_60 : decode cX5_faultOf 60 = .ok (.iconst 0, 1) := by decide +kernel
theorem dX5_faultOf_61 : decode cX5_faultOf 61 = .ok (.iconst 0, 1) := by decide +kernel
theorem dX5_faultOf_62 : decode cX5_faultOf 62 = .ok (.invokevirtual 49, 3) := by decide +kernel
theorem dX5_faultOf_65 : decode cX5_faultOf 65 = .ok (.istore_n 2, 1) := by decide +kernel
theorem dX5_faultOf_66 : decode cX5_faultOf 66 = .ok (.iload_n 2, 1) := by decide +kernel
theorem dX5_faultOf_67 : decode cX5_faultOf 67 = .ok (.ifCond .lt 16, 3) := by decide +kernel
theorem dX5_faultOf_70 : decode cX5_faultOf 70 = .ok (.aload_n 0, 1) := by decide +kernel
theorem dX5_faultOf_71 : decode cX5_faultOf 71 = .ok (.getfield 25, 3) := by decide +kernel
theorem dX5_faultOf_74 : decode cX5_faultOf 74 = .ok (.iconst (-1), 1) := by decide +kernel
theorem dX5_faultOf_75 : decode cX5_faultOf 75 = .ok (.if_icmp .eq 8, 3) := by decide +kernel
theorem dX5_faultOf_78 : decode cX5_faultOf 78 = .ok (.aload_n 0, 1) := by decide +kernel
theorem dX5_faultOf_79 : decode cX5_faultOf 79 = .ok (.invokevirtual 53, 3) := by decide +kernel
theorem dX5_faultOf_82 : decode cX5_faultOf 82 = .ok (.pop, 1) := by decide +kernel
theorem dX5_faultOf_83 : decode cX5_faultOf 83 = .ok (.aload_n 0, 1) := by decide +kernel
theorem dX5_faultOf_84 : decode cX5_faultOf 84 = .ok (.getfield 28, 3) := by decide +kernel
theorem dX5_faultOf_87 : decode cX5_faultOf 87 = .ok (.ireturn, 1) := by decide +kernel
theorem dX5_fail_0 : decode cX5_fail 0 = .ok (.aload_n 0, 1) := by decide +kernel
theorem dX5_fail_1 : decode cX5_fail 1 = .ok (.aload_n 0, 1) := by decide +kernel
theorem dX5_fail_2 : decode cX5_fail 2 = .ok (.getfield 19, 3) := by decide +kernel
theorem dX5_fail_5 : decode cX5_fail 5 = .ok (.putfield 28, 3) := by decide +kernel
theorem dX5_fail_8 : decode cX5_fail 8 = .ok (.iconst (-1), 1) := by decide +kernel
theorem dX5_fail_9 : decode cX5_fail 9 = .ok (.ireturn, 1) := by decide +kernel
theorem dX5_advance_0 : decode cX5_advance 0 = .ok (.aload_n 0, 1) := by decide +kernel
theorem dX5_advance_1 : decode cX5_advance 1 = .ok (.getfield 25, 3) := by decide +kernel
theorem dX5_advance_4 : decode cX5_advance 4 = .ok (.bipush (-2), 2) := by decide +kernel
theorem dX5_advance_6 : decode cX5_advance 6 = .ok (.if_icmp .eq 12, 3) := by decide +kernel
theorem dX5_advance_9 : decode cX5_advance 9 = .ok (.aload_n 0, 1) := by decide +kernel
theorem dX5_advance_10 : decode cX5_advance 10 = .ok (.getfield 25, 3) := by decide +kernel
theorem dX5_advance_13 : decode cX5_advance 13 = .ok (.bipush (-3), 2) := by decide +kernel
theorem dX5_advance_15 : decode cX5_advance 15 = .ok (.if_icmp .ne 7, 3) := by decide +kernel
theorem dX5_advance_18 : decode cX5_advance 18 = .ok (.iconst 1, 1) := by decide +kernel
theorem dX5_advance_19 : decode cX5_advance 19 = .ok (.goto 4, 3) := by decide +kernel
theorem dX5_advance_22 : decode cX5_advance 22 = .ok (.iconst 0, 1) := by decide +kernel
theorem dX5_advance_23 : decode cX5_advance 23 = .ok (.istore_n 1, 1) := by decide +kernel
theorem dX5_advance_24 : decode cX5_advance 24 = .ok (.aload_n 0, 1) := by decide +kernel
theorem dX5_advance_25 : decode cX5_advance 25 = .ok (.getfield 22, 3) := by decide +kernel
theorem dX5_advance_28 : decode cX5_advance 28 = .ok (.istore_n 2, 1) := by decide +kernel
theorem dX5_advance_29 : decode cX5_advance 29 = .ok (.aload_n 0, 1) := by decide +kernel
theorem dX5_advance_30 : decode cX5_advance 30 = .ok (.iload_n 2, 1) := by decide +kernel
theorem dX5_advance_31 : decode cX5_advance 31 = .ok (.putfield 19, 3) := by decide +kernel
theorem dX5_advance_34 : decode cX5_advance 34 = .ok (.aload_n 0, 1) := by decide +kernel
theorem dX5_advance_35 : decode cX5_advance 35 = .ok (.getfield 19, 3) := by decide +kernel
theorem dX5_advance_38 : decode cX5_advance 38 = .ok (.aload_n 0, 1) := by decide +kernel
theorem dX5_advance_39 : decode cX5_advance 39 = .ok (.getfield 15, 3) := by decide +kernel
theorem dX5_advance_42 : decode cX5_advance 42 = .ok (.if_icmp .ge 30, 3) := by decide +kernel
theorem dX5_advance_45 : decode cX5_advance 45 = .ok (.aload_n 0, 1) := by decide +kernel
theorem dX5_advance_46 : decode cX5_advance 46 = .ok (.getfield 9, 3) := by decide +kernel
theorem dX5_advance_49 : decode cX5_advance 49 = .ok (.aload_n 0, 1) := by decide +kernel
theorem dX5_advance_50 : decode cX5_advance 50 = .ok (.getfield 19, 3) := by decide +kernel
theorem dX5_advance_53 : decode cX5_advance 53 = .ok (.baload, 1) := by decide +kernel
theorem dX5_advance_54 : decode cX5_advance 54 = .ok (.bipush 32, 2) := by decide +kernel
theorem dX5_advance_56 : decode cX5_advance 56 = .ok (.if_icmp .ne 16, 3) := by decide +kernel
theorem dX5_advance_59 : decode cX5_advance 59 = .ok (.aload_n 0, 1) := by decide +kernel
theorem dX5_advance_60 : decode cX5_advance 60 = .ok (.dup, 1) := by decide +kernel
theorem dX5_advance_61 : decode cX5_advance 61 = .ok (.getfield 19, 3) := by decide +kernel
theorem dX5_advance_64 : decode cX5_advance 64 = .ok (.iconst 1, 1) := by decide +kernel
theorem dX5_advance_65 : decode cX5_advance 65 = .ok (.iadd, 1) := by decide +kernel
theorem dX5_advance_66 : decode cX5_advance 66 = .ok (.putfield 19, 3) := by decide +kernel
theorem dX5_advance_69 : decode cX5_advance 69 = .ok (.goto (-35), 3) := by decide +kernel
theorem dX5_advance_72 : decode cX5_advance 72 = .ok (.aload_n 0, 1) := by decide +kernel
theorem dX5_advance_73 : decode cX5_advance 73 = .ok (.aload_n 0, 1) := by decide +kernel
theorem dX5_advance_74 : decode cX5_advance 74 = .ok (.getfield 19, 3) := by decide +kernel
theorem dX5_advance_77 : decode cX5_advance 77 = .ok (.putfield 22, 3) := by decide +kernel
theorem dX5_advance_80 : decode cX5_advance 80 = .ok (.aload_n 0, 1) := by decide +kernel
theorem dX5_advance_81 : decode cX5_advance 81 = .ok (.aload_n 0, 1) := by decide +kernel
theorem dX5_advance_82 : decode cX5_advance 82 = .ok (.getfield 19, 3) := by decide +kernel
theorem dX5_advance_85 : decode cX5_advance 85 = .ok (.aload_n 0, 1) := by decide +kernel
theorem dX5_advance_86 : decode cX5_advance 86 = .ok (.getfield 15, 3) := by decide +kernel
theorem dX5_advance_89 : decode cX5_advance 89 = .ok (.if_icmp .ge 14, 3) := by decide +kernel
theorem dX5_advance_92 : decode cX5_advance 92 = .ok (.aload_n 0, 1) := by decide +kernel
theorem dX5_advance_93 : decode cX5_advance 93 = .ok (.aload_n 0, 1) := by decide +kernel
theorem dX5_advance_94 : decode cX5_advance 94 = .ok (.getfield 19, 3) := by decide +kernel
theorem dX5_advance_97 : decode cX5_advance 97 = .ok (.invokevirtual 56, 3) := by decide +kernel
theorem dX5_advance_100 : decode cX5_advance 100 = .ok (.goto 4, 3) := by decide +kernel
theorem dX5_advance_103 : decode cX5_advance 103 = .ok (.iconst (-1), 1) := by decide +kernel
theorem dX5_advance_104 : decode cX5_advance 104 = .ok (.putfield 25, 3) := by decide +kernel
theorem dX5_advance_107 : decode cX5_advance 107 = .ok (.aload_n 0, 1) := by decide +kernel
theorem dX5_advance_108 : decode cX5_advance 108 = .ok (.getfield 25, 3) := by decide +kernel
theorem dX5_advance_111 : decode cX5_advance 111 = .ok (.bipush (-2), 2) := by decide +kernel
theorem dX5_advance_113 : decode cX5_advance 113 = .ok (.if_icmp .eq 12, 3) := by decide +kernel
theorem dX5_advance_116 : decode cX5_advance 116 = .ok (.aload_n 0, 1) := by decide +kernel
theorem dX5_advance_117 : decode cX5_advance 117 = .ok (.getfield 25, 3) := by decide +kernel
theorem dX5_advance_120 : decode cX5_advance 120 = .ok (.bipush (-3), 2) := by decide +kernel
theorem dX5_advance_122 : decode cX5_advance 122 = .ok (.if_icmp .ne 7, 3) := by decide +kernel
theorem dX5_advance_125 : decode cX5_advance 125 = .ok (.iconst 1, 1) := by decide +kernel
theorem dX5_advance_126 : decode cX5_advance 126 = .ok (.goto 4, 3) := by decide +kernel
theorem dX5_advance_129 : decode cX5_advance 129 = .ok (.iconst 0, 1) := by decide +kernel
theorem dX5_advance_130 : decode cX5_advance 130 = .ok (.istore_n 3, 1) := by decide +kernel
theorem dX5_advance_131 : decode cX5_advance 131 = .ok (.iload_n 3, 1) := by decide +kernel
theorem dX5_advance_132 : decode cX5_advance 132 = .ok (.ifCond .eq 42, 3) := by decide +kernel
theorem dX5_advance_135 : decode cX5_advance 135 = .ok (.aload_n 0, 1) := by decide +kernel
theorem dX5_advance_136 : decode cX5_advance 136 = .ok (.getfield 22, 3) := by decide +kernel
theorem dX5_advance_139 : decode cX5_advance 139 = .ok (.aload_n 0, 1) := by decide +kernel
theorem dX5_advance_140 : decode cX5_advance 140 = .ok (.getfield 15, 3) := by decide +kernel
theorem dX5_advance_143 : decode cX5_advance 143 = .ok (.if_icmp .ge 31, 3) := by decide +kernel
theorem dX5_advance_146 : decode cX5_advance 146 = .ok (.aload_n 0, 1) := by decide +kernel
theorem dX5_advance_147 : decode cX5_advance 147 = .ok (.aload_n 0, 1) := by decide +kernel
theorem dX5_advance_148 : decode cX5_advance 148 = .ok (.getfield 22, 3) := by decide +kernel
theorem dX5_advance_151 : decode cX5_advance 151 = .ok (.invokevirtual 56, 3) := by decide +kernel
theorem dX5_advance_154 : decode cX5_advance 154 = .ok (.aload_n 0, 1) := by decide +kernel
theorem dX5_advance_155 : decode cX5_advance 155 = .ok (.getfield 25, 3) := by decide +kernel
theorem dX5_advance_158 : decode cX5_advance 158 = .ok (.if_icmp .ne 16, 3) := by decide +kernel
theorem dX5_advance_161 : decode cX5_advance 161 = .ok (.aload_n 0, 1) := by decide +kernel
theorem dX5_advance_162 : decode cX5_advance 162 = .ok (.dup, 1) := by decide +kernel
theorem dX5_advance_163 : decode cX5_advance 163 = .ok (.getfield 22, 3) := by decide +kernel
theorem dX5_advance_166 : decode cX5_advance 166 = .ok (.iconst 1, 1) := by decide +kernel
theorem dX5_advance_167 : decode cX5_advance 167 = .ok (.iadd, 1) := by decide +kernel
theorem dX5_advance_168 : decode cX5_advance 168 = .ok (.putfield 22, 3) := by decide +kernel
theorem dX5_advance_171 : decode cX5_advance 171 = .ok (.goto (-40), 3) := by decide +kernel
theorem dX5_advance_174 : decode cX5_advance 174 = .ok (.iload_n 3, 1) := by decide +kernel
theorem dX5_advance_175 : decode cX5_advance 175 = .ok (.ifCond .eq 21, 3) := by decide +kernel
theorem dX5_advance_178 : decode cX5_advance 178 = .ok (.iload_n 1, 1) := by decide +kernel
theorem dX5_advance_179 : decode cX5_advance 179 = .ok (.ifCond .eq 17, 3) := by decide +kernel
theorem dX5_advance_182 : decode cX5_advance 182 = .ok (.aload_n 0, 1) := by decide +kernel
theorem dX5_advance_183 : decode cX5_advance 183 = .ok (.getfield 19, 3) := by decide +kernel
theorem dX5_advance_186 : decode cX5_advance 186 = .ok (.iload_n 2, 1) := by decide +kernel
theorem dX5_advance_187 : decode cX5_advance 187 = .ok (.if_icmp .ne 9, 3) := by decide +kernel
theorem dX5_advance_190 : decode cX5_advance 190 = .ok (.aload_n 0, 1) := by decide +kernel
theorem dX5_advance_191 : decode cX5_advance 191 = .ok (.bipush (-4), 2) := by decide +kernel
theorem dX5_advance_193 : decode cX5_advance 193 = .ok (.putfield 25, 3) := by decide +kernel
theorem dX5_advance_196 : decode cX5_advance 196 = .ok (.iload_n 3, 1) := by decide +kernel
theorem dX5_advance_197 : decode cX5_advance 197 = .ok (.ifCond .ne 21, 3) := by decide +kernel
theorem dX5_advance_200 : decode cX5_advance 200 = .ok (.aload_n 0, 1) := by decide +kernel
theorem dX5_advance_201 : decode cX5_advance 201 = .ok (.getfield 25, 3) := by decide +kernel
theorem dX5_advance_204 : decode cX5_advance 204 = .ok (.iconst (-1), 1) := by decide +kernel
theorem dX5_advance_205 : decode cX5_advance 205 = .ok (.if_icmp .eq 13, 3) := by decide +kernel
theorem dX5_advance_208 : decode cX5_advance 208 = .ok (.aload_n 0, 1) := by decide +kernel
theorem dX5_advance_209 : decode cX5_advance 209 = .ok (.aload_n 0, 1) := by decide +kernel
theorem dX5_advance_210 : decode cX5_advance 210 = .ok (.getfield 19, 3) := by decide +kernel
theorem dX5_advance_213 : decode cX5_advance 213 = .ok (.iconst 1, 1) := by decide +kernel
theorem dX5_advance_214 : decode cX5_advance 214 = .ok (.iadd, 1) := by decide +kernel
theorem dX5_advance_215 : decode cX5_advance 215 = .ok (.putfield 22, 3) := by decide +kernel
theorem dX5_advance_218 : decode cX5_advance 218 = .ok (.return_, 1) := by decide +kernel
theorem dX5_sortAt_0 : decode cX5_sortAt 0 = .ok (.aload_n 0, 1) := by decide +kernel
theorem dX5_sortAt_1 : decode cX5_sortAt 1 = .ok (.getfield 9, 3) := by decide +kernel
theorem dX5_sortAt_4 : decode cX5_sortAt 4 = .ok (.iload_n 1, 1) := by decide +kernel
theorem dX5_sortAt_5 : decode cX5_sortAt 5 = .ok (.baload, 1) := by decide +kernel
theorem dX5_sortAt_6 : decode cX5_sortAt 6 = .ok (.sipush 255, 3) := by decide +kernel
theorem dX5_sortAt_9 : decode cX5_sortAt 9 = .ok (.iand, 1) := by decide +kernel
theorem dX5_sortAt_10 : decode cX5_sortAt 10 = .ok (.istore_n 2, 1) := by decide +kernel
theorem dX5_sortAt_11 : decode cX5_sortAt 11 = .ok (.iload_n 2, 1) := by decide +kernel
theorem dX5_sortAt_12 : decode cX5_sortAt 12 = .ok (.bipush 97, 2) := by decide +kernel
theorem dX5_sortAt_14 : decode cX5_sortAt 14 = .ok (.bipush 122, 2) := by decide +kernel
theorem dX5_sortAt_16 : decode cX5_sortAt 16 = .ok (.invokestatic 60, 3) := by decide +kernel
theorem dX5_sortAt_19 : decode cX5_sortAt 19 = .ok (.ifCond .eq 6, 3) := by decide +kernel
theorem dX5_sortAt_22 : decode cX5_sortAt 22 = .ok (.bipush (-2), 2) := by decide +kernel
theorem dX5_sortAt_24 : decode cX5_sortAt 24 = .ok (.ireturn, 1) := by decide +kernel
theorem dX5_sortAt_25 : decode cX5_sortAt 25 = .ok (.iload_n 2, 1) := by decide +kernel
theorem dX5_sortAt_26 : decode cX5_sortAt 26 = .ok (.bipush 48, 2) := by decide +kernel
theorem dX5_sortAt_28 : decode cX5_sortAt 28 = .ok (.bipush 57, 2) := by decide +kernel
theorem dX5_sortAt_30 : decode cX5_sortAt 30 = .ok (.invokestatic 60, 3) := by decide +kernel
theorem dX5_sortAt_33 : decode cX5_sortAt 33 = .ok (.ifCond .eq 8, 3) := by decide +kernel
theorem dX5_sortAt_36 : decode cX5_sortAt 36 = .ok (.bipush (-3), 2) := by decide +kernel
theorem dX5_sortAt_38 : decode cX5_sortAt 38 = .ok (.goto 4, 3) := by decide +kernel
theorem dX5_sortAt_41 : decode cX5_sortAt 41 = .ok (.iload_n 2, 1) := by decide +kernel
theorem dX5_sortAt_42 : decode cX5_sortAt 42 = .ok (.ireturn, 1) := by decide +kernel
theorem dX5_keyOfWord_0 : decode cX5_keyOfWord 0 = .ok (.iconst 0, 1) := by decide +kernel
theorem dX5_keyOfWord_1 : decode cX5_keyOfWord 1 = .ok (.istore_n 1, 1) := by decide +kernel
theorem dX5_keyOfWord_2 : decode cX5_keyOfWord 2 = .ok (.iload_n 1, 1) := by decide +kernel
theorem dX5_keyOfWord_3 : decode cX5_keyOfWord 3 = .ok (.iconst 3, 1) := by decide +kernel
theorem dX5_keyOfWord_4 : decode cX5_keyOfWord 4 = .ok (.if_icmp .ge 76, 3) := by decide +kernel
theorem dX5_keyOfWord_7 : decode cX5_keyOfWord 7 = .ok (.aload_n 0, 1) := by decide +kernel
theorem dX5_keyOfWord_8 : decode cX5_keyOfWord 8 = .ok (.getfield 22, 3) := by decide +kernel
theorem dX5_keyOfWord_11 : decode cX5_keyOfWord 11 = .ok (.aload_n 0, 1) := by decide +kernel
theorem dX5_keyOfWord_12 : decode cX5_keyOfWord 12 = .ok (.getfield 19, 3) := by decide +kernel
theorem dX5_keyOfWord_15 : decode cX5_keyOfWord 15 = .ok (.isub, 1) := by decide +kernel
theorem dX5_keyOfWord_16 : decode cX5_keyOfWord 16 = .ok (.iconst 4, 1) := by decide +kernel
theorem dX5_keyOfWord_17 : decode cX5_keyOfWord 17 = .ok (.if_icmp .ne 63, 3) := by decide +kernel
theorem dX5_keyOfWord_20 : decode cX5_keyOfWord 20 = .ok (.iconst 0, 1) := by decide +kernel
theorem dX5_keyOfWord_21 : decode cX5_keyOfWord 21 = .ok (.istore_n 2, 1) := by decide +kernel
theorem dX5_keyOfWord_22 : decode cX5_keyOfWord 22 = .ok (.iconst 0, 1) := by decide +kernel
theorem dX5_keyOfWord_23 : decode cX5_keyOfWord 23 = .ok (.istore_n 3, 1) := by decide +kernel
theorem dX5_keyOfWord_24 : decode cX5_keyOfWord 24 = .ok (.iload_n 3, 1) := by decide +kernel
theorem dX5_keyOfWord_25 : decode cX5_keyOfWord 25 = .ok (.iconst 4, 1) := by decide +kernel
theorem dX5_keyOfWord_26 : decode cX5_keyOfWord 26 = .ok (.if_icmp .ge 41, 3) := by decide +kernel
theorem dX5_keyOfWord_29 : decode cX5_keyOfWord 29 = .ok (.iload_n 2, 1) := by decide +kernel
theorem dX5_keyOfWord_30 : decode cX5_keyOfWord 30 = .ok (.aload_n 0, 1) := by decide +kernel
theorem dX5_keyOfWord_31 : decode cX5_keyOfWord 31 = .ok (.getfield 9, 3) := by decide +kernel
theorem dX5_keyOfWord_34 : decode cX5_keyOfWord 34 = .ok (.aload_n 0, 1) := by decide +kernel
theorem dX5_keyOfWord_35 : decode cX5_keyOfWord 35 = .ok (.getfield 19, 3) := by decide +kernel
theorem dX5_keyOfWord_38 : decode cX5_keyOfWord 38 = .ok (.iload_n 3, 1) := by decide +kernel
theorem dX5_keyOfWord_39 : decode cX5_keyOfWord 39 = .ok (.iadd, 1) := by decide +kernel
theorem dX5_keyOfWord_40 : decode cX5_keyOfWord 40 = .ok (.baload, 1) := by decide +kernel
theorem dX5_keyOfWord_41 : decode cX5_keyOfWord 41 = .ok (.ldc 64, 2) := by decide +kernel
theorem dX5_keyOfWord_43 : decode cX5_keyOfWord 43 = .ok (.iconst 4, 1) := by decide +kernel
theorem dX5_keyOfWord_44 : decode cX5_keyOfWord 44 = .ok (.iload_n 1, 1) := by decide +kernel
theorem dX5_keyOfWord_45 : decode cX5_keyOfWord 45 = .ok (.imul, 1) := by decide +kernel
theorem dX5_keyOfWord_46 : decode cX5_keyOfWord 46 = .ok (.iload_n 3, 1) := by decide +kernel
theorem dX5_keyOfWord_47 : decode cX5_keyOfWord 47 = .ok (.iadd, 1) := by decide +kernel
theorem dX5_keyOfWord_48 : decode cX5_keyOfWord 48 = .ok (.invokevirtual 66, 3) := by decide +kernel
theorem dX5_keyOfWord_51 : decode cX5_keyOfWord 51 = .ok (.if_icmp .ne 7, 3) := by decide +kernel
theorem dX5_keyOfWord_54 : decode cX5_keyOfWord 54 = .ok (.iconst 1, 1) := by decide +kernel
theorem dX5_keyOfWord_55 : decode cX5_keyOfWord 55 = .ok (.goto 4, 3) := by decide +kernel
theorem dX5_keyOfWord_58 : decode cX5_keyOfWord 58 = .ok (.iconst 0, 1) := by decide +kernel
theorem dX5_keyOfWord_59 : decode cX5_keyOfWord 59 = .ok (.iadd, 1) := by decide +kernel
theorem dX5_keyOfWord_60 : decode cX5_keyOfWord 60 = .ok (.istore_n 2, 1) := by decide +kernel
theorem dX5_keyOfWord_61 : decode cX5_keyOfWord 61 = .ok (.iinc 3 1, 3) := by decide +kernel
theorem dX5_keyOfWord_64 : decode cX5_keyOfWord 64 = .ok (.goto (-40), 3) := by decide +kernel
theorem dX5_keyOfWord_67 : decode cX5_keyOfWord 67 = .ok (.iload_n 2, 1) := by decide +kernel
theorem dX5_keyOfWord_68 : decode cX5_keyOfWord 68 = .ok (.iconst 4, 1) := by decide +kernel
theorem dX5_keyOfWord_69 : decode cX5_keyOfWord 69 = .ok (.if_icmp .ne 5, 3) := by decide +kernel
theorem dX5_keyOfWord_72 : decode cX5_keyOfWord 72 = .ok (.iload_n 1, 1) := by decide +kernel
theorem dX5_keyOfWord_73 : decode cX5_keyOfWord 73 = .ok (.ireturn, 1) := by decide +kernel
theorem dX5_keyOfWord_74 : decode cX5_keyOfWord 74 = .ok (.iinc 1 1, 3) := by decide +kernel
theorem dX5_keyOfWord_77 : decode cX5_keyOfWord 77 = .ok (.goto (-75), 3) := by decide +kernel
theorem dX5_keyOfWord_80 : decode cX5_keyOfWord 80 = .ok (.iconst (-1), 1) := by decide +kernel
theorem dX5_keyOfWord_81 : decode cX5_keyOfWord 81 = .ok (.ireturn, 1) := by decide +kernel
theorem dX5_chain_0 : decode cX5_chain 0 = .ok (.iload_n 1, 1) := by decide +kernel
theorem dX5_chain_1 : decode cX5_chain 1 = .ok (.iconst 5, 1) := by decide +kernel
theorem dX5_chain_2 : decode cX5_chain 2 = .ok (.if_icmp .lt 10, 3) := by decide +kernel
theorem dX5_chain_5 : decode cX5_chain 5 = .ok (.aload_n 0, 1) := by decide +kernel
theorem dX5_chain_6 : decode cX5_chain 6 = .ok (.iload_n 2, 1) := by decide +kernel
theorem dX5_chain_7 : decode cX5_chain 7 = .ok (.iload_n 3, 1) := by decide +kernel
theorem dX5_chain_8 : decode cX5_chain 8 = .ok (.invokevirtual 72, 3) := by decide +kernel
theorem dX5_chain_11 : decode cX5_chain 11 = .ok (.ireturn, 1) := by decide +kernel
theorem dX5_chain_12 : decode cX5_chain 12 = .ok (.aload_n 0, 1) := by decide +kernel
theorem dX5_chain_13 : decode cX5_chain 13 = .ok (.iload_n 1, 1) := by decide +kernel
theorem dX5_chain_14 : decode cX5_chain 14 = .ok (.iconst 1, 1) := by decide +kernel
theorem dX5_chain_15 : decode cX5_chain 15 = .ok (.iadd, 1) := by decide +kernel
theorem dX5_chain_16 : decode cX5_chain 16 = .ok (.iload_n 2, 1) := by decide +kernel
theorem dX5_chain_17 : decode cX5_chain 17 = .ok (.iload_n 3, 1) := by decide +kernel
theorem dX5_chain_18 : decode cX5_chain 18 = .ok (.invokevirtual 49, 3) := by decide +kernel
theorem dX5_chain_21 : decode cX5_chain 21 = .ok (.istore 4, 2) := by decide +kernel
theorem dX5_chain_23 : decode cX5_chain 23 = .ok (.iload_n 1, 1) := by decide +kernel
theorem dX5_chain_24 : decode cX5_chain 24 = .ok (.iconst 2, 1) := by decide +kernel
theorem dX5_chain_25 : decode cX5_chain 25 = .ok (.if_icmp .ne 7, 3) := by decide +kernel
theorem dX5_chain_28 : decode cX5_chain 28 = .ok (.iconst 1, 1) := by decide +kernel
theorem dX5_chain_29 : decode cX5_chain 29 = .ok (.goto 5, 3) := by decide +kernel
theorem dX5_chain_32 : decode cX5_chain 32 = .ok (.bipush 96, 2) := by decide +kernel
theorem dX5_chain_34 : decode cX5_chain 34 = .ok (.istore 5, 2) := by decide +kernel
theorem dX5_chain_36 : decode cX5_chain 36 = .ok (.iconst 0, 1) := by decide +kernel
theorem dX5_chain_37 : decode cX5_chain 37 = .ok (.istore 6, 2) := by decide +kernel
theorem dX5_chain_39 : decode cX5_chain 39 = .ok (.iload 6, 2) := by decide +kernel
theorem dX5_chain_41 : decode cX5_chain 41 = .ok (.iload 5, 2) := by decide +kernel
theorem dX5_chain_43 : decode cX5_chain 43 = .ok (.if_icmp .ge 70, 3) := by decide +kernel
theorem dX5_chain_46 : decode cX5_chain 46 = .ok (.iload 4, 2) := by decide +kernel
theorem dX5_chain_48 : decode cX5_chain 48 = .ok (.ifCond .lt 65, 3) := by decide +kernel
theorem dX5_chain_51 : decode cX5_chain 51 = .ok (.aload_n 0, 1) := by decide +kernel
theorem dX5_chain_52 : decode cX5_chain 52 = .ok (.getfield 25, 3) := by decide +kernel
theorem dX5_chain_55 : decode cX5_chain 55 = .ok (.invokestatic 76, 3) := by decide +kernel
theorem dX5_chain_58 : decode cX5_chain 58 = .ok (.iload_n 1, 1) := by decide +kernel
theorem dX5_chain_59 : decode cX5_chain 59 = .ok (.if_icmp .ne 54, 3) := by decide +kernel
theorem dX5_chain_62 : decode cX5_chain 62 = .ok (.aload_n 0, 1) := by decide +kernel
theorem dX5_chain_63 : decode cX5_chain 63 = .ok (.getfield 25, 3) := by decide +kernel
theorem dX5_chain_66 : decode cX5_chain 66 = .ok (.istore 7, 2) := by decide +kernel
theorem dX5_chain_68 : decode cX5_chain 68 = .ok (.aload_n 0, 1) := by decide +kernel
theorem dX5_chain_69 : decode cX5_chain 69 = .ok (.invokevirtual 38, 3) := by decide +kernel
theorem dX5_chain_72 : decode cX5_chain 72 = .ok (.aload_n 0, 1) := by decide +kernel
theorem dX5_chain_73 : decode cX5_chain 73 = .ok (.iload_n 1, 1) := by decide +kernel
theorem dX5_chain_74 : decode cX5_chain 74 = .ok (.iconst 1, 1) := by decide +kernel
theorem dX5_chain_75 : decode cX5_chain 75 = .ok (.iadd, 1) := by decide +kernel
theorem dX5_chain_76 : decode cX5_chain 76 = .ok (.iload_n 2, 1) := by decide +kernel
theorem dX5_chain_77 : decode cX5_chain 77 = .ok (.iload_n 3, 1) := by decide +kernel
theorem dX5_chain_78 : decode cX5_chain 78 = .ok (.invokevirtual 49, 3) := by decide +kernel
theorem dX5_chain_81 : decode cX5_chain 81 = .ok (.istore 8, 2) := by decide +kernel
theorem dX5_chain_83 : decode cX5_chain 83 = .ok (.iload 8, 2) := by decide +kernel
theorem dX5_chain_85 : decode cX5_chain 85 = .ok (.ifCond .ge 7, 3) := by decide +kernel
theorem dX5_chain_88 : decode cX5_chain 88 = .ok (.iconst (-1), 1) := by decide +kernel
theorem dX5_chain_89 : decode cX5_chain 89 = .ok (.goto 16, 3) := by decide +kernel
theorem dX5_chain_92 : decode cX5_chain 92 = .ok (.aload_n 0, 1) := by decide +kernel
theorem dX5_chain_93 : decode cX5_chain 93 = .ok (.getfield 34, 3) := by decide +kernel
theorem dX5_chain_96 : decode cX5_chain 96 = .ok (.iload 7, 2) := by decide +kernel
theorem dX5_chain_98 : decode cX5_chain 98 = .ok (.iload 4, 2) := by decide +kernel
theorem dX5_chain_100 : decode cX5_chain 100 = .ok (.iload 8, 2) := by decide +kernel
theorem dX5_chain_102 : decode cX5_chain 102 = .ok (.invokevirtual 79, 3) := by decide +kernel
theorem dX5_chain_105 : decode cX5_chain 105 = .ok (.istore 4, 2) := by decide +kernel
theorem dX5_chain_107 : decode cX5_chain 107 = .ok (.iinc 6 1, 3) := by decide +kernel
theorem dX5_chain_110 : decode cX5_chain 110 = .ok (.goto (-71), 3) := by decide +kernel
theorem dX5_chain_113 : decode cX5_chain 113 = .ok (.iload 4, 2) := by decide +kernel
theorem dX5_chain_115 : decode cX5_chain 115 = .ok (.ireturn, 1) := by decide +kernel
theorem dX5_levelOf_0 : decode cX5_levelOf 0 = .ok (.iload_n 0, 1) := by decide +kernel
theorem dX5_levelOf_1 : decode cX5_levelOf 1 = .ok (.lookupswitch 93 #[(38, 85), (42, 91), (43, 89), (45, 89), (47, 91), (60, 87), (61, 87), (62, 87), (124, 83)], 83) := by decide +kernel
theorem dX5_levelOf_84 : decode cX5_levelOf 84 = .ok (.iconst 0, 1) := by decide +kernel
theorem dX5_levelOf_85 : decode cX5_levelOf 85 = .ok (.ireturn, 1) := by decide +kernel
theorem dX5_levelOf_86 : decode cX5_levelOf 86 = .ok (.iconst 1, 1) := by decide +kernel
theorem dX5_levelOf_87 : decode cX5_levelOf 87 = .ok (.ireturn, 1) := by decide +kernel
theorem dX5_levelOf_88 : decode cX5_levelOf 88 = .ok (.iconst 2, 1) := by decide +kernel
theorem dX5_levelOf_89 : decode cX5_levelOf 89 = .ok (.ireturn, 1) := by decide +kernel
theorem dX5_levelOf_90 : decode cX5_levelOf 90 = .ok (.iconst 3, 1) := by decide +kernel
theorem dX5_levelOf_91 : decode cX5_levelOf 91 = .ok (.ireturn, 1) := by decide +kernel
theorem dX5_levelOf_92 : decode cX5_levelOf 92 = .ok (.iconst 4, 1) := by decide +kernel
theorem dX5_levelOf_93 : decode cX5_levelOf 93 = .ok (.ireturn, 1) := by decide +kernel
theorem dX5_levelOf_94 : decode cX5_levelOf 94 = .ok (.iconst (-1), 1) := by decide +kernel
theorem dX5_levelOf_95 : decode cX5_levelOf 95 = .ok (.ireturn, 1) := by decide +kernel
theorem dX5_piece_0 : decode cX5_piece 0 = .ok (.aload_n 0, 1) := by decide +kernel
theorem dX5_piece_1 : decode cX5_piece 1 = .ok (.getfield 25, 3) := by decide +kernel
theorem dX5_piece_4 : decode cX5_piece 4 = .ok (.bipush (-3), 2) := by decide +kernel
theorem dX5_piece_6 : decode cX5_piece 6 = .ok (.if_icmp .ne 8, 3) := by decide +kernel
theorem dX5_piece_9 : decode cX5_piece 9 = .ok (.aload_n 0, 1) := by decide +kernel
theorem dX5_piece_10 : decode cX5_piece 10 = .ok (.invokevirtual 82, 3) := by decide +kernel
theorem dX5_piece_13 : decode cX5_piece 13 = .ok (.ireturn, 1) := by decide +kernel
theorem dX5_piece_14 : decode cX5_piece 14 = .ok (.aload_n 0, 1) := by decide +kernel
theorem dX5_piece_15 : decode cX5_piece 15 = .ok (.getfield 25, 3) := by decide +kernel
theorem dX5_piece_18 : decode cX5_piece 18 = .ok (.bipush (-2), 2) := by decide +kernel
theorem dX5_piece_20 : decode cX5_piece 20 = .ok (.if_icmp .ne 8, 3) := by decide +kernel
theorem dX5_piece_23 : decode cX5_piece 23 = .ok (.aload_n 0, 1) := by decide +kernel
theorem dX5_piece_24 : decode cX5_piece 24 = .ok (.invokevirtual 85, 3) := by decide +kernel
theorem dX5_piece_27 : decode cX5_piece 27 = .ok (.ireturn, 1) := by decide +kernel
theorem dX5_piece_28 : decode cX5_piece 28 = .ok (.aload_n 0, 1) := by decide +kernel
theorem dX5_piece_29 : decode cX5_piece 29 = .ok (.getfield 25, 3) := by decide +kernel
theorem dX5_piece_32 : decode cX5_piece 32 = .ok (.bipush 33, 2) := by decide +kernel
theorem dX5_piece_34 : decode cX5_piece 34 = .ok (.if_icmp .ne 42, 3) := by decide +kernel
theorem dX5_piece_37 : decode cX5_piece 37 = .ok (.iload_n 2, 1) := by decide +kernel
theorem dX5_piece_38 : decode cX5_piece 38 = .ok (.bipush 8, 2) := by decide +kernel
theorem dX5_piece_40 : decode cX5_piece 40 = .ok (.if_icmp .ge 36, 3) := by decide +kernel
theorem dX5_piece_43 : decode cX5_piece 43 = .ok (.aload_n 0, 1) := by decide +kernel
theorem dX5_piece_44 : decode cX5_piece 44 = .ok (.invokevirtual 38, 3) := by decide +kernel
theorem dX5_piece_47 : decode cX5_piece 47 = .ok (.aload_n 0, 1) := by decide +kernel
theorem dX5_piece_48 : decode cX5_piece 48 = .ok (.iload_n 1, 1) := by decide +kernel
theorem dX5_piece_49 : decode cX5_piece 49 = .ok (.iload_n 2, 1) := by decide +kernel
theorem dX5_piece_50 : decode cX5_piece 50 = .ok (.iconst 1, 1) := by decide +kernel
theorem dX5_piece_51 : decode cX5_piece 51 = .ok (.iadd, 1) := by decide +kernel
theorem dX5_piece_52 : decode cX5_piece 52 = .ok (.invokevirtual 72, 3) := by decide +kernel
theorem dX5_piece_55 : decode cX5_piece 55 = .ok (.istore_n 3, 1) := by decide +kernel
theorem dX5_piece_56 : decode cX5_piece 56 = .ok (.iload_n 3, 1) := by decide +kernel
theorem dX5_piece_57 : decode cX5_piece 57 = .ok (.ifCond .ge 7, 3) := by decide +kernel
theorem dX5_piece_60 : decode cX5_piece 60 = .ok (.iconst (-1), 1) := by decide +kernel
theorem dX5_piece_61 : decode cX5_piece 61 = .ok (.goto 14, 3) := by decide +kernel
theorem dX5_piece_64 : decode cX5_piece 64 = .ok (.aload_n 0, 1) := by decide +kernel
theorem dX5_piece_65 : decode cX5_piece 65 = .ok (.getfield 34, 3) := by decide +kernel
theorem dX5_piece_68 : decode cX5_piece 68 = .ok (.bipush 33, 2) := by decide +kernel
theorem dX5_piece_70 : decode cX5_piece 70 = .ok (.iload_n 3, 1) := by decide +kernel
theorem dX5_piece_71 : decode cX5_piece 71 = .ok (.iload_n 3, 1) := by decide +kernel
theorem dX5_piece_72 : decode cX5_piece 72 = .ok (.invokevirtual 79, 3) := by decide +kernel
theorem dX5_piece_75 : decode cX5_piece 75 = .ok (.ireturn, 1) := by decide +kernel
theorem dX5_piece_76 : decode cX5_piece 76 = .ok (.aload_n 0, 1) := by decide +kernel
theorem dX5_piece_77 : decode cX5_piece 77 = .ok (.getfield 25, 3) := by decide +kernel
theorem dX5_piece_80 : decode cX5_piece 80 = .ok (.bipush 40, 2) := by decide +kernel
theorem dX5_piece_82 : decode cX5_piece 82 = .ok (.if_icmp .ne 18, 3) := by decide +kernel
theorem dX5_piece_85 : decode cX5_piece 85 = .ok (.iload_n 1, 1) := by decide +kernel
theorem dX5_piece_86 : decode cX5_piece 86 = .ok (.bipush 8, 2) := by decide +kernel
theorem dX5_piece_88 : decode cX5_piece 88 = .ok (.if_icmp .ge 12, 3) := by decide +kernel
theorem dX5_piece_91 : decode cX5_piece 91 = .ok (.aload_n 0, 1) := by decide +kernel
theorem dX5_piece_92 : decode cX5_piece 92 = .ok (.iload_n 1, 1) := by decide +kernel
theorem dX5_piece_93 : decode cX5_piece 93 = .ok (.iload_n 2, 1) := by decide +kernel
theorem dX5_piece_94 : decode cX5_piece 94 = .ok (.invokevirtual 88, 3) := by decide +kernel
theorem dX5_piece_97 : decode cX5_piece 97 = .ok (.goto 7, 3) := by decide +kernel
theorem dX5_piece_100 : decode cX5_piece 100 = .ok (.aload_n 0, 1) := by decide +kernel
theorem dX5_piece_101 : decode cX5_piece 101 = .ok (.invokevirtual 53, 3) := by decide +kernel
theorem dX5_piece_104 : decode cX5_piece 104 = .ok (.ireturn, 1) := by decide +kernel
theorem dX5_bracket_0 : decode cX5_bracket 0 = .ok (.aload_n 0, 1) := by decide +kernel
theorem dX5_bracket_1 : decode cX5_bracket 1 = .ok (.invokevirtual 38, 3) := by decide +kernel
theorem dX5_bracket_4 : decode cX5_bracket 4 = .ok (.aload_n 0, 1) := by decide +kernel
theorem dX5_bracket_5 : decode cX5_bracket 5 = .ok (.iconst 0, 1) := by decide +kernel
theorem dX5_bracket_6 : decode cX5_bracket 6 = .ok (.iload_n 1, 1) := by decide +kernel
theorem dX5_bracket_7 : decode cX5_bracket 7 = .ok (.iconst 1, 1) := by decide +kernel
theorem dX5_bracket_8 : decode cX5_bracket 8 = .ok (.iadd, 1) := by decide +kernel
theorem dX5_bracket_9 : decode cX5_bracket 9 = .ok (.iload_n 2, 1) := by decide +kernel
theorem dX5_bracket_10 : decode cX5_bracket 10 = .ok (.invokevirtual 49, 3) := by decide +kernel
theorem dX5_bracket_13 : decode cX5_bracket 13 = .ok (.istore_n 3, 1) := by decide +kernel
theorem dX5_bracket_14 : decode cX5_bracket 14 = .ok (.iload_n 3, 1) := by decide +kernel
theorem dX5_bracket_15 : decode cX5_bracket 15 = .ok (.ifCond .ge 5, 3) := by decide +kernel
theorem dX5_bracket_18 : decode cX5_bracket 18 = .ok (.iconst (-1), 1) := by decide +kernel
theorem dX5_bracket_19 : decode cX5_bracket 19 = .ok (.ireturn, 1) := by decide +kernel
theorem dX5_bracket_20 : decode cX5_bracket 20 = .ok (.aload_n 0, 1) := by decide +kernel
theorem dX5_bracket_21 : decode cX5_bracket 21 = .ok (.getfield 25, 3) := by decide +kernel
theorem dX5_bracket_24 : decode cX5_bracket 24 = .ok (.bipush 41, 2) := by decide +kernel
theorem dX5_bracket_26 : decode cX5_bracket 26 = .ok (.if_icmp .eq 8, 3) := by decide +kernel
theorem dX5_bracket_29 : decode cX5_bracket 29 = .ok (.aload_n 0, 1) := by decide +kernel
theorem dX5_bracket_30 : decode cX5_bracket 30 = .ok (.invokevirtual 53, 3) := by decide +kernel
theorem dX5_bracket_33 : decode cX5_bracket 33 = .ok (.ireturn, 1) := by decide +kernel
theorem dX5_bracket_34 : decode cX5_bracket 34 = .ok (.aload_n 0, 1) := by decide +kernel
theorem dX5_bracket_35 : decode cX5_bracket 35 = .ok (.invokevirtual 38, 3) := by decide +kernel
theorem dX5_bracket_38 : decode cX5_bracket 38 = .ok (.iload_n 3, 1) := by decide +kernel
theorem dX5_bracket_39 : decode cX5_bracket 39 = .ok (.ireturn, 1) := by decide +kernel
theorem dX5_number_0 : decode cX5_number 0 = .ok (.aload_n 0, 1) := by decide +kernel
theorem dX5_number_1 : decode cX5_number 1 = .ok (.getfield 22, 3) := by decide +kernel
theorem dX5_number_4 : decode cX5_number 4 = .ok (.aload_n 0, 1) := by decide +kernel
theorem dX5_number_5 : decode cX5_number 5 = .ok (.getfield 19, 3) := by decide +kernel
theorem dX5_number_8 : decode cX5_number 8 = .ok (.isub, 1) := by decide +kernel
theorem dX5_number_9 : decode cX5_number 9 = .ok (.iconst 4, 1) := by decide +kernel
theorem dX5_number_10 : decode cX5_number 10 = .ok (.if_icmp .le 8, 3) := by decide +kernel
theorem dX5_number_13 : decode cX5_number 13 = .ok (.aload_n 0, 1) := by decide +kernel
theorem dX5_number_14 : decode cX5_number 14 = .ok (.invokevirtual 53, 3) := by decide +kernel
theorem dX5_number_17 : decode cX5_number 17 = .ok (.ireturn, 1) := by decide +kernel
theorem dX5_number_18 : decode cX5_number 18 = .ok (.iconst 0, 1) := by decide +kernel
theorem dX5_number_19 : decode cX5_number 19 = .ok (.istore_n 1, 1) := by decide +kernel
theorem dX5_number_20 : decode cX5_number 20 = .ok (.aload_n 0, 1) := by decide +kernel
theorem dX5_number_21 : decode cX5_number 21 = .ok (.getfield 19, 3) := by decide +kernel
theorem dX5_number_24 : decode cX5_number 24 = .ok (.istore_n 2, 1) := by decide +kernel
theorem dX5_number_25 : decode cX5_number 25 = .ok (.iload_n 2, 1) := by decide +kernel
theorem dX5_number_26 : decode cX5_number 26 = .ok (.aload_n 0, 1) := by decide +kernel
theorem dX5_number_27 : decode cX5_number 27 = .ok (.getfield 22, 3) := by decide +kernel
theorem dX5_number_30 : decode cX5_number 30 = .ok (.if_icmp .ge 24, 3) := by decide +kernel
theorem dX5_number_33 : decode cX5_number 33 = .ok (.bipush 10, 2) := by decide +kernel
theorem dX5_number_35 : decode cX5_number 35 = .ok (.iload_n 1, 1) := by decide +kernel
theorem dX5_number_36 : decode cX5_number 36 = .ok (.imul, 1) := by decide +kernel
theorem dX5_number_37 : decode cX5_number 37 = .ok (.aload_n 0, 1) := by decide +kernel
theorem dX5_number_38 : decode cX5_number 38 = .ok (.getfield 9, 3) := by decide +kernel
theorem dX5_number_41 : decode cX5_number 41 = .ok (.iload_n 2, 1) := by decide +kernel
theorem dX5_number_42 : decode cX5_number 42 = .ok (.baload, 1) := by decide +kernel
theorem dX5_number_43 : decode cX5_number 43 = .ok (.iadd, 1) := by decide +kernel
theorem dX5_number_44 : decode cX5_number 44 = .ok (.bipush 48, 2) := by decide +kernel
theorem dX5_number_46 : decode cX5_number 46 = .ok (.isub, 1) := by decide +kernel
theorem dX5_number_47 : decode cX5_number 47 = .ok (.istore_n 1, 1) := by decide +kernel
theorem dX5_number_48 : decode cX5_number 48 = .ok (.iinc 2 1, 3) := by decide +kernel
theorem dX5_number_51 : decode cX5_number 51 = .ok (.goto (-26), 3) := by decide +kernel
theorem dX5_number_54 : decode cX5_number 54 = .ok (.aload_n 0, 1) := by decide +kernel
theorem dX5_number_55 : decode cX5_number 55 = .ok (.invokevirtual 38, 3) := by decide +kernel
theorem dX5_number_58 : decode cX5_number 58 = .ok (.aload_n 0, 1) := by decide +kernel
theorem dX5_number_59 : decode cX5_number 59 = .ok (.getfield 34, 3) := by decide +kernel
theorem dX5_number_62 : decode cX5_number 62 = .ok (.iconst 0, 1) := by decide +kernel
theorem dX5_number_63 : decode cX5_number 63 = .ok (.iload_n 1, 1) := by decide +kernel
theorem dX5_number_64 : decode cX5_number 64 = .ok (.invokevirtual 91, 3) := by decide +kernel
theorem dX5_number_67 : decode cX5_number 67 = .ok (.ireturn, 1) := by decide +kernel
theorem dX5_name_0 : decode cX5_name 0 = .ok (.aload_n 0, 1) := by decide +kernel
theorem dX5_name_1 : decode cX5_name 1 = .ok (.getfield 9, 3) := by decide +kernel
theorem dX5_name_4 : decode cX5_name 4 = .ok (.aload_n 0, 1) := by decide +kernel
theorem dX5_name_5 : decode cX5_name 5 = .ok (.getfield 19, 3) := by decide +kernel
theorem dX5_name_8 : decode cX5_name 8 = .ok (.baload, 1) := by decide +kernel
theorem dX5_name_9 : decode cX5_name 9 = .ok (.istore_n 1, 1) := by decide +kernel
theorem dX5_name_10 : decode cX5_name 10 = .ok (.iconst 0, 1) := by decide +kernel
theorem dX5_name_11 : decode cX5_name 11 = .ok (.istore_n 2, 1) := by decide +kernel
theorem dX5_name_12 : decode cX5_name 12 = .ok (.iload_n 2, 1) := by decide +kernel
theorem dX5_name_13 : decode cX5_name 13 = .ok (.iconst 3, 1) := by decide +kernel
theorem dX5_name_14 : decode cX5_name 14 = .ok (.if_icmp .ge 56, 3) := by decide +kernel
theorem dX5_name_17 : decode cX5_name 17 = .ok (.aload_n 0, 1) := by decide +kernel
theorem dX5_name_18 : decode cX5_name 18 = .ok (.getfield 22, 3) := by decide +kernel
theorem dX5_name_21 : decode cX5_name 21 = .ok (.aload_n 0, 1) := by decide +kernel
theorem dX5_name_22 : decode cX5_name 22 = .ok (.getfield 19, 3) := by decide +kernel
theorem dX5_name_25 : decode cX5_name 25 = .ok (.isub, 1) := by decide +kernel
theorem dX5_name_26 : decode cX5_name 26 = .ok (.iconst 1, 1) := by decide +kernel
theorem dX5_name_27 : decode cX5_name 27 = .ok (.if_icmp .ne 43, 3) := by decide +kernel
theorem dX5_name_30 : decode cX5_name 30 = .ok (.ldc 94, 2) := by decide +kernel
theorem dX5_name_32 : decode cX5_name 32 = .ok (.iconst 3, 1) := by decide +kernel
theorem dX5_name_33 : decode cX5_name 33 = .ok (.aload_n 0, 1) := by decide +kernel
theorem dX5_name_34 : decode cX5_name 34 = .ok (.getfield 34, 3) := by decide +kernel
theorem dX5_name_37 : decode cX5_name 37 = .ok (.getfield 96, 3) := by decide +kernel
theorem dX5_name_40 : decode cX5_name 40 = .ok (.imul, 1) := by decide +kernel
theorem dX5_name_41 : decode cX5_name 41 = .ok (.iload_n 2, 1) := by decide +kernel
theorem dX5_name_42 : decode cX5_name 42 = .ok (.iadd, 1) := by decide +kernel
theorem dX5_name_43 : decode cX5_name 43 = .ok (.invokevirtual 66, 3) := by decide +kernel
theorem dX5_name_46 : decode cX5_name 46 = .ok (.iload_n 1, 1) := by decide +kernel
theorem dX5_name_47 : decode cX5_name 47 = .ok (.if_icmp .ne 17, 3) := by decide +kernel
theorem dX5_name_50 : decode cX5_name 50 = .ok (.aload_n 0, 1) := by decide +kernel
theorem dX5_name_51 : decode cX5_name 51 = .ok (.invokevirtual 38, 3) := by decide +kernel
theorem dX5_name_54 : decode cX5_name 54 = .ok (.aload_n 0, 1) := by decide +kernel
theorem dX5_name_55 : decode cX5_name 55 = .ok (.getfield 34, 3) := by decide +kernel
theorem dX5_name_58 : decode cX5_name 58 = .ok (.iconst 1, 1) := by decide +kernel
theorem dX5_name_59 : decode cX5_name 59 = .ok (.iload_n 2, 1) := by decide +kernel
theorem dX5_name_60 : decode cX5_name 60 = .ok (.invokevirtual 91, 3) := by decide +kernel
theorem dX5_name_63 : decode cX5_name 63 = .ok (.ireturn, 1) := by decide +kernel
theorem dX5_name_64 : decode cX5_name 64 = .ok (.iinc 2 1, 3) := by decide +kernel
theorem dX5_name_67 : decode cX5_name 67 = .ok (.goto (-55), 3) := by decide +kernel
theorem dX5_name_70 : decode cX5_name 70 = .ok (.aload_n 0, 1) := by decide +kernel
theorem dX5_name_71 : decode cX5_name 71 = .ok (.invokevirtual 53, 3) := by decide +kernel
theorem dX5_name_74 : decode cX5_name 74 = .ok (.ireturn, 1) := by decide +kernel
theorem dX6_init_0 : decode cX6_init 0 = .ok (.aload_n 0, 1) := by decide +kernel
theorem dX6_init_1 : decode cX6_init 1 = .ok (.invokespecial 1, 3) := by decide +kernel
theorem dX6_init_4 : decode cX6_init 4 = .ok (.aload_n 0, 1) := by decide +kernel
theorem dX6_init_5 : decode cX6_init 5 = .ok (.iconst 0, 1) := by decide +kernel
theorem dX6_init_6 : decode cX6_init 6 = .ok (.putfield 7, 3) := by decide +kernel
theorem dX6_init_9 : decode cX6_init 9 = .ok (.aload_n 0, 1) := by decide +kernel
theorem dX6_init_10 : decode cX6_init 10 = .ok (.iconst 4, 1) := by decide +kernel
theorem dX6_init_11 : decode cX6_init 11 = .ok (.anewarray 13, 3) := by decide +kernel
theorem dX6_init_14 : decode cX6_init 14 = .ok (.putfield 15, 3) := by decide +kernel
theorem dX6_init_17 : decode cX6_init 17 = .ok (.aload_n 0, 1) := by decide +kernel
theorem dX6_init_18 : decode cX6_init 18 = .ok (.iconst 5, 1) := by decide +kernel
theorem dX6_init_19 : decode cX6_init 19 = .ok (.anewarray 19, 3) := by decide +kernel
theorem dX6_init_22 : decode cX6_init 22 = .ok (.putfield 21, 3) := by decide +kernel
theorem dX6_init_25 : decode cX6_init 25 = .ok (.aload_n 0, 1) := by decide +kernel
theorem dX6_init_26 : decode cX6_init 26 = .ok (.bipush 60, 2) := by decide +kernel
theorem dX6_init_28 : decode cX6_init 28 = .ok (.newarray .int, 2) := by decide +kernel
theorem dX6_init_30 : decode cX6_init 30 = .ok (.putfield 25, 3) := by decide +kernel
theorem dX6_init_33 : decode cX6_init 33 = .ok (.aload_n 0, 1) := by decide +kernel
theorem dX6_init_34 : decode cX6_init 34 = .ok (.iconst 0, 1) := by decide +kernel
theorem dX6_init_35 : decode cX6_init 35 = .ok (.putfield 29, 3) := by decide +kernel
theorem dX6_init_38 : decode cX6_init 38 = .ok (.aload_n 0, 1) := by decide +kernel
theorem dX6_init_39 : decode cX6_init 39 = .ok (.new 33, 3) := by decide +kernel
theorem dX6_init_42 : decode cX6_init 42 = .ok (.dup, 1) := by decide +kernel
theorem dX6_init_43 : decode cX6_init 43 = .ok (.invokespecial 35, 3) := by decide +kernel
theorem dX6_init_46 : decode cX6_init 46 = .ok (.putfield 36, 3) := by decide +kernel
theorem dX6_init_49 : decode cX6_init 49 = .ok (.bipush 14, 2) := by decide +kernel
theorem dX6_init_51 : decode cX6_init 51 = .ok (.anewarray 40, 3) := by decide +kernel
theorem dX6_init_54 : decode cX6_init 54 = .ok (.astore_n 1, 1) := by decide +kernel
theorem dX6_init_55 : decode cX6_init 55 = .ok (.iconst 0, 1) := by decide +kernel
theorem dX6_init_56 : decode cX6_init 56 = .ok (.istore_n 2, 1) := by decide +kernel
theorem dX6_init_57 : decode cX6_init 57 = .ok (.iload_n 2, 1) := by decide +kernel
theorem dX6_init_58 : decode cX6_init 58 = .ok (.bipush 14, 2) := by decide +kernel
theorem dX6_init_60 : decode cX6_init 60 = .ok (.if_icmp .ge 19, 3) := by decide +kernel
theorem dX6_init_63 : decode cX6_init 63 = .ok (.aload_n 1, 1) := by decide +kernel
theorem dX6_init_64 : decode cX6_init 64 = .ok (.iload_n 2, 1) := by decide +kernel
theorem dX6_init_65 : decode cX6_init 65 = .ok (.new 40, 3) := by decide +kernel
theorem dX6_init_68 : decode cX6_init 68 = .ok (.dup, 1) := by decide +kernel
theorem dX6_init_69 : decode cX6_init 69 = .ok (.invokespecial 42, 3) := by decide +kernel
theorem dX6_init_72 : decode cX6_init 72 = .ok (.aastore, 1) := by decide +kernel
theorem dX6_init_73 : decode cX6_init 73 = .ok (.iinc 2 1, 3) := by decide +kernel
theorem dX6_init_76 : decode cX6_init 76 = .ok (.goto (-19), 3) := by decide +kernel
theorem dX6_init_79 : decode cX6_init 79 = .ok (.aload_n 0, 1) := by decide +kernel
theorem dX6_init_80 : decode cX6_init 80 = .ok (.aload_n 1, 1) := by decide +kernel
theorem dX6_init_81 : decode cX6_init 81 = .ok (.putfield 43, 3) := by decide +kernel
theorem dX6_init_84 : decode cX6_init 84 = .ok (.aload_n 0, 1) := by decide +kernel
theorem dX6_init_85 : decode cX6_init 85 = .ok (.new 47, 3) := by decide +kernel
theorem dX6_init_88 : decode cX6_init 88 = .ok (.dup, 1) := by decide +kernel
theorem dX6_init_89 : decode cX6_init 89 = .ok (.aload_n 1, 1) := by decide +kernel
theorem dX6_init_90 : decode cX6_init 90 = .ok (.invokespecial 49, 3) := by decide +kernel
theorem dX6_init_93 : decode cX6_init 93 = .ok (.putfield 52, 3) := by decide +kernel
theorem dX6_init_96 : decode cX6_init 96 = .ok (.aload_n 0, 1) := by decide +kernel
theorem dX6_init_97 : decode cX6_init 97 = .ok (.new 47, 3) := by decide +kernel
theorem dX6_init_100 : decode cX6_init 100 = .ok (.dup, 1) := by decide +kernel
theorem dX6_init_101 : decode cX6_init 101 = .ok (.aload_n 1, 1) := by decide +kernel
theorem dX6_init_102 : decode cX6_init 102 = .ok (.invokespecial 49, 3) := by decide +kernel
theorem dX6_init_105 : decode cX6_init 105 = .ok (.putfield 56, 3) := by decide +kernel
theorem dX6_init_108 : decode cX6_init 108 = .ok (.aload_n 0, 1) := by decide +kernel
theorem dX6_init_109 : decode cX6_init 109 = .ok (.new 47, 3) := by decide +kernel
theorem dX6_init_112 : decode cX6_init 112 = .ok (.dup, 1) := by decide +kernel
theorem dX6_init_113 : decode cX6_init 113 = .ok (.aload_n 1, 1) := by decide +kernel
theorem dX6_init_114 : decode cX6_init 114 = .ok (.invokespecial 49, 3) := by decide +kernel
theorem dX6_init_117 : decode cX6_init 117 = .ok (.putfield 59, 3) := by decide +kernel
theorem dX6_init_120 : decode cX6_init 120 = .ok (.iconst 0, 1) := by decide +kernel
theorem dX6_init_121 : decode cX6_init 121 = .ok (.istore_n 2, 1) := by decide +kernel
theorem dX6_init_122 : decode cX6_init 122 = .ok (.iload_n 2, 1) := by decide +kernel
theorem dX6_init_123 : decode cX6_init 123 = .ok (.iconst 4, 1) := by decide +kernel
theorem dX6_init_124 : decode cX6_init 124 = .ok (.if_icmp .ge 22, 3) := by decide +kernel
theorem dX6_init_127 : decode cX6_init 127 = .ok (.aload_n 0, 1) := by decide +kernel
theorem dX6_init_128 : decode cX6_init 128 = .ok (.getfield 15, 3) := by decide +kernel
theorem dX6_init_131 : decode cX6_init 131 = .ok (.iload_n 2, 1) := by decide +kernel
theorem dX6_init_132 : decode cX6_init 132 = .ok (.new 13, 3) := by decide +kernel
theorem dX6_init_135 : decode cX6_init 135 = .ok (.dup, 1) := by decide +kernel
theorem dX6_init_136 : decode cX6_init 136 = .ok (.invokespecial 62, 3) := by decide +kernel
theorem dX6_init_139 : decode cX6_init 139 = .ok (.aastore, 1) := by decide +kernel
theorem dX6_init_140 : decode cX6_init 140 = .ok (.iinc 2 1, 3) := by decide +kernel
theorem dX6_init_143 : decode cX6_init 143 = .ok (.goto (-21), 3) := by decide +kernel
theorem dX6_init_146 : decode cX6_init 146 = .ok (.iconst 0, 1) := by decide +kernel
theorem dX6_init_147 : decode cX6_init 147 = .ok (.istore_n 2, 1) := by decide +kernel
theorem dX6_init_148 : decode cX6_init 148 = .ok (.iload_n 2, 1) := by decide +kernel
theorem dX6_init_149 : decode cX6_init 149 = .ok (.iconst 5, 1) := by decide +kernel
theorem dX6_init_150 : decode cX6_init 150 = .ok (.if_icmp .ge 22, 3) := by decide +kernel
theorem dX6_init_153 : decode cX6_init 153 = .ok (.aload_n 0, 1) := by decide +kernel
theorem dX6_init_154 : decode cX6_init 154 = .ok (.getfield 21, 3) := by decide +kernel
theorem dX6_init_157 : decode cX6_init 157 = .ok (.iload_n 2, 1) := by decide +kernel
theorem dX6_init_158 : decode cX6_init 158 = .ok (.new 19, 3) := by decide +kernel
theorem dX6_init_161 : decode cX6_init 161 = .ok (.dup, 1) := by decide +kernel
theorem dX6_init_162 : decode cX6_init 162 = .ok (.invokespecial 63, 3) := by decide +kernel
theorem dX6_init_165 : decode cX6_init 165 = .ok (.aastore, 1) := by decide +kernel
theorem dX6_init_166 : decode cX6_init 166 = .ok (.iinc 2 1, 3) := by decide +kernel
theorem dX6_init_169 : decode cX6_init 169 = .ok (.goto (-21), 3) := by decide +kernel
theorem dX6_init_172 : decode cX6_init 172 = .ok (.return_, 1) := by decide +kernel
theorem dX6_flame_0 : decode cX6_flame 0 = .ok (.iload_n 1, 1) := by decide +kernel
theorem dX6_flame_1 : decode cX6_flame 1 = .ok (.invokestatic 64, 3) := by decide +kernel
theorem dX6_flame_4 : decode cX6_flame 4 = .ok (.ifCond .eq 20, 3) := by decide +kernel
theorem dX6_flame_7 : decode cX6_flame 7 = .ok (.iload_n 2, 1) := by decide +kernel
theorem dX6_flame_8 : decode cX6_flame 8 = .ok (.invokestatic 68, 3) := by decide +kernel
theorem dX6_flame_11 : decode cX6_flame 11 = .ok (.ifCond .eq 13, 3) := by decide +kernel
theorem dX6_flame_14 : decode cX6_flame 14 = .ok (.iload_n 3, 1) := by decide +kernel
theorem dX6_flame_15 : decode cX6_flame 15 = .ok (.iconst 1, 1) := by decide +kernel
theorem dX6_flame_16 : decode cX6_flame 16 = .ok (.bipush 9, 2) := by decide +kernel
theorem dX6_flame_18 : decode cX6_flame 18 = .ok (.invokestatic 71, 3) := by decide +kernel
theorem dX6_flame_21 : decode cX6_flame 21 = .ok (.ifCond .ne 6, 3) := by decide +kernel
theorem dX6_flame_24 : decode cX6_flame 24 = .ok (.ldc 75, 2) := by decide +kernel
theorem dX6_flame_26 : decode cX6_flame 26 = .ok (.ireturn, 1) := by decide +kernel
theorem dX6_flame_27 : decode cX6_flame 27 = .ok (.aload_n 0, 1) := by decide +kernel
theorem dX6_flame_28 : decode cX6_flame 28 = .ok (.getfield 52, 3) := by decide +kernel
theorem dX6_flame_31 : decode cX6_flame 31 = .ok (.getfield 76, 3) := by decide +kernel
theorem dX6_flame_34 : decode cX6_flame 34 = .ok (.bipush 8, 2) := by decide +kernel
theorem dX6_flame_36 : decode cX6_flame 36 = .ok (.if_icmp .lt 6, 3) := by decide +kernel
theorem dX6_flame_39 : decode cX6_flame 39 = .ok (.ldc 79, 2) := by decide +kernel
theorem dX6_flame_41 : decode cX6_flame 41 = .ok (.ireturn, 1) := by decide +kernel
theorem dX6_flame_42 : decode cX6_flame 42 = .ok (.aload_n 0, 1) := by decide +kernel
theorem dX6_flame_43 : decode cX6_flame 43 = .ok (.getfield 52, 3) := by decide +kernel
theorem dX6_flame_46 : decode cX6_flame 46 = .ok (.iload_n 1, 1) := by decide +kernel
theorem dX6_flame_47 : decode cX6_flame 47 = .ok (.iload_n 2, 1) := by decide +kernel
theorem dX6_flame_48 : decode cX6_flame 48 = .ok (.bipush 100, 2) := by decide +kernel
theorem dX6_flame_50 : decode cX6_flame 50 = .ok (.idiv, 1) := by decide +kernel
theorem dX6_flame_51 : decode cX6_flame 51 = .ok (.iload_n 2, 1) := by decide +kernel
theorem dX6_flame_52 : decode cX6_flame 52 = .ok (.bipush 100, 2) := by decide +kernel
theorem dX6_flame_54 : decode cX6_flame 54 = .ok (.irem, 1) := by decide +kernel
theorem dX6_flame_55 : decode cX6_flame 55 = .ok (.iload_n 3, 1) := by decide +kernel
theorem dX6_flame_56 : decode cX6_flame 56 = .ok (.invokevirtual 80, 3) := by decide +kernel
theorem dX6_flame_59 : decode cX6_flame 59 = .ok (.ireturn, 1) := by decide +kernel
theorem dX6_told_0 : decode cX6_told 0 = .ok (.aload_n 0, 1) := by decide +kernel
theorem dX6_told_1 : decode cX6_told 1 = .ok (.iload_n 1, 1) := by decide +kernel
theorem dX6_told_2 : decode cX6_told 2 = .ok (.invokevirtual 84, 3) := by decide +kernel
theorem dX6_told_5 : decode cX6_told 5 = .ok (.ifCond .ne 6, 3) := by decide +kernel
theorem dX6_told_8 : decode cX6_told 8 = .ok (.ldc 75, 2) := by decide +kernel
theorem dX6_told_10 : decode cX6_told 10 = .ok (.ireturn, 1) := by decide +kernel
theorem dX6_told_11 : decode cX6_told 11 = .ok (.aload_n 0, 1) := by decide +kernel
theorem dX6_told_12 : decode cX6_told 12 = .ok (.getfield 52, 3) := by decide +kernel
theorem dX6_told_15 : decode cX6_told 15 = .ok (.getfield 87, 3) := by decide +kernel
theorem dX6_told_18 : decode cX6_told 18 = .ok (.iload_n 1, 1) := by decide +kernel
theorem dX6_told_19 : decode cX6_told 19 = .ok (.aaload, 1) := by decide +kernel
theorem dX6_told_20 : decode cX6_told 20 = .ok (.astore_n 3, 1) := by decide +kernel
theorem dX6_told_21 : decode cX6_told 21 = .ok (.iload_n 2, 1) := by decide +kernel
theorem dX6_told_22 : decode cX6_told 22 = .ok (.tableswitch 112 0 9 #[54, 59, 64, 69, 74, 79, 84, 89, 98, 107], 54) := by decide +kernel
theorem dX6_told_76 : decode cX6_told 76 = .ok (.aload_n 3, 1) := by decide +kernel
theorem dX6_told_77 : decode cX6_told 77 = .ok (.getfield 91, 3) := by decide +kernel
theorem dX6_told_80 : decode cX6_told 80 = .ok (.ireturn, 1) := by decide +kernel
theorem dX6_told_81 : decode cX6_told 81 = .ok (.aload_n 3, 1) := by decide +kernel
theorem dX6_told_82 : decode cX6_told 82 = .ok (.getfield 96, 3) := by decide +kernel
theorem dX6_told_85 : decode cX6_told 85 = .ok (.ireturn, 1) := by decide +kernel
theorem dX6_told_86 : decode cX6_told 86 = .ok (.aload_n 3, 1) := by decide +kernel
theorem dX6_told_87 : decode cX6_told 87 = .ok (.getfield 99, 3) := by decide +kernel
theorem dX6_told_90 : decode cX6_told 90 = .ok (.ireturn, 1) := by decide +kernel
theorem dX6_told_91 : decode cX6_told 91 = .ok (.aload_n 3, 1) := by decide +kernel
theorem dX6_told_92 : decode cX6_told 92 = .ok (.getfield 102, 3) := by decide +kernel
theorem dX6_told_95 : decode cX6_told 95 = .ok (.ireturn, 1) := by decide +kernel
theorem dX6_told_96 : decode cX6_told 96 = .ok (.aload_n 3, 1) := by decide +kernel
theorem dX6_told_97 : decode cX6_told 97 = .ok (.getfield 105, 3) := by decide +kernel
theorem dX6_told_100 : decode cX6_told 100 = .ok (.ireturn, 1) := by decide +kernel
theorem dX6_told_101 : decode cX6_told 101 = .ok (.aload_n 3, 1) := by decide +kernel
theorem dX6_told_102 : decode cX6_told 102 = .ok (.getfield 108, 3) := by decide +kernel
theorem dX6_told_105 : decode cX6_told 105 = .ok (.ireturn, 1) := by decide +kernel
theorem dX6_told_106 : decode cX6_told 106 = .ok (.aload_n 3, 1) := by decide +kernel
theorem dX6_told_107 : decode cX6_told 107 = .ok (.getfield 111, 3) := by decide +kernel
theorem dX6_told_110 : decode cX6_told 110 = .ok (.ireturn, 1) := by decide +kernel
theorem dX6_told_111 : decode cX6_told 111 = .ok (.aload_n 0, 1) := by decide +kernel
theorem dX6_told_112 : decode cX6_told 112 = .ok (.getfield 52, 3) := by decide +kernel
theorem dX6_told_115 : decode cX6_told 115 = .ok (.iload_n 1, 1) := by decide +kernel
theorem dX6_told_116 : decode cX6_told 116 = .ok (.invokevirtual 114, 3) := by decide +kernel
theorem dX6_told_119 : decode cX6_told 119 = .ok (.ireturn, 1) := by decide +kernel
theorem dX6_told_120 : decode cX6_told 120 = .ok (.aload_n 0, 1) := by decide +kernel
theorem dX6_told_121 : decode cX6_told 121 = .ok (.getfield 52, 3) := by decide +kernel
theorem dX6_told_124 : decode cX6_told 124 = .ok (.iload_n 1, 1) := by decide +kernel
theorem dX6_told_125 : decode cX6_told 125 = .ok (.invokevirtual 118, 3) := by decide +kernel
theorem dX6_told_128 : decode cX6_told 128 = .ok (.ireturn, 1) := by decide +kernel
theorem dX6_told_129 : decode cX6_told 129 = .ok (.aload_n 3, 1) := by decide +kernel
theorem dX6_told_130 : decode cX6_told 130 = .ok (.invokevirtual 121, 3) := by decide +kernel
theorem dX6_told_133 : decode cX6_told 133 = .ok (.ireturn, 1) := by decide +kernel
theorem dX6_told_134 : decode cX6_told 134 = .ok (.ldc 75, 2) := by decide +kernel
theorem dX6_told_136 : decode cX6_told 136 = .ok (.ireturn, 1) := by decide +kernel
theorem dX6_as_0 : decode cX6_as 0 = .ok (.aload_n 0, 1) := by decide +kernel
theorem dX6_as_1 : decode cX6_as 1 = .ok (.iload_n 1, 1) := by decide +kernel
theorem dX6_as_2 : decode cX6_as 2 = .ok (.invokevirtual 84, 3) := by decide +kernel
theorem dX6_as_5 : decode cX6_as 5 = .ok (.ifCond .eq 10, 3) := by decide +kernel
theorem dX6_as_8 : decode cX6_as 8 = .ok (.iload_n 2, 1) := by decide +kernel
theorem dX6_as_9 : decode cX6_as 9 = .ok (.invokestatic 64, 3) := by decide +kernel
theorem dX6_as_12 : decode cX6_as 12 = .ok (.ifCond .ne 6, 3) := by decide +kernel
theorem dX6_as_15 : decode cX6_as 15 = .ok (.ldc 75, 2) := by decide +kernel
theorem dX6_as_17 : decode cX6_as 17 = .ok (.ireturn, 1) := by decide +kernel
theorem dX6_as_18 : decode cX6_as 18 = .ok (.aload_n 0, 1) := by decide +kernel
theorem dX6_as_19 : decode cX6_as 19 = .ok (.getfield 52, 3) := by decide +kernel
theorem dX6_as_22 : decode cX6_as 22 = .ok (.getfield 87, 3) := by decide +kernel
theorem dX6_as_25 : decode cX6_as 25 = .ok (.iload_n 1, 1) := by decide +kernel
theorem dX6_as_26 : decode cX6_as 26 = .ok (.aaload, 1) := by decide +kernel
theorem dX6_as_27 : decode cX6_as 27 = .ok (.astore_n 3, 1) := by decide +kernel
theorem dX6_as_28 : decode cX6_as 28 = .ok (.aload_n 3, 1) := by decide +kernel
theorem dX6_as_29 : decode cX6_as 29 = .ok (.iload_n 2, 1) := by decide +kernel
theorem dX6_as_30 : decode cX6_as 30 = .ok (.invokevirtual 125, 3) := by decide +kernel
theorem dX6_as_33 : decode cX6_as 33 = .ok (.ifCond .eq 10, 3) := by decide +kernel
theorem dX6_as_36 : decode cX6_as 36 = .ok (.aload_n 3, 1) := by decide +kernel
theorem dX6_as_37 : decode cX6_as 37 = .ok (.getfield 102, 3) := by decide +kernel
theorem dX6_as_40 : decode cX6_as 40 = .ok (.goto 5, 3) := by decide +kernel
theorem dX6_as_43 : decode cX6_as 43 = .ok (.ldc 128, 2) := by decide +kernel
theorem dX6_as_45 : decode cX6_as 45 = .ok (.ireturn, 1) := by decide +kernel
theorem dX6_turns_0 : decode cX6_turns 0 = .ok (.aload_n 0, 1) := by decide +kernel
theorem dX6_turns_1 : decode cX6_turns 1 = .ok (.iload_n 1, 1) := by decide +kernel
theorem dX6_turns_2 : decode cX6_turns 2 = .ok (.invokevirtual 84, 3) := by decide +kernel
theorem dX6_turns_5 : decode cX6_turns 5 = .ok (.ifCond .eq 10, 3) := by decide +kernel
theorem dX6_turns_8 : decode cX6_turns 8 = .ok (.iload_n 2, 1) := by decide +kernel
theorem dX6_turns_9 : decode cX6_turns 9 = .ok (.invokestatic 64, 3) := by decide +kernel
theorem dX6_turns_12 : decode cX6_turns 12 = .ok (.ifCond .ne 6, 3) := by decide +kernel
theorem dX6_turns_15 : decode cX6_turns 15 = .ok (.ldc 75, 2) := by decide +kernel
theorem dX6_turns_17 : decode cX6_turns 17 = .ok (.ireturn, 1) := by decide +kernel
theorem dX6_turns_18 : decode cX6_turns 18 = .ok (.aload_n 0, 1) := by decide +kernel
theorem dX6_turns_19 : decode cX6_turns 19 = .ok (.getfield 52, 3) := by decide +kernel
theorem dX6_turns_22 : decode cX6_turns 22 = .ok (.getfield 87, 3) := by decide +kernel
theorem dX6_turns_25 : decode cX6_turns 25 = .ok (.iload_n 1, 1) := by decide +kernel
theorem dX6_turns_26 : decode cX6_turns 26 = .ok (.aaload, 1) := by decide +kernel
theorem dX6_turns_27 : decode cX6_turns 27 = .ok (.astore_n 3, 1) := by decide +kernel
theorem dX6_turns_28 : decode cX6_turns 28 = .ok (.aload_n 3, 1) := by decide +kernel
theorem dX6_turns_29 : decode cX6_turns 29 = .ok (.getfield 91, 3) := by decide +kernel
theorem dX6_turns_32 : decode cX6_turns 32 = .ok (.istore 4, 2) := by decide +kernel
theorem dX6_turns_34 : decode cX6_turns 34 = .ok (.aload_n 3, 1) := by decide +kernel
theorem dX6_turns_35 : decode cX6_turns 35 = .ok (.iload_n 2, 1) := by decide +kernel
theorem dX6_turns_36 : decode cX6_turns 36 = .ok (.putfield 91, 3) := by decide +kernel
theorem dX6_turns_39 : decode cX6_turns 39 = .ok (.iload 4, 2) := by decide +kernel
theorem dX6_turns_41 : decode cX6_turns 41 = .ok (.ireturn, 1) := by decide +kernel
theorem dX6_set_0 : decode cX6_set 0 = .ok (.aload_n 0, 1) := by decide +kernel
theorem dX6_set_1 : decode cX6_set 1 = .ok (.iload_n 1, 1) := by decide +kernel
theorem dX6_set_2 : decode cX6_set 2 = .ok (.invokevirtual 84, 3) := by decide +kernel
theorem dX6_set_5 : decode cX6_set 5 = .ok (.ifCond .ne 6, 3) := by decide +kernel
theorem dX6_set_8 : decode cX6_set 8 = .ok (.ldc 75, 2) := by decide +kernel
theorem dX6_set_10 : decode cX6_set 10 = .ok (.ireturn, 1) := by decide +kernel
theorem dX6_set_11 : decode cX6_set 11 = .ok (.aload_n 0, 1) := by decide +kernel
theorem dX6_set_12 : decode cX6_set 12 = .ok (.getfield 52, 3) := by decide +kernel
theorem dX6_set_15 : decode cX6_set 15 = .ok (.getfield 87, 3) := by decide +kernel
theorem dX6_set_18 : decode cX6_set 18 = .ok (.iload_n 1, 1) := by decide +kernel
theorem dX6_set_19 : decode cX6_set 19 = .ok (.aaload, 1) := by decide +kernel
theorem dX6_set_20 : decode cX6_set 20 = .ok (.astore 4, 2) := by decide +kernel
theorem dX6_set_22 : decode cX6_set 22 = .ok (.ldc 75, 2) := by decide +kernel
theorem dX6_set_24 : decode cX6_set 24 = .ok (.istore 5, 2) := by decide +kernel
theorem dX6_set_26 : decode cX6_set 26 = .ok (.iload_n 2, 1) := by decide +kernel
theorem dX6_set_27 : decode cX6_set 27 = .ok (.ifCond .ne 29, 3) := by decide +kernel
theorem dX6_set_30 : decode cX6_set 30 = .ok (.iload_n 3, 1) := by decide +kernel
theorem dX6_set_31 : decode cX6_set 31 = .ok (.iconst 1, 1) := by decide +kernel
theorem dX6_set_32 : decode cX6_set 32 = .ok (.bipush 9, 2) := by decide +kernel
theorem dX6_set_34 : decode cX6_set 34 = .ok (.invokestatic 71, 3) := by decide +kernel
theorem dX6_set_37 : decode cX6_set 37 = .ok (.ifCond .eq 19, 3) := by decide +kernel
theorem dX6_set_40 : decode cX6_set 40 = .ok (.aload 4, 2) := by decide +kernel
theorem dX6_set_42 : decode cX6_set 42 = .ok (.getfield 102, 3) := by decide +kernel
theorem dX6_set_45 : decode cX6_set 45 = .ok (.istore 5, 2) := by decide +kernel
theorem dX6_set_47 : decode cX6_set 47 = .ok (.aload 4, 2) := by decide +kernel
theorem dX6_set_49 : decode cX6_set 49 = .ok (.iload_n 3, 1) := by decide +kernel
theorem dX6_set_50 : decode cX6_set 50 = .ok (.putfield 102, 3) := by decide +kernel
theorem dX6_set_53 : decode cX6_set 53 = .ok (.goto 60, 3) := by decide +kernel
theorem dX6_set_56 : decode cX6_set 56 = .ok (.iload_n 2, 1) := by decide +kernel
theorem dX6_set_57 : decode cX6_set 57 = .ok (.iconst 1, 1) := by decide +kernel
theorem dX6_set_58 : decode cX6_set 58 = .ok (.if_icmp .ne 26, 3) := by decide +kernel
theorem dX6_set_61 : decode cX6_set 61 = .ok (.iload_n 3, 1) := by decide +kernel
theorem dX6_set_62 : decode cX6_set 62 = .ok (.invokestatic 129, 3) := by decide +kernel
theorem dX6_set_65 : decode cX6_set 65 = .ok (.ifCond .eq 19, 3) := by decide +kernel
theorem dX6_set_68 : decode cX6_set 68 = .ok (.aload 4, 2) := by decide +kernel
theorem dX6_set_70 : decode cX6_set 70 = .ok (.getfield 105, 3) := by decide +kernel
theorem dX6_set_73 : decode cX6_set 73 = .ok (.istore 5, 2) := by decide +kernel
theorem dX6_set_75 : decode cX6_set 75 = .ok (.aload 4, 2) := by decide +kernel
theorem dX6_set_77 : decode cX6_set 77 = .ok (.iload_n 3, 1) := by decide +kernel
theorem dX6_set_78 : decode cX6_set 78 = .ok (.putfield 105, 3) := by decide +kernel
theorem dX6_set_81 : decode cX6_set 81 = .ok (.goto 32, 3) := by decide +kernel
theorem dX6_set_84 : decode cX6_set 84 = .ok (.iload_n 2, 1) := by decide +kernel
theorem dX6_set_85 : decode cX6_set 85 = .ok (.iconst 2, 1) := by decide +kernel
theorem dX6_set_86 : decode cX6_set 86 = .ok (.if_icmp .ne 27, 3) := by decide +kernel
theorem dX6_set_89 : decode cX6_set 89 = .ok (.iload_n 3, 1) := by decide +kernel
theorem dX6_set_90 : decode cX6_set 90 = .ok (.iconst 0, 1) := by decide +kernel
theorem dX6_set_91 : decode cX6_set 91 = .ok (.sipush 999, 3) := by decide +kernel
theorem dX6_set_94 : decode cX6_set 94 = .ok (.invokestatic 71, 3) := by decide +kernel
theorem dX6_set_97 : decode cX6_set 97 = .ok (.ifCond .eq 16, 3) := by decide +kernel
theorem dX6_set_100 : decode cX6_set 100 = .ok (.aload 4, 2) := by decide +kernel
theorem dX6_set_102 : decode cX6_set 102 = .ok (.getfield 108, 3) := by decide +kernel
theorem dX6_set_105 : decode cX6_set 105 = .ok (.istore 5, 2) := by decide +kernel
theorem dX6_set_107 : decode cX6_set 107 = .ok (.aload 4, 2) := by decide +kernel
theorem dX6_set_109 : decode cX6_set 109 = .ok (.iload_n 3, 1) := by decide +kernel
theorem dX6_set_110 : decode cX6_set 110 = .ok (.putfield 108, 3) := by decide +kernel
theorem dX6_set_113 : decode cX6_set 113 = .ok (.iload 5, 2) := by decide +kernel
theorem dX6_set_115 : decode cX6_set 115 = .ok (.ireturn, 1) := by decide +kernel
theorem dX6_move_0 : decode cX6_move 0 = .ok (.aload_n 0, 1) := by decide +kernel
theorem dX6_move_1 : decode cX6_move 1 = .ok (.iload_n 1, 1) := by decide +kernel
theorem dX6_move_2 : decode cX6_move 2 = .ok (.invokevirtual 84, 3) := by decide +kernel
theorem dX6_move_5 : decode cX6_move 5 = .ok (.ifCond .eq 10, 3) := by decide +kernel
theorem dX6_move_8 : decode cX6_move 8 = .ok (.iload_n 2, 1) := by decide +kernel
theorem dX6_move_9 : decode cX6_move 9 = .ok (.invokestatic 68, 3) := by decide +kernel
theorem dX6_move_12 : decode cX6_move 12 = .ok (.ifCond .ne 6, 3) := by decide +kernel
theorem dX6_move_15 : decode cX6_move 15 = .ok (.ldc 75, 2) := by decide +kernel
theorem dX6_move_17 : decode cX6_move 17 = .ok (.ireturn, 1) := by decide +kernel
theorem dX6_move_18 : decode cX6_move 18 = .ok (.aload_n 0, 1) := by decide +kernel
theorem dX6_move_19 : decode cX6_move 19 = .ok (.getfield 52, 3) := by decide +kernel
theorem dX6_move_22 : decode cX6_move 22 = .ok (.getfield 87, 3) := by decide +kernel
theorem dX6_move_25 : decode cX6_move 25 = .ok (.iload_n 1, 1) := by decide +kernel
theorem dX6_move_26 : decode cX6_move 26 = .ok (.aaload, 1) := by decide +kernel
theorem dX6_move_27 : decode cX6_move 27 = .ok (.astore_n 3, 1) := by decide +kernel
theorem dX6_move_28 : decode cX6_move 28 = .ok (.iload_n 2, 1) := by decide +kernel
theorem dX6_move_29 : decode cX6_move 29 = .ok (.bipush 100, 2) := by decide +kernel
theorem dX6_move_31 : decode cX6_move 31 = .ok (.idiv, 1) := by decide +kernel
theorem dX6_move_32 : decode cX6_move 32 = .ok (.istore 4, 2) := by decide +kernel
theorem dX6_move_34 : decode cX6_move 34 = .ok (.iload_n 2, 1) := by decide +kernel
theorem dX6_move_35 : decode cX6_move 35 = .ok (.bipush 100, 2) := by decide +kernel
theorem dX6_move_37 : decode cX6_move 37 = .ok (.irem, 1) := by decide +kernel
theorem dX6_move_38 : decode cX6_move 38 = .ok (.istore 5, 2) := by decide +kernel
theorem dX6_move_40 : decode cX6_move 40 = .ok (.aload_n 3, 1) := by decide +kernel
theorem dX6_move_41 : decode cX6_move 41 = .ok (.iload 4, 2) := by decide +kernel
theorem dX6_move_43 : decode cX6_move 43 = .ok (.iload 5, 2) := by decide +kernel
theorem dX6_move_45 : decode cX6_move 45 = .ok (.invokevirtual 132, 3) := by decide +kernel
theorem dX6_move_48 : decode cX6_move 48 = .ok (.istore 6, 2) := by decide +kernel
theorem dX6_move_50 : decode cX6_move 50 = .ok (.aload_n 3, 1) := by decide +kernel
theorem dX6_move_51 : decode cX6_move 51 = .ok (.iload 4, 2) := by decide +kernel
theorem dX6_move_53 : decode cX6_move 53 = .ok (.putfield 96, 3) := by decide +kernel
theorem dX6_move_56 : decode cX6_move 56 = .ok (.aload_n 3, 1) := by decide +kernel
theorem dX6_move_57 : decode cX6_move 57 = .ok (.iload 5, 2) := by decide +kernel
theorem dX6_move_59 : decode cX6_move 59 = .ok (.putfield 99, 3) := by decide +kernel
theorem dX6_move_62 : decode cX6_move 62 = .ok (.iload 6, 2) := by decide +kernel
theorem dX6_move_64 : decode cX6_move 64 = .ok (.ireturn, 1) := by decide +kernel
theorem dX6_glass_0 : decode cX6_glass 0 = .ok (.aload_n 0, 1) := by decide +kernel
theorem dX6_glass_1 : decode cX6_glass 1 = .ok (.iload_n 1, 1) := by decide +kernel
theorem dX6_glass_2 : decode cX6_glass 2 = .ok (.iload_n 2, 1) := by decide +kernel
theorem dX6_glass_3 : decode cX6_glass 3 = .ok (.invokevirtual 136, 3) := by decide +kernel
theorem dX6_glass_6 : decode cX6_glass 6 = .ok (.ifCond .eq 12, 3) := by decide +kernel
theorem dX6_glass_9 : decode cX6_glass 9 = .ok (.iload_n 3, 1) := by decide +kernel
theorem dX6_glass_10 : decode cX6_glass 10 = .ok (.iconst 0, 1) := by decide +kernel
theorem dX6_glass_11 : decode cX6_glass 11 = .ok (.iconst 1, 1) := by decide +kernel
theorem dX6_glass_12 : decode cX6_glass 12 = .ok (.invokestatic 71, 3) := by decide +kernel
theorem dX6_glass_15 : decode cX6_glass 15 = .ok (.ifCond .ne 6, 3) := by decide +kernel
theorem dX6_glass_18 : decode cX6_glass 18 = .ok (.ldc 75, 2) := by decide +kernel
theorem dX6_glass_20 : decode cX6_glass 20 = .ok (.ireturn, 1) := by decide +kernel
theorem dX6_glass_21 : decode cX6_glass 21 = .ok (.aload_n 0, 1) := by decide +kernel
theorem dX6_glass_22 : decode cX6_glass 22 = .ok (.getfield 52, 3) := by decide +kernel
theorem dX6_glass_25 : decode cX6_glass 25 = .ok (.iload_n 1, 1) := by decide +kernel
theorem dX6_glass_26 : decode cX6_glass 26 = .ok (.iload_n 2, 1) := by decide +kernel
theorem dX6_glass_27 : decode cX6_glass 27 = .ok (.invokevirtual 140, 3) := by decide +kernel
theorem dX6_glass_30 : decode cX6_glass 30 = .ok (.ifCond .eq 7, 3) := by decide +kernel
theorem dX6_glass_33 : decode cX6_glass 33 = .ok (.iconst 1, 1) := by decide +kernel
theorem dX6_glass_34 : decode cX6_glass 34 = .ok (.goto 4, 3) := by decide +kernel
theorem dX6_glass_37 : decode cX6_glass 37 = .ok (.iconst 0, 1) := by decide +kernel
theorem dX6_glass_38 : decode cX6_glass 38 = .ok (.istore 4, 2) := by decide +kernel
theorem dX6_glass_40 : decode cX6_glass 40 = .ok (.aload_n 0, 1) := by decide +kernel
theorem dX6_glass_41 : decode cX6_glass 41 = .ok (.getfield 52, 3) := by decide +kernel
theorem dX6_glass_44 : decode cX6_glass 44 = .ok (.iload_n 1, 1) := by decide +kernel
theorem dX6_glass_45 : decode cX6_glass 45 = .ok (.iload_n 2, 1) := by decide +kernel
theorem dX6_glass_46 : decode cX6_glass 46 = .ok (.iload_n 3, 1) := by decide +kernel
theorem dX6_glass_47 : decode cX6_glass 47 = .ok (.iconst 1, 1) := by decide +kernel
theorem dX6_glass_48 : decode cX6_glass 48 = .ok (.if_icmp .ne 7, 3) := by decide +kernel
theorem dX6_glass_51 : decode cX6_glass 51 = .ok (.iconst 1, 1) := by decide +kernel
theorem dX6_glass_52 : decode cX6_glass 52 = .ok (.goto 4, 3) := by decide +kernel
theorem dX6_glass_55 : decode cX6_glass 55 = .ok (.iconst 0, 1) := by decide +kernel
theorem dX6_glass_56 : decode cX6_glass 56 = .ok (.invokevirtual 143, 3) := by decide +kernel
theorem dX6_glass_59 : decode cX6_glass 59 = .ok (.iload 4, 2) := by decide +kernel
theorem dX6_glass_61 : decode cX6_glass 61 = .ok (.ireturn, 1) := by decide +kernel
theorem dX6_reach_0 : decode cX6_reach 0 = .ok (.iload_n 1, 1) := by decide +kernel
theorem dX6_reach_1 : decode cX6_reach 1 = .ok (.iconst 0, 1) := by decide +kernel
theorem dX6_reach_2 : decode cX6_reach 2 = .ok (.iconst 1, 1) := by decide +kernel
theorem dX6_reach_3 : decode cX6_reach 3 = .ok (.invokestatic 71, 3) := by decide +kernel
theorem dX6_reach_6 : decode cX6_reach 6 = .ok (.ifCond .eq 13, 3) := by decide +kernel
theorem dX6_reach_9 : decode cX6_reach 9 = .ok (.iload_n 2, 1) := by decide +kernel
theorem dX6_reach_10 : decode cX6_reach 10 = .ok (.iconst 0, 1) := by decide +kernel
theorem dX6_reach_11 : decode cX6_reach 11 = .ok (.bipush 59, 2) := by decide +kernel
theorem dX6_reach_13 : decode cX6_reach 13 = .ok (.invokestatic 71, 3) := by decide +kernel
theorem dX6_reach_16 : decode cX6_reach 16 = .ok (.ifCond .ne 6, 3) := by decide +kernel
theorem dX6_reach_19 : decode cX6_reach 19 = .ok (.ldc 75, 2) := by decide +kernel
theorem dX6_reach_21 : decode cX6_reach 21 = .ok (.ireturn, 1) := by decide +kernel
theorem dX6_reach_22 : decode cX6_reach 22 = .ok (.iload_n 1, 1) := by decide +kernel
theorem dX6_reach_23 : decode cX6_reach 23 = .ok (.ifCond .ne 13, 3) := by decide +kernel
theorem dX6_reach_26 : decode cX6_reach 26 = .ok (.aload_n 0, 1) := by decide +kernel
theorem dX6_reach_27 : decode cX6_reach 27 = .ok (.getfield 52, 3) := by decide +kernel
theorem dX6_reach_30 : decode cX6_reach 30 = .ok (.getfield 147, 3) := by decide +kernel
theorem dX6_reach_33 : decode cX6_reach 33 = .ok (.goto 10, 3) := by decide +kernel
theorem dX6_reach_36 : decode cX6_reach 36 = .ok (.aload_n 0, 1) := by decide +kernel
theorem dX6_reach_37 : decode cX6_reach 37 = .ok (.getfield 52, 3) := by decide +kernel
theorem dX6_reach_40 : decode cX6_reach 40 = .ok (.getfield 150, 3) := by decide +kernel
theorem dX6_reach_43 : decode cX6_reach 43 = .ok (.istore_n 3, 1) := by decide +kernel
theorem dX6_reach_44 : decode cX6_reach 44 = .ok (.iload_n 1, 1) := by decide +kernel
theorem dX6_reach_45 : decode cX6_reach 45 = .ok (.ifCond .ne 14, 3) := by decide +kernel
theorem dX6_reach_48 : decode cX6_reach 48 = .ok (.aload_n 0, 1) := by decide +kernel
theorem dX6_reach_49 : decode cX6_reach 49 = .ok (.getfield 52, 3) := by decide +kernel
theorem dX6_reach_52 : decode cX6_reach 52 = .ok (.iload_n 2, 1) := by decide +kernel
theorem dX6_reach_53 : decode cX6_reach 53 = .ok (.putfield 147, 3) := by decide +kernel
theorem dX6_reach_56 : decode cX6_reach 56 = .ok (.goto 11, 3) := by decide +kernel
theorem dX6_reach_59 : decode cX6_reach 59 = .ok (.aload_n 0, 1) := by decide +kernel
theorem dX6_reach_60 : decode cX6_reach 60 = .ok (.getfield 52, 3) := by decide +kernel
theorem dX6_reach_63 : decode cX6_reach 63 = .ok (.iload_n 2, 1) := by decide +kernel
theorem dX6_reach_64 : decode cX6_reach 64 = .ok (.putfield 150, 3) := by decide +kernel
theorem dX6_reach_67 : decode cX6_reach 67 = .ok (.iload_n 3, 1) := by decide +kernel
theorem dX6_reach_68 : decode cX6_reach 68 = .ok (.ireturn, 1) := by decide +kernel
theorem dX6_push_0 : decode cX6_push 0 = .ok (.aload_n 0, 1) := by decide +kernel
theorem dX6_push_1 : decode cX6_push 1 = .ok (.iload_n 1, 1) := by decide +kernel
theorem dX6_push_2 : decode cX6_push 2 = .ok (.iload_n 2, 1) := by decide +kernel
theorem dX6_push_3 : decode cX6_push 3 = .ok (.invokevirtual 136, 3) := by decide +kernel
theorem dX6_push_6 : decode cX6_push 6 = .ok (.ifCond .eq 15, 3) := by decide +kernel
theorem dX6_push_9 : decode cX6_push 9 = .ok (.aload_n 0, 1) := by decide +kernel
theorem dX6_push_10 : decode cX6_push 10 = .ok (.getfield 52, 3) := by decide +kernel
theorem dX6_push_13 : decode cX6_push 13 = .ok (.iload_n 1, 1) := by decide +kernel
theorem dX6_push_14 : decode cX6_push 14 = .ok (.iload_n 2, 1) := by decide +kernel
theorem dX6_push_15 : decode cX6_push 15 = .ok (.invokevirtual 153, 3) := by decide +kernel
theorem dX6_push_18 : decode cX6_push 18 = .ok (.goto 5, 3) := by decide +kernel
theorem dX6_push_21 : decode cX6_push 21 = .ok (.ldc 75, 2) := by decide +kernel
theorem dX6_push_23 : decode cX6_push 23 = .ok (.ireturn, 1) := by decide +kernel
theorem dX6_deal_0 : decode cX6_deal 0 = .ok (.iload_n 1, 1) := by decide +kernel
theorem dX6_deal_1 : decode cX6_deal 1 = .ok (.iconst 1, 1) := by decide +kernel
theorem dX6_deal_2 : decode cX6_deal 2 = .ok (.bipush 8, 2) := by decide +kernel
theorem dX6_deal_4 : decode cX6_deal 4 = .ok (.invokestatic 71, 3) := by decide +kernel
theorem dX6_deal_7 : decode cX6_deal 7 = .ok (.ifCond .ne 6, 3) := by decide +kernel
theorem dX6_deal_10 : decode cX6_deal 10 = .ok (.ldc 75, 2) := by decide +kernel
theorem dX6_deal_12 : decode cX6_deal 12 = .ok (.ireturn, 1) := by decide +kernel
theorem dX6_deal_13 : decode cX6_deal 13 = .ok (.iload_n 1, 1) := by decide +kernel
theorem dX6_deal_14 : decode cX6_deal 14 = .ok (.bipush 8, 2) := by decide +kernel
theorem dX6_deal_16 : decode cX6_deal 16 = .ok (.aload_n 0, 1) := by decide +kernel
theorem dX6_deal_17 : decode cX6_deal 17 = .ok (.getfield 52, 3) := by decide +kernel
theorem dX6_deal_20 : decode cX6_deal 20 = .ok (.getfield 76, 3) := by decide +kernel
theorem dX6_deal_23 : decode cX6_deal 23 = .ok (.isub, 1) := by decide +kernel
theorem dX6_deal_24 : decode cX6_deal 24 = .ok (.invokestatic 156, 3) := by decide +kernel
theorem dX6_deal_27 : decode cX6_deal 27 = .ok (.istore_n 2, 1) := by decide +kernel
theorem dX6_deal_28 : decode cX6_deal 28 = .ok (.iconst 0, 1) := by decide +kernel
theorem dX6_deal_29 : decode cX6_deal 29 = .ok (.istore_n 3, 1) := by decide +kernel
theorem dX6_deal_30 : decode cX6_deal 30 = .ok (.iload_n 3, 1) := by decide +kernel
theorem dX6_deal_31 : decode cX6_deal 31 = .ok (.iload_n 2, 1) := by decide +kernel
theorem dX6_deal_32 : decode cX6_deal 32 = .ok (.if_icmp .ge 16, 3) := by decide +kernel
theorem dX6_deal_35 : decode cX6_deal 35 = .ok (.aload_n 0, 1) := by decide +kernel
theorem dX6_deal_36 : decode cX6_deal 36 = .ok (.getfield 52, 3) := by decide +kernel
theorem dX6_deal_39 : decode cX6_deal 39 = .ok (.invokevirtual 161, 3) := by decide +kernel
theorem dX6_deal_42 : decode cX6_deal 42 = .ok (.iinc 3 1, 3) := by decide +kernel
theorem dX6_deal_45 : decode cX6_deal 45 = .ok (.goto (-15), 3) := by decide +kernel
theorem dX6_deal_48 : decode cX6_deal 48 = .ok (.iload_n 2, 1) := by decide +kernel
theorem dX6_deal_49 : decode cX6_deal 49 = .ok (.ireturn, 1) := by decide +kernel
theorem dX6_seed_0 : decode cX6_seed 0 = .ok (.aload_n 0, 1) := by decide +kernel
theorem dX6_seed_1 : decode cX6_seed 1 = .ok (.getfield 52, 3) := by decide +kernel
theorem dX6_seed_4 : decode cX6_seed 4 = .ok (.getfield 164, 3) := by decide +kernel
theorem dX6_seed_7 : decode cX6_seed 7 = .ok (.istore_n 2, 1) := by decide +kernel
theorem dX6_seed_8 : decode cX6_seed 8 = .ok (.aload_n 0, 1) := by decide +kernel
theorem dX6_seed_9 : decode cX6_seed 9 = .ok (.getfield 52, 3) := by decide +kernel
theorem dX6_seed_12 : decode cX6_seed 12 = .ok (.iload_n 1, 1) := by decide +kernel
theorem dX6_seed_13 : decode cX6_seed 13 = .ok (.putfield 164, 3) := by decide +kernel
theorem dX6_seed_16 : decode cX6_seed 16 = .ok (.iload_n 2, 1) := by decide +kernel
theorem dX6_seed_17 : decode cX6_seed 17 = .ok (.ireturn, 1) := by decide +kernel
theorem dX6_run_0 : decode cX6_run 0 = .ok (.iload_n 1, 1) := by decide +kernel
theorem dX6_run_1 : decode cX6_run 1 = .ok (.iconst 1, 1) := by decide +kernel
theorem dX6_run_2 : decode cX6_run 2 = .ok (.bipush 60, 2) := by decide +kernel
theorem dX6_run_4 : decode cX6_run 4 = .ok (.invokestatic 71, 3) := by decide +kernel
theorem dX6_run_7 : decode cX6_run 7 = .ok (.ifCond .ne 6, 3) := by decide +kernel
theorem dX6_run_10 : decode cX6_run 10 = .ok (.ldc 75, 2) := by decide +kernel
theorem dX6_run_12 : decode cX6_run 12 = .ok (.ireturn, 1) := by decide +kernel
theorem dX6_run_13 : decode cX6_run 13 = .ok (.iconst 0, 1) := by decide +kernel
theorem dX6_run_14 : decode cX6_run 14 = .ok (.istore_n 2, 1) := by decide +kernel
theorem dX6_run_15 : decode cX6_run 15 = .ok (.iconst 0, 1) := by decide +kernel
theorem dX6_run_16 : decode cX6_run 16 = .ok (.istore_n 3, 1) := by decide +kernel
theorem dX6_run_17 : decode cX6_run 17 = .ok (.iload_n 3, 1) := by decide +kernel
theorem dX6_run_18 : decode cX6_run 18 = .ok (.iload_n 1, 1) := by decide +kernel
theorem dX6_run_19 : decode cX6_run 19 = .ok (.if_icmp .ge 19, 3) := by decide +kernel
theorem dX6_run_22 : decode cX6_run 22 = .ok (.iload_n 2, 1) := by decide +kernel
theorem dX6_run_23 : decode cX6_run 23 = .ok (.aload_n 0, 1) := by decide +kernel
theorem dX6_run_24 : decode cX6_run 24 = .ok (.getfield 52, 3) := by decide +kernel
theorem dX6_run_27 : decode cX6_run 27 = .ok (.invokevirtual 167, 3) := by decide +kernel
theorem dX6_run_30 : decode cX6_run 30 = .ok (.iadd, 1) := by decide +kernel
theorem dX6_run_31 : decode cX6_run 31 = .ok (.istore_n 2, 1) := by decide +kernel
theorem dX6_run_32 : decode cX6_run 32 = .ok (.iinc 3 1, 3) := by decide +kernel
theorem dX6_run_35 : decode cX6_run 35 = .ok (.goto (-18), 3) := by decide +kernel
theorem dX6_run_38 : decode cX6_run 38 = .ok (.iload_n 2, 1) := by decide +kernel
theorem dX6_run_39 : decode cX6_run 39 = .ok (.ireturn, 1) := by decide +kernel
theorem dX6_spread_0 : decode cX6_spread 0 = .ok (.aload_n 0, 1) := by decide +kernel
theorem dX6_spread_1 : decode cX6_spread 1 = .ok (.getfield 52, 3) := by decide +kernel
theorem dX6_spread_4 : decode cX6_spread 4 = .ok (.invokevirtual 170, 3) := by decide +kernel
theorem dX6_spread_7 : decode cX6_spread 7 = .ok (.ireturn, 1) := by decide +kernel
theorem dX6_groups_0 : decode cX6_groups 0 = .ok (.iload_n 1, 1) := by decide +kernel
theorem dX6_groups_1 : decode cX6_groups 1 = .ok (.invokestatic 129, 3) := by decide +kernel
theorem dX6_groups_4 : decode cX6_groups 4 = .ok (.ifCond .eq 14, 3) := by decide +kernel
theorem dX6_groups_7 : decode cX6_groups 7 = .ok (.aload_n 0, 1) := by decide +kernel
theorem dX6_groups_8 : decode cX6_groups 8 = .ok (.getfield 52, 3) := by decide +kernel
theorem dX6_groups_11 : decode cX6_groups 11 = .ok (.iload_n 1, 1) := by decide +kernel
theorem dX6_groups_12 : decode cX6_groups 12 = .ok (.invokevirtual 173, 3) := by decide +kernel
theorem dX6_groups_15 : decode cX6_groups 15 = .ok (.goto 5, 3) := by decide +kernel
theorem dX6_groups_18 : decode cX6_groups 18 = .ok (.ldc 75, 2) := by decide +kernel
theorem dX6_groups_20 : decode cX6_groups 20 = .ok (.ireturn, 1) := by decide +kernel
theorem dX6_soon_0 : decode cX6_soon 0 = .ok (.iload_n 1, 1) := by decide +kernel
theorem dX6_soon_1 : decode cX6_soon 1 = .ok (.invokestatic 129, 3) := by decide +kernel
theorem dX6_soon_4 : decode cX6_soon 4 = .ok (.ifCond .ne 6, 3) := by decide +kernel
theorem dX6_soon_7 : decode cX6_soon 7 = .ok (.ldc 75, 2) := by decide +kernel
theorem dX6_soon_9 : decode cX6_soon 9 = .ok (.ireturn, 1) := by decide +kernel
theorem dX6_soon_10 : decode cX6_soon 10 = .ok (.aload_n 0, 1) := by decide +kernel
theorem dX6_soon_11 : decode cX6_soon 11 = .ok (.getfield 56, 3) := by decide +kernel
theorem dX6_soon_14 : decode cX6_soon 14 = .ok (.aload_n 0, 1) := by decide +kernel
theorem dX6_soon_15 : decode cX6_soon 15 = .ok (.getfield 52, 3) := by decide +kernel
theorem dX6_soon_18 : decode cX6_soon 18 = .ok (.invokevirtual 176, 3) := by decide +kernel
theorem dX6_soon_21 : decode cX6_soon 21 = .ok (.iconst 0, 1) := by decide +kernel
theorem dX6_soon_22 : decode cX6_soon 22 = .ok (.istore_n 2, 1) := by decide +kernel
theorem dX6_soon_23 : decode cX6_soon 23 = .ok (.iload_n 2, 1) := by decide +kernel
theorem dX6_soon_24 : decode cX6_soon 24 = .ok (.sipush 200, 3) := by decide +kernel
theorem dX6_soon_27 : decode cX6_soon 27 = .ok (.if_icmp .gt 30, 3) := by decide +kernel
theorem dX6_soon_30 : decode cX6_soon 30 = .ok (.aload_n 0, 1) := by decide +kernel
theorem dX6_soon_31 : decode cX6_soon 31 = .ok (.getfield 56, 3) := by decide +kernel
theorem dX6_soon_34 : decode cX6_soon 34 = .ok (.iload_n 1, 1) := by decide +kernel
theorem dX6_soon_35 : decode cX6_soon 35 = .ok (.invokevirtual 180, 3) := by decide +kernel
theorem dX6_soon_38 : decode cX6_soon 38 = .ok (.ifCond .eq 5, 3) := by decide +kernel
theorem dX6_soon_41 : decode cX6_soon 41 = .ok (.iload_n 2, 1) := by decide +kernel
theorem dX6_soon_42 : decode cX6_soon 42 = .ok (.ireturn, 1) := by decide +kernel
theorem dX6_soon_43 : decode cX6_soon 43 = .ok (.aload_n 0, 1) := by decide +kernel
theorem dX6_soon_44 : decode cX6_soon 44 = .ok (.getfield 56, 3) := by decide +kernel
theorem dX6_soon_47 : decode cX6_soon 47 = .ok (.invokevirtual 167, 3) := by decide +kernel
theorem dX6_soon_50 : decode cX6_soon 50 = .ok (.pop, 1) := by decide +kernel
theorem dX6_soon_51 : decode cX6_soon 51 = .ok (.iinc 2 1, 3) := by decide +kernel
theorem dX6_soon_54 : decode cX6_soon 54 = .ok (.goto (-31), 3) := by decide +kernel
theorem dX6_soon_57 : decode cX6_soon 57 = .ok (.ldc 183, 2) := by decide +kernel
theorem dX6_soon_59 : decode cX6_soon 59 = .ok (.ireturn, 1) := by decide +kernel
theorem dX6_period_0 : decode cX6_period 0 = .ok (.aload_n 0, 1) := by decide +kernel
theorem dX6_period_1 : decode cX6_period 1 = .ok (.getfield 56, 3) := by decide +kernel
theorem dX6_period_4 : decode cX6_period 4 = .ok (.aload_n 0, 1) := by decide +kernel
theorem dX6_period_5 : decode cX6_period 5 = .ok (.getfield 52, 3) := by decide +kernel
theorem dX6_period_8 : decode cX6_period 8 = .ok (.invokevirtual 176, 3) := by decide +kernel
theorem dX6_period_11 : decode cX6_period 11 = .ok (.iconst 1, 1) := by decide +kernel
theorem dX6_period_12 : decode cX6_period 12 = .ok (.istore_n 1, 1) := by decide +kernel
theorem dX6_period_13 : decode cX6_period 13 = .ok (.iload_n 1, 1) := by decide +kernel
theorem dX6_period_14 : decode cX6_period 14 = .ok (.sipush 300, 3) := by decide +kernel
theorem dX6_period_17 : decode cX6_period 17 = .ok (.if_icmp .gt 33, 3) := by decide +kernel
theorem dX6_period_20 : decode cX6_period 20 = .ok (.aload_n 0, 1) := by decide +kernel
theorem dX6_period_21 : decode cX6_period 21 = .ok (.getfield 56, 3) := by decide +kernel
theorem dX6_period_24 : decode cX6_period 24 = .ok (.invokevirtual 167, 3) := by decide +kernel
theorem dX6_period_27 : decode cX6_period 27 = .ok (.pop, 1) := by decide +kernel
theorem dX6_period_28 : decode cX6_period 28 = .ok (.aload_n 0, 1) := by decide +kernel
theorem dX6_period_29 : decode cX6_period 29 = .ok (.getfield 56, 3) := by decide +kernel
theorem dX6_period_32 : decode cX6_period 32 = .ok (.aload_n 0, 1) := by decide +kernel
theorem dX6_period_33 : decode cX6_period 33 = .ok (.getfield 52, 3) := by decide +kernel
theorem dX6_period_36 : decode cX6_period 36 = .ok (.invokevirtual 184, 3) := by decide +kernel
theorem dX6_period_39 : decode cX6_period 39 = .ok (.ifCond .eq 5, 3) := by decide +kernel
theorem dX6_period_42 : decode cX6_period 42 = .ok (.iload_n 1, 1) := by decide +kernel
theorem dX6_period_43 : decode cX6_period 43 = .ok (.ireturn, 1) := by decide +kernel
theorem dX6_period_44 : decode cX6_period 44 = .ok (.iinc 1 1, 3) := by decide +kernel
theorem dX6_period_47 : decode cX6_period 47 = .ok (.goto (-34), 3) := by decide +kernel
theorem dX6_period_50 : decode cX6_period 50 = .ok (.ldc 183, 2) := by decide +kernel
theorem dX6_period_52 : decode cX6_period 52 = .ok (.ireturn, 1) := by decide +kernel
theorem dX6_film_0 : decode cX6_film 0 = .ok (.aload_n 0, 1) := by decide +kernel
theorem dX6_film_1 : decode cX6_film 1 = .ok (.iload_n 1, 1) := by decide +kernel
theorem dX6_film_2 : decode cX6_film 2 = .ok (.invokevirtual 84, 3) := by decide +kernel
theorem dX6_film_5 : decode cX6_film 5 = .ok (.ifCond .eq 13, 3) := by decide +kernel
theorem dX6_film_8 : decode cX6_film 8 = .ok (.iload_n 2, 1) := by decide +kernel
theorem dX6_film_9 : decode cX6_film 9 = .ok (.iconst 1, 1) := by decide +kernel
theorem dX6_film_10 : decode cX6_film 10 = .ok (.bipush 60, 2) := by decide +kernel
theorem dX6_film_12 : decode cX6_film 12 = .ok (.invokestatic 71, 3) := by decide +kernel
theorem dX6_film_15 : decode cX6_film 15 = .ok (.ifCond .ne 6, 3) := by decide +kernel
theorem dX6_film_18 : decode cX6_film 18 = .ok (.ldc 75, 2) := by decide +kernel
theorem dX6_film_20 : decode cX6_film 20 = .ok (.ireturn, 1) := by decide +kernel
theorem dX6_film_21 : decode cX6_film 21 = .ok (.aload_n 0, 1) := by decide +kernel
theorem dX6_film_22 : decode cX6_film 22 = .ok (.getfield 56, 3) := by decide +kernel
theorem dX6_film_25 : decode cX6_film 25 = .ok (.aload_n 0, 1) := by decide +kernel
theorem dX6_film_26 : decode cX6_film 26 = .ok (.getfield 52, 3) := by decide +kernel
theorem dX6_film_29 : decode cX6_film 29 = .ok (.invokevirtual 176, 3) := by decide +kernel
theorem dX6_film_32 : decode cX6_film 32 = .ok (.iconst 0, 1) := by decide +kernel
theorem dX6_film_33 : decode cX6_film 33 = .ok (.istore_n 3, 1) := by decide +kernel
theorem dX6_film_34 : decode cX6_film 34 = .ok (.iload_n 3, 1) := by decide +kernel
theorem dX6_film_35 : decode cX6_film 35 = .ok (.iload_n 2, 1) := by decide +kernel
theorem dX6_film_36 : decode cX6_film 36 = .ok (.if_icmp .ge 17, 3) := by decide +kernel
theorem dX6_film_39 : decode cX6_film 39 = .ok (.aload_n 0, 1) := by decide +kernel
theorem dX6_film_40 : decode cX6_film 40 = .ok (.getfield 56, 3) := by decide +kernel
theorem dX6_film_43 : decode cX6_film 43 = .ok (.invokevirtual 167, 3) := by decide +kernel
theorem dX6_film_46 : decode cX6_film 46 = .ok (.pop, 1) := by decide +kernel
theorem dX6_film_47 : decode cX6_film 47 = .ok (.iinc 3 1, 3) := by decide +kernel
theorem dX6_film_50 : decode cX6_film 50 = .ok (.goto (-16), 3) := by decide +kernel
theorem dX6_film_53 : decode cX6_film 53 = .ok (.aload_n 0, 1) := by decide +kernel
theorem dX6_film_54 : decode cX6_film 54 = .ok (.getfield 56, 3) := by decide +kernel
theorem dX6_film_57 : decode cX6_film 57 = .ok (.getfield 87, 3) := by decide +kernel
theorem dX6_film_60 : decode cX6_film 60 = .ok (.iload_n 1, 1) := by decide +kernel
theorem dX6_film_61 : decode cX6_film 61 = .ok (.aaload, 1) := by decide +kernel
theorem dX6_film_62 : decode cX6_film 62 = .ok (.getfield 105, 3) := by decide +kernel
theorem dX6_film_65 : decode cX6_film 65 = .ok (.aload_n 0, 1) := by decide +kernel
theorem dX6_film_66 : decode cX6_film 66 = .ok (.getfield 52, 3) := by decide +kernel
theorem dX6_film_69 : decode cX6_film 69 = .ok (.getfield 87, 3) := by decide +kernel
theorem dX6_film_72 : decode cX6_film 72 = .ok (.iload_n 1, 1) := by decide +kernel
theorem dX6_film_73 : decode cX6_film 73 = .ok (.aaload, 1) := by decide +kernel
theorem dX6_film_74 : decode cX6_film 74 = .ok (.getfield 105, 3) := by decide +kernel
theorem dX6_film_77 : decode cX6_film 77 = .ok (.invokestatic 188, 3) := by decide +kernel
theorem dX6_film_80 : decode cX6_film 80 = .ok (.ireturn, 1) := by decide +kernel
theorem dX6_basin_0 : decode cX6_basin 0 = .ok (.iload_n 1, 1) := by decide +kernel
theorem dX6_basin_1 : decode cX6_basin 1 = .ok (.invokestatic 129, 3) := by decide +kernel
theorem dX6_basin_4 : decode cX6_basin 4 = .ok (.ifCond .ne 6, 3) := by decide +kernel
theorem dX6_basin_7 : decode cX6_basin 7 = .ok (.ldc 75, 2) := by decide +kernel
theorem dX6_basin_9 : decode cX6_basin 9 = .ok (.ireturn, 1) := by decide +kernel
theorem dX6_basin_10 : decode cX6_basin 10 = .ok (.aload_n 0, 1) := by decide +kernel
theorem dX6_basin_11 : decode cX6_basin 11 = .ok (.getfield 52, 3) := by decide +kernel
theorem dX6_basin_14 : decode cX6_basin 14 = .ok (.iconst 0, 1) := by decide +kernel
theorem dX6_basin_15 : decode cX6_basin 15 = .ok (.invokevirtual 191, 3) := by decide +kernel
theorem dX6_basin_18 : decode cX6_basin 18 = .ok (.istore_n 2, 1) := by decide +kernel
theorem dX6_basin_19 : decode cX6_basin 19 = .ok (.aload_n 0, 1) := by decide +kernel
theorem dX6_basin_20 : decode cX6_basin 20 = .ok (.getfield 52, 3) := by decide +kernel
theorem dX6_basin_23 : decode cX6_basin 23 = .ok (.iload_n 2, 1) := by decide +kernel
theorem dX6_basin_24 : decode cX6_basin 24 = .ok (.iconst 1, 1) := by decide +kernel
theorem dX6_basin_25 : decode cX6_basin 25 = .ok (.iadd, 1) := by decide +kernel
theorem dX6_basin_26 : decode cX6_basin 26 = .ok (.invokevirtual 191, 3) := by decide +kernel
theorem dX6_basin_29 : decode cX6_basin 29 = .ok (.istore_n 3, 1) := by decide +kernel
theorem dX6_basin_30 : decode cX6_basin 30 = .ok (.iload_n 3, 1) := by decide +kernel
theorem dX6_basin_31 : decode cX6_basin 31 = .ok (.aload_n 0, 1) := by decide +kernel
theorem dX6_basin_32 : decode cX6_basin 32 = .ok (.getfield 52, 3) := by decide +kernel
theorem dX6_basin_35 : decode cX6_basin 35 = .ok (.getfield 76, 3) := by decide +kernel
theorem dX6_basin_38 : decode cX6_basin 38 = .ok (.if_icmp .lt 6, 3) := by decide +kernel
theorem dX6_basin_41 : decode cX6_basin 41 = .ok (.ldc 194, 2) := by decide +kernel
theorem dX6_basin_43 : decode cX6_basin 43 = .ok (.ireturn, 1) := by decide +kernel
theorem dX6_basin_44 : decode cX6_basin 44 = .ok (.iconst 0, 1) := by decide +kernel
theorem dX6_basin_45 : decode cX6_basin 45 = .ok (.istore 4, 2) := by decide +kernel
theorem dX6_basin_47 : decode cX6_basin 47 = .ok (.iconst 0, 1) := by decide +kernel
theorem dX6_basin_48 : decode cX6_basin 48 = .ok (.istore 5, 2) := by decide +kernel
theorem dX6_basin_50 : decode cX6_basin 50 = .ok (.iload 5, 2) := by decide +kernel
theorem dX6_basin_52 : decode cX6_basin 52 = .ok (.bipush 36, 2) := by decide +kernel
theorem dX6_basin_54 : decode cX6_basin 54 = .ok (.if_icmp .ge 105, 3) := by decide +kernel
theorem dX6_basin_57 : decode cX6_basin 57 = .ok (.aload_n 0, 1) := by decide +kernel
theorem dX6_basin_58 : decode cX6_basin 58 = .ok (.getfield 56, 3) := by decide +kernel
theorem dX6_basin_61 : decode cX6_basin 61 = .ok (.aload_n 0, 1) := by decide +kernel
theorem dX6_basin_62 : decode cX6_basin 62 = .ok (.getfield 52, 3) := by decide +kernel
theorem dX6_basin_65 : decode cX6_basin 65 = .ok (.invokevirtual 176, 3) := by decide +kernel
theorem dX6_basin_68 : decode cX6_basin 68 = .ok (.aload_n 0, 1) := by decide +kernel
theorem dX6_basin_69 : decode cX6_basin 69 = .ok (.getfield 56, 3) := by decide +kernel
theorem dX6_basin_72 : decode cX6_basin 72 = .ok (.getfield 87, 3) := by decide +kernel
theorem dX6_basin_75 : decode cX6_basin 75 = .ok (.iload_n 2, 1) := by decide +kernel
theorem dX6_basin_76 : decode cX6_basin 76 = .ok (.aaload, 1) := by decide +kernel
theorem dX6_basin_77 : decode cX6_basin 77 = .ok (.bipush 20, 2) := by decide +kernel
theorem dX6_basin_79 : decode cX6_basin 79 = .ok (.iload 5, 2) := by decide +kernel
theorem dX6_basin_81 : decode cX6_basin 81 = .ok (.bipush 6, 2) := by decide +kernel
theorem dX6_basin_83 : decode cX6_basin 83 = .ok (.idiv, 1) := by decide +kernel
theorem dX6_basin_84 : decode cX6_basin 84 = .ok (.imul, 1) := by decide +kernel
theorem dX6_basin_85 : decode cX6_basin 85 = .ok (.putfield 105, 3) := by decide +kernel
theorem dX6_basin_88 : decode cX6_basin 88 = .ok (.aload_n 0, 1) := by decide +kernel
theorem dX6_basin_89 : decode cX6_basin 89 = .ok (.getfield 56, 3) := by decide +kernel
theorem dX6_basin_92 : decode cX6_basin 92 = .ok (.getfield 87, 3) := by decide +kernel
theorem dX6_basin_95 : decode cX6_basin 95 = .ok (.iload_n 3, 1) := by decide +kernel
theorem dX6_basin_96 : decode cX6_basin 96 = .ok (.aaload, 1) := by decide +kernel
theorem dX6_basin_97 : decode cX6_basin 97 = .ok (.bipush 20, 2) := by decide +kernel
theorem dX6_basin_99 : decode cX6_basin 99 = .ok (.iload 5, 2) := by decide +kernel
theorem dX6_basin_101 : decode cX6_basin 101 = .ok (.bipush 6, 2) := by decide +kernel
theorem dX6_basin_103 : decode cX6_basin 103 = .ok (.irem, 1) := by decide +kernel
theorem dX6_basin_104 : decode cX6_basin 104 = .ok (.imul, 1) := by decide +kernel
theorem dX6_basin_105 : decode cX6_basin 105 = .ok (.putfield 105, 3) := by decide +kernel
theorem dX6_basin_108 : decode cX6_basin 108 = .ok (.iconst 0, 1) := by decide +kernel
theorem dX6_basin_109 : decode cX6_basin 109 = .ok (.istore 6, 2) := by decide +kernel
theorem dX6_basin_111 : decode cX6_basin 111 = .ok (.iload 6, 2) := by decide +kernel
theorem dX6_basin_113 : decode cX6_basin 113 = .ok (.bipush 30, 2) := by decide +kernel
theorem dX6_basin_115 : decode cX6_basin 115 = .ok (.if_icmp .ge 17, 3) := by decide +kernel
theorem dX6_basin_118 : decode cX6_basin 118 = .ok (.aload_n 0, 1) := by decide +kernel
theorem dX6_basin_119 : decode cX6_basin 119 = .ok (.getfield 56, 3) := by decide +kernel
theorem dX6_basin_122 : decode cX6_basin 122 = .ok (.invokevirtual 167, 3) := by decide +kernel
theorem dX6_basin_125 : decode cX6_basin 125 = .ok (.pop, 1) := by decide +kernel
theorem dX6_basin_126 : decode cX6_basin 126 = .ok (.iinc 6 1, 3) := by decide +kernel
theorem dX6_basin_129 : decode cX6_basin 129 = .ok (.goto (-18), 3) := by decide +kernel
theorem dX6_basin_132 : decode cX6_basin 132 = .ok (.iload 4, 2) := by decide +kernel
theorem dX6_basin_134 : decode cX6_basin 134 = .ok (.aload_n 0, 1) := by decide +kernel
theorem dX6_basin_135 : decode cX6_basin 135 = .ok (.getfield 56, 3) := by decide +kernel
theorem dX6_basin_138 : decode cX6_basin 138 = .ok (.iload_n 1, 1) := by decide +kernel
theorem dX6_basin_139 : decode cX6_basin 139 = .ok (.invokevirtual 180, 3) := by decide +kernel
theorem dX6_basin_142 : decode cX6_basin 142 = .ok (.ifCond .eq 7, 3) := by decide +kernel
theorem dX6_basin_145 : decode cX6_basin 145 = .ok (.iconst 1, 1) := by decide +kernel
theorem dX6_basin_146 : decode cX6_basin 146 = .ok (.goto 4, 3) := by decide +kernel
theorem dX6_basin_149 : decode cX6_basin 149 = .ok (.iconst 0, 1) := by decide +kernel
theorem dX6_basin_150 : decode cX6_basin 150 = .ok (.iadd, 1) := by decide +kernel
theorem dX6_basin_151 : decode cX6_basin 151 = .ok (.istore 4, 2) := by decide +kernel
theorem dX6_basin_153 : decode cX6_basin 153 = .ok (.iinc 5 1, 3) := by decide +kernel
theorem dX6_basin_156 : decode cX6_basin 156 = .ok (.goto (-106), 3) := by decide +kernel
theorem dX6_basin_159 : decode cX6_basin 159 = .ok (.iload 4, 2) := by decide +kernel
theorem dX6_basin_161 : decode cX6_basin 161 = .ok (.ireturn, 1) := by decide +kernel
theorem dX6_quiet_0 : decode cX6_quiet 0 = .ok (.aload_n 0, 1) := by decide +kernel
theorem dX6_quiet_1 : decode cX6_quiet 1 = .ok (.iload_n 1, 1) := by decide +kernel
theorem dX6_quiet_2 : decode cX6_quiet 2 = .ok (.invokevirtual 84, 3) := by decide +kernel
theorem dX6_quiet_5 : decode cX6_quiet 5 = .ok (.ifCond .eq 12, 3) := by decide +kernel
theorem dX6_quiet_8 : decode cX6_quiet 8 = .ok (.iload_n 2, 1) := by decide +kernel
theorem dX6_quiet_9 : decode cX6_quiet 9 = .ok (.iconst 0, 1) := by decide +kernel
theorem dX6_quiet_10 : decode cX6_quiet 10 = .ok (.iconst 1, 1) := by decide +kernel
theorem dX6_quiet_11 : decode cX6_quiet 11 = .ok (.invokestatic 71, 3) := by decide +kernel
theorem dX6_quiet_14 : decode cX6_quiet 14 = .ok (.ifCond .ne 6, 3) := by decide +kernel
theorem dX6_quiet_17 : decode cX6_quiet 17 = .ok (.ldc 75, 2) := by decide +kernel
theorem dX6_quiet_19 : decode cX6_quiet 19 = .ok (.ireturn, 1) := by decide +kernel
theorem dX6_quiet_20 : decode cX6_quiet 20 = .ok (.aload_n 0, 1) := by decide +kernel
theorem dX6_quiet_21 : decode cX6_quiet 21 = .ok (.getfield 52, 3) := by decide +kernel
theorem dX6_quiet_24 : decode cX6_quiet 24 = .ok (.getfield 87, 3) := by decide +kernel
theorem dX6_quiet_27 : decode cX6_quiet 27 = .ok (.iload_n 1, 1) := by decide +kernel
theorem dX6_quiet_28 : decode cX6_quiet 28 = .ok (.aaload, 1) := by decide +kernel
theorem dX6_quiet_29 : decode cX6_quiet 29 = .ok (.astore_n 3, 1) := by decide +kernel
theorem dX6_quiet_30 : decode cX6_quiet 30 = .ok (.bipush 121, 2) := by decide +kernel
theorem dX6_quiet_32 : decode cX6_quiet 32 = .ok (.istore 4, 2) := by decide +kernel
theorem dX6_quiet_34 : decode cX6_quiet 34 = .ok (.ldc 183, 2) := by decide +kernel
theorem dX6_quiet_36 : decode cX6_quiet 36 = .ok (.istore 5, 2) := by decide +kernel
theorem dX6_quiet_38 : decode cX6_quiet 38 = .ok (.aload_n 3, 1) := by decide +kernel
theorem dX6_quiet_39 : decode cX6_quiet 39 = .ok (.getfield 96, 3) := by decide +kernel
theorem dX6_quiet_42 : decode cX6_quiet 42 = .ok (.iconst 3, 1) := by decide +kernel
theorem dX6_quiet_43 : decode cX6_quiet 43 = .ok (.isub, 1) := by decide +kernel
theorem dX6_quiet_44 : decode cX6_quiet 44 = .ok (.istore 6, 2) := by decide +kernel
theorem dX6_quiet_46 : decode cX6_quiet 46 = .ok (.iload 6, 2) := by decide +kernel
theorem dX6_quiet_48 : decode cX6_quiet 48 = .ok (.aload_n 3, 1) := by decide +kernel
theorem dX6_quiet_49 : decode cX6_quiet 49 = .ok (.getfield 96, 3) := by decide +kernel
theorem dX6_quiet_52 : decode cX6_quiet 52 = .ok (.iconst 3, 1) := by decide +kernel
theorem dX6_quiet_53 : decode cX6_quiet 53 = .ok (.iadd, 1) := by decide +kernel
theorem dX6_quiet_54 : decode cX6_quiet 54 = .ok (.if_icmp .gt 81, 3) := by decide +kernel
theorem dX6_quiet_57 : decode cX6_quiet 57 = .ok (.aload_n 3, 1) := by decide +kernel
theorem dX6_quiet_58 : decode cX6_quiet 58 = .ok (.getfield 99, 3) := by decide +kernel
theorem dX6_quiet_61 : decode cX6_quiet 61 = .ok (.iconst 3, 1) := by decide +kernel
theorem dX6_quiet_62 : decode cX6_quiet 62 = .ok (.isub, 1) := by decide +kernel
theorem dX6_quiet_63 : decode cX6_quiet 63 = .ok (.istore 7, 2) := by decide +kernel
theorem dX6_quiet_65 : decode cX6_quiet 65 = .ok (.iload 7, 2) := by decide +kernel
theorem dX6_quiet_67 : decode cX6_quiet 67 = .ok (.aload_n 3, 1) := by decide +kernel
theorem dX6_quiet_68 : decode cX6_quiet 68 = .ok (.getfield 99, 3) := by decide +kernel
theorem dX6_quiet_71 : decode cX6_quiet 71 = .ok (.iconst 3, 1) := by decide +kernel
theorem dX6_quiet_72 : decode cX6_quiet 72 = .ok (.iadd, 1) := by decide +kernel
theorem dX6_quiet_73 : decode cX6_quiet 73 = .ok (.if_icmp .gt 56, 3) := by decide +kernel
theorem dX6_quiet_76 : decode cX6_quiet 76 = .ok (.iload 6, 2) := by decide +kernel
theorem dX6_quiet_78 : decode cX6_quiet 78 = .ok (.iload 7, 2) := by decide +kernel
theorem dX6_quiet_80 : decode cX6_quiet 80 = .ok (.invokestatic 195, 3) := by decide +kernel
theorem dX6_quiet_83 : decode cX6_quiet 83 = .ok (.ifCond .eq 15, 3) := by decide +kernel
theorem dX6_quiet_86 : decode cX6_quiet 86 = .ok (.aload_n 0, 1) := by decide +kernel
theorem dX6_quiet_87 : decode cX6_quiet 87 = .ok (.iload_n 1, 1) := by decide +kernel
theorem dX6_quiet_88 : decode cX6_quiet 88 = .ok (.iload 6, 2) := by decide +kernel
theorem dX6_quiet_90 : decode cX6_quiet 90 = .ok (.iload 7, 2) := by decide +kernel
theorem dX6_quiet_92 : decode cX6_quiet 92 = .ok (.invokevirtual 198, 3) := by decide +kernel
theorem dX6_quiet_95 : decode cX6_quiet 95 = .ok (.goto 5, 3) := by decide +kernel
theorem dX6_quiet_98 : decode cX6_quiet 98 = .ok (.bipush 121, 2) := by decide +kernel
theorem dX6_quiet_100 : decode cX6_quiet 100 = .ok (.istore 8, 2) := by decide +kernel
theorem dX6_quiet_102 : decode cX6_quiet 102 = .ok (.iload 8, 2) := by decide +kernel
theorem dX6_quiet_104 : decode cX6_quiet 104 = .ok (.iload 4, 2) := by decide +kernel
theorem dX6_quiet_106 : decode cX6_quiet 106 = .ok (.if_icmp .ge 17, 3) := by decide +kernel
theorem dX6_quiet_109 : decode cX6_quiet 109 = .ok (.iload 8, 2) := by decide +kernel
theorem dX6_quiet_111 : decode cX6_quiet 111 = .ok (.istore 4, 2) := by decide +kernel
theorem dX6_quiet_113 : decode cX6_quiet 113 = .ok (.bipush 100, 2) := by decide +kernel
theorem dX6_quiet_115 : decode cX6_quiet 115 = .ok (.iload 6, 2) := by decide +kernel
theorem dX6_quiet_117 : decode cX6_quiet 117 = .ok (.imul, 1) := by decide +kernel
theorem dX6_quiet_118 : decode cX6_quiet 118 = .ok (.iload 7, 2) := by decide +kernel
theorem dX6_quiet_120 : decode cX6_quiet 120 = .ok (.iadd, 1) := by decide +kernel
theorem dX6_quiet_121 : decode cX6_quiet 121 = .ok (.istore 5, 2) := by decide +kernel
theorem dX6_quiet_123 : decode cX6_quiet 123 = .ok (.iinc 7 1, 3) := by decide +kernel
theorem dX6_quiet_126 : decode cX6_quiet 126 = .ok (.goto (-61), 3) := by decide +kernel
theorem dX6_quiet_129 : decode cX6_quiet 129 = .ok (.iinc 6 1, 3) := by decide +kernel
theorem dX6_quiet_132 : decode cX6_quiet 132 = .ok (.goto (-86), 3) := by decide +kernel
theorem dX6_quiet_135 : decode cX6_quiet 135 = .ok (.iload_n 2, 1) := by decide +kernel
theorem dX6_quiet_136 : decode cX6_quiet 136 = .ok (.iconst 1, 1) := by decide +kernel
theorem dX6_quiet_137 : decode cX6_quiet 137 = .ok (.if_icmp .ne 6, 3) := by decide +kernel
theorem dX6_quiet_140 : decode cX6_quiet 140 = .ok (.iload 5, 2) := by decide +kernel
theorem dX6_quiet_142 : decode cX6_quiet 142 = .ok (.ireturn, 1) := by decide +kernel
theorem dX6_quiet_143 : decode cX6_quiet 143 = .ok (.iload 4, 2) := by decide +kernel
theorem dX6_quiet_145 : decode cX6_quiet 145 = .ok (.bipush 120, 2) := by decide +kernel
theorem dX6_quiet_147 : decode cX6_quiet 147 = .ok (.if_icmp .lt 8, 3) := by decide +kernel
theorem dX6_quiet_150 : decode cX6_quiet 150 = .ok (.ldc 183, 2) := by decide +kernel
theorem dX6_quiet_152 : decode cX6_quiet 152 = .ok (.goto 5, 3) := by decide +kernel
theorem dX6_quiet_155 : decode cX6_quiet 155 = .ok (.iload 4, 2) := by decide +kernel
theorem dX6_quiet_157 : decode cX6_quiet 157 = .ok (.ireturn, 1) := by decide +kernel
theorem dX6_arcFrom_0 : decode cX6_arcFrom 0 = .ok (.aload_n 0, 1) := by decide +kernel
theorem dX6_arcFrom_1 : decode cX6_arcFrom 1 = .ok (.getfield 56, 3) := by decide +kernel
theorem dX6_arcFrom_4 : decode cX6_arcFrom 4 = .ok (.aload_n 0, 1) := by decide +kernel
theorem dX6_arcFrom_5 : decode cX6_arcFrom 5 = .ok (.getfield 52, 3) := by decide +kernel
theorem dX6_arcFrom_8 : decode cX6_arcFrom 8 = .ok (.invokevirtual 176, 3) := by decide +kernel
theorem dX6_arcFrom_11 : decode cX6_arcFrom 11 = .ok (.aload_n 0, 1) := by decide +kernel
theorem dX6_arcFrom_12 : decode cX6_arcFrom 12 = .ok (.getfield 56, 3) := by decide +kernel
theorem dX6_arcFrom_15 : decode cX6_arcFrom 15 = .ok (.getfield 87, 3) := by decide +kernel
theorem dX6_arcFrom_18 : decode cX6_arcFrom 18 = .ok (.iload_n 1, 1) := by decide +kernel
theorem dX6_arcFrom_19 : decode cX6_arcFrom 19 = .ok (.aaload, 1) := by decide +kernel
theorem dX6_arcFrom_20 : decode cX6_arcFrom 20 = .ok (.iload_n 2, 1) := by decide +kernel
theorem dX6_arcFrom_21 : decode cX6_arcFrom 21 = .ok (.putfield 96, 3) := by decide +kernel
theorem dX6_arcFrom_24 : decode cX6_arcFrom 24 = .ok (.aload_n 0, 1) := by decide +kernel
theorem dX6_arcFrom_25 : decode cX6_arcFrom 25 = .ok (.getfield 56, 3) := by decide +kernel
theorem dX6_arcFrom_28 : decode cX6_arcFrom 28 = .ok (.getfield 87, 3) := by decide +kernel
theorem dX6_arcFrom_31 : decode cX6_arcFrom 31 = .ok (.iload_n 1, 1) := by decide +kernel
theorem dX6_arcFrom_32 : decode cX6_arcFrom 32 = .ok (.aaload, 1) := by decide +kernel
theorem dX6_arcFrom_33 : decode cX6_arcFrom 33 = .ok (.iload_n 3, 1) := by decide +kernel
theorem dX6_arcFrom_34 : decode cX6_arcFrom 34 = .ok (.putfield 99, 3) := by decide +kernel
theorem dX6_arcFrom_37 : decode cX6_arcFrom 37 = .ok (.iconst 0, 1) := by decide +kernel
theorem dX6_arcFrom_38 : decode cX6_arcFrom 38 = .ok (.istore 4, 2) := by decide +kernel
theorem dX6_arcFrom_40 : decode cX6_arcFrom 40 = .ok (.iload 4, 2) := by decide +kernel
theorem dX6_arcFrom_42 : decode cX6_arcFrom 42 = .ok (.bipush 10, 2) := by decide +kernel
theorem dX6_arcFrom_44 : decode cX6_arcFrom 44 = .ok (.if_icmp .ge 17, 3) := by decide +kernel
theorem dX6_arcFrom_47 : decode cX6_arcFrom 47 = .ok (.aload_n 0, 1) := by decide +kernel
theorem dX6_arcFrom_48 : decode cX6_arcFrom 48 = .ok (.getfield 56, 3) := by decide +kernel
theorem dX6_arcFrom_51 : decode cX6_arcFrom 51 = .ok (.invokevirtual 167, 3) := by decide +kernel
theorem dX6_arcFrom_54 : decode cX6_arcFrom 54 = .ok (.pop, 1) := by decide +kernel
theorem dX6_arcFrom_55 : decode cX6_arcFrom 55 = .ok (.iinc 4 1, 3) := by decide +kernel
theorem dX6_arcFrom_58 : decode cX6_arcFrom 58 = .ok (.goto (-18), 3) := by decide +kernel
theorem dX6_arcFrom_61 : decode cX6_arcFrom 61 = .ok (.aload_n 0, 1) := by decide +kernel
theorem dX6_arcFrom_62 : decode cX6_arcFrom 62 = .ok (.getfield 56, 3) := by decide +kernel
theorem dX6_arcFrom_65 : decode cX6_arcFrom 65 = .ok (.invokevirtual 170, 3) := by decide +kernel
theorem dX6_arcFrom_68 : decode cX6_arcFrom 68 = .ok (.istore 4, 2) := by decide +kernel
theorem dX6_arcFrom_70 : decode cX6_arcFrom 70 = .ok (.iload 4, 2) := by decide +kernel
theorem dX6_arcFrom_72 : decode cX6_arcFrom 72 = .ok (.ldc 183, 2) := by decide +kernel
theorem dX6_arcFrom_74 : decode cX6_arcFrom 74 = .ok (.if_icmp .ne 8, 3) := by decide +kernel
theorem dX6_arcFrom_77 : decode cX6_arcFrom 77 = .ok (.bipush 120, 2) := by decide +kernel
theorem dX6_arcFrom_79 : decode cX6_arcFrom 79 = .ok (.goto 5, 3) := by decide +kernel
theorem dX6_arcFrom_82 : decode cX6_arcFrom 82 = .ok (.iload 4, 2) := by decide +kernel
theorem dX6_arcFrom_84 : decode cX6_arcFrom 84 = .ok (.ireturn, 1) := by decide +kernel
theorem dX6_learn_0 : decode cX6_learn 0 = .ok (.iload_n 1, 1) := by decide +kernel
theorem dX6_learn_1 : decode cX6_learn 1 = .ok (.invokestatic 202, 3) := by decide +kernel
theorem dX6_learn_4 : decode cX6_learn 4 = .ok (.ifCond .eq 11, 3) := by decide +kernel
theorem dX6_learn_7 : decode cX6_learn 7 = .ok (.aload_n 0, 1) := by decide +kernel
theorem dX6_learn_8 : decode cX6_learn 8 = .ok (.iload_n 2, 1) := by decide +kernel
theorem dX6_learn_9 : decode cX6_learn 9 = .ok (.invokevirtual 84, 3) := by decide +kernel
theorem dX6_learn_12 : decode cX6_learn 12 = .ok (.ifCond .ne 6, 3) := by decide +kernel
theorem dX6_learn_15 : decode cX6_learn 15 = .ok (.ldc 75, 2) := by decide +kernel
theorem dX6_learn_17 : decode cX6_learn 17 = .ok (.ireturn, 1) := by decide +kernel
theorem dX6_learn_18 : decode cX6_learn 18 = .ok (.aload_n 0, 1) := by decide +kernel
theorem dX6_learn_19 : decode cX6_learn 19 = .ok (.getfield 15, 3) := by decide +kernel
theorem dX6_learn_22 : decode cX6_learn 22 = .ok (.iload_n 1, 1) := by decide +kernel
theorem dX6_learn_23 : decode cX6_learn 23 = .ok (.aaload, 1) := by decide +kernel
theorem dX6_learn_24 : decode cX6_learn 24 = .ok (.astore_n 3, 1) := by decide +kernel
theorem dX6_learn_25 : decode cX6_learn 25 = .ok (.aload_n 3, 1) := by decide +kernel
theorem dX6_learn_26 : decode cX6_learn 26 = .ok (.invokevirtual 205, 3) := by decide +kernel
theorem dX6_learn_29 : decode cX6_learn 29 = .ok (.ifCond .eq 6, 3) := by decide +kernel
theorem dX6_learn_32 : decode cX6_learn 32 = .ok (.ldc 209, 2) := by decide +kernel
theorem dX6_learn_34 : decode cX6_learn 34 = .ok (.ireturn, 1) := by decide +kernel
theorem dX6_learn_35 : decode cX6_learn 35 = .ok (.iconst 0, 1) := by decide +kernel
theorem dX6_learn_36 : decode cX6_learn 36 = .ok (.istore 4, 2) := by decide +kernel
theorem dX6_learn_38 : decode cX6_learn 38 = .ok (.iconst 0, 1) := by decide +kernel
theorem dX6_learn_39 : decode cX6_learn 39 = .ok (.istore 5, 2) := by decide +kernel
theorem dX6_learn_41 : decode cX6_learn 41 = .ok (.iconst 0, 1) := by decide +kernel
theorem dX6_learn_42 : decode cX6_learn 42 = .ok (.istore 6, 2) := by decide +kernel
theorem dX6_learn_44 : decode cX6_learn 44 = .ok (.iload 6, 2) := by decide +kernel
theorem dX6_learn_46 : decode cX6_learn 46 = .ok (.bipush 29, 2) := by decide +kernel
theorem dX6_learn_48 : decode cX6_learn 48 = .ok (.if_icmp .gt 34, 3) := by decide +kernel
theorem dX6_learn_51 : decode cX6_learn 51 = .ok (.aload_n 0, 1) := by decide +kernel
theorem dX6_learn_52 : decode cX6_learn 52 = .ok (.iload 6, 2) := by decide +kernel
theorem dX6_learn_54 : decode cX6_learn 54 = .ok (.aload_n 3, 1) := by decide +kernel
theorem dX6_learn_55 : decode cX6_learn 55 = .ok (.iload_n 2, 1) := by decide +kernel
theorem dX6_learn_56 : decode cX6_learn 56 = .ok (.invokevirtual 210, 3) := by decide +kernel
theorem dX6_learn_59 : decode cX6_learn 59 = .ok (.istore 7, 2) := by decide +kernel
theorem dX6_learn_61 : decode cX6_learn 61 = .ok (.iload 7, 2) := by decide +kernel
theorem dX6_learn_63 : decode cX6_learn 63 = .ok (.iload 5, 2) := by decide +kernel
theorem dX6_learn_65 : decode cX6_learn 65 = .ok (.if_icmp .le 11, 3) := by decide +kernel
theorem dX6_learn_68 : decode cX6_learn 68 = .ok (.iload 7, 2) := by decide +kernel
theorem dX6_learn_70 : decode cX6_learn 70 = .ok (.istore 5, 2) := by decide +kernel
theorem dX6_learn_72 : decode cX6_learn 72 = .ok (.iload 6, 2) := by decide +kernel
theorem dX6_learn_74 : decode cX6_learn 74 = .ok (.istore 4, 2) := by decide +kernel
theorem dX6_learn_76 : decode cX6_learn 76 = .ok (.iinc 6 1, 3) := by decide +kernel
theorem dX6_learn_79 : decode cX6_learn 79 = .ok (.goto (-35), 3) := by decide +kernel
theorem dX6_learn_82 : decode cX6_learn 82 = .ok (.iload 4, 2) := by decide +kernel
theorem dX6_learn_84 : decode cX6_learn 84 = .ok (.ireturn, 1) := by decide +kernel
theorem dX6_hitsWith_0 : decode cX6_hitsWith 0 = .ok (.aload_n 0, 1) := by decide +kernel
theorem dX6_hitsWith_1 : decode cX6_hitsWith 1 = .ok (.getfield 56, 3) := by decide +kernel
theorem dX6_hitsWith_4 : decode cX6_hitsWith 4 = .ok (.aload_n 0, 1) := by decide +kernel
theorem dX6_hitsWith_5 : decode cX6_hitsWith 5 = .ok (.getfield 52, 3) := by decide +kernel
theorem dX6_hitsWith_8 : decode cX6_hitsWith 8 = .ok (.invokevirtual 176, 3) := by decide +kernel
theorem dX6_hitsWith_11 : decode cX6_hitsWith 11 = .ok (.aload_n 0, 1) := by decide +kernel
theorem dX6_hitsWith_12 : decode cX6_hitsWith 12 = .ok (.getfield 56, 3) := by decide +kernel
theorem dX6_hitsWith_15 : decode cX6_hitsWith 15 = .ok (.iload_n 1, 1) := by decide +kernel
theorem dX6_hitsWith_16 : decode cX6_hitsWith 16 = .ok (.putfield 147, 3) := by decide +kernel
theorem dX6_hitsWith_19 : decode cX6_hitsWith 19 = .ok (.iconst 0, 1) := by decide +kernel
theorem dX6_hitsWith_20 : decode cX6_hitsWith 20 = .ok (.istore 4, 2) := by decide +kernel
theorem dX6_hitsWith_22 : decode cX6_hitsWith 22 = .ok (.iconst 0, 1) := by decide +kernel
theorem dX6_hitsWith_23 : decode cX6_hitsWith 23 = .ok (.istore 5, 2) := by decide +kernel
theorem dX6_hitsWith_25 : decode cX6_hitsWith 25 = .ok (.iload 5, 2) := by decide +kernel
theorem dX6_hitsWith_27 : decode cX6_hitsWith 27 = .ok (.aload_n 2, 1) := by decide +kernel
theorem dX6_hitsWith_28 : decode cX6_hitsWith 28 = .ok (.getfield 214, 3) := by decide +kernel
theorem dX6_hitsWith_31 : decode cX6_hitsWith 31 = .ok (.if_icmp .ge 49, 3) := by decide +kernel
theorem dX6_hitsWith_34 : decode cX6_hitsWith 34 = .ok (.aload_n 0, 1) := by decide +kernel
theorem dX6_hitsWith_35 : decode cX6_hitsWith 35 = .ok (.getfield 56, 3) := by decide +kernel
theorem dX6_hitsWith_38 : decode cX6_hitsWith 38 = .ok (.invokevirtual 167, 3) := by decide +kernel
theorem dX6_hitsWith_41 : decode cX6_hitsWith 41 = .ok (.pop, 1) := by decide +kernel
theorem dX6_hitsWith_42 : decode cX6_hitsWith 42 = .ok (.iload 4, 2) := by decide +kernel
theorem dX6_hitsWith_44 : decode cX6_hitsWith 44 = .ok (.aload_n 2, 1) := by decide +kernel
theorem dX6_hitsWith_45 : decode cX6_hitsWith 45 = .ok (.getfield 217, 3) := by decide +kernel
theorem dX6_hitsWith_48 : decode cX6_hitsWith 48 = .ok (.iload 5, 2) := by decide +kernel
theorem dX6_hitsWith_50 : decode cX6_hitsWith 50 = .ok (.iaload, 1) := by decide +kernel
theorem dX6_hitsWith_51 : decode cX6_hitsWith 51 = .ok (.aload_n 0, 1) := by decide +kernel
theorem dX6_hitsWith_52 : decode cX6_hitsWith 52 = .ok (.getfield 56, 3) := by decide +kernel
theorem dX6_hitsWith_55 : decode cX6_hitsWith 55 = .ok (.getfield 87, 3) := by decide +kernel
theorem dX6_hitsWith_58 : decode cX6_hitsWith 58 = .ok (.iload_n 3, 1) := by decide +kernel
theorem dX6_hitsWith_59 : decode cX6_hitsWith 59 = .ok (.aaload, 1) := by decide +kernel
theorem dX6_hitsWith_60 : decode cX6_hitsWith 60 = .ok (.getfield 105, 3) := by decide +kernel
theorem dX6_hitsWith_63 : decode cX6_hitsWith 63 = .ok (.if_icmp .ne 7, 3) := by decide +kernel
theorem dX6_hitsWith_66 : decode cX6_hitsWith 66 = .ok (.iconst 1, 1) := by decide +kernel
theorem dX6_hitsWith_67 : decode cX6_hitsWith 67 = .ok (.goto 4, 3) := by decide +kernel
theorem dX6_hitsWith_70 : decode cX6_hitsWith 70 = .ok (.iconst 0, 1) := by decide +kernel
theorem dX6_hitsWith_71 : decode cX6_hitsWith 71 = .ok (.iadd, 1) := by decide +kernel
theorem dX6_hitsWith_72 : decode cX6_hitsWith 72 = .ok (.istore 4, 2) := by decide +kernel
theorem dX6_hitsWith_74 : decode cX6_hitsWith 74 = .ok (.iinc 5 1, 3) := by decide +kernel
theorem dX6_hitsWith_77 : decode cX6_hitsWith 77 = .ok (.goto (-52), 3) := by decide +kernel
theorem dX6_hitsWith_80 : decode cX6_hitsWith 80 = .ok (.iload 4, 2) := by decide +kernel
theorem dX6_hitsWith_82 : decode cX6_hitsWith 82 = .ok (.ireturn, 1) := by decide +kernel
theorem dX6_feed_0 : decode cX6_feed 0 = .ok (.aload_n 0, 1) := by decide +kernel
theorem dX6_feed_1 : decode cX6_feed 1 = .ok (.getfield 36, 3) := by decide +kernel
theorem dX6_feed_4 : decode cX6_feed 4 = .ok (.getfield 220, 3) := by decide +kernel
theorem dX6_feed_7 : decode cX6_feed 7 = .ok (.bipush 12, 2) := by decide +kernel
theorem dX6_feed_9 : decode cX6_feed 9 = .ok (.iadd, 1) := by decide +kernel
theorem dX6_feed_10 : decode cX6_feed 10 = .ok (.bipush 96, 2) := by decide +kernel
theorem dX6_feed_12 : decode cX6_feed 12 = .ok (.if_icmp .le 6, 3) := by decide +kernel
theorem dX6_feed_15 : decode cX6_feed 15 = .ok (.ldc 79, 2) := by decide +kernel
theorem dX6_feed_17 : decode cX6_feed 17 = .ok (.ireturn, 1) := by decide +kernel
theorem dX6_feed_18 : decode cX6_feed 18 = .ok (.aload_n 0, 1) := by decide +kernel
theorem dX6_feed_19 : decode cX6_feed 19 = .ok (.getfield 36, 3) := by decide +kernel
theorem dX6_feed_22 : decode cX6_feed 22 = .ok (.iload_n 1, 1) := by decide +kernel
theorem dX6_feed_23 : decode cX6_feed 23 = .ok (.invokevirtual 221, 3) := by decide +kernel
theorem dX6_feed_26 : decode cX6_feed 26 = .ok (.aload_n 0, 1) := by decide +kernel
theorem dX6_feed_27 : decode cX6_feed 27 = .ok (.getfield 36, 3) := by decide +kernel
theorem dX6_feed_30 : decode cX6_feed 30 = .ok (.iload_n 2, 1) := by decide +kernel
theorem dX6_feed_31 : decode cX6_feed 31 = .ok (.invokevirtual 221, 3) := by decide +kernel
theorem dX6_feed_34 : decode cX6_feed 34 = .ok (.aload_n 0, 1) := by decide +kernel
theorem dX6_feed_35 : decode cX6_feed 35 = .ok (.getfield 36, 3) := by decide +kernel
theorem dX6_feed_38 : decode cX6_feed 38 = .ok (.iload_n 3, 1) := by decide +kernel
theorem dX6_feed_39 : decode cX6_feed 39 = .ok (.invokevirtual 221, 3) := by decide +kernel
theorem dX6_feed_42 : decode cX6_feed 42 = .ok (.aload_n 0, 1) := by decide +kernel
theorem dX6_feed_43 : decode cX6_feed 43 = .ok (.getfield 36, 3) := by decide +kernel
theorem dX6_feed_46 : decode cX6_feed 46 = .ok (.getfield 220, 3) := by decide +kernel
theorem dX6_feed_49 : decode cX6_feed 49 = .ok (.ireturn, 1) := by decide +kernel
theorem dX6_trim_0 : decode cX6_trim 0 = .ok (.iload_n 1, 1) := by decide +kernel
theorem dX6_trim_1 : decode cX6_trim 1 = .ok (.iconst 0, 1) := by decide +kernel
theorem dX6_trim_2 : decode cX6_trim 2 = .ok (.aload_n 0, 1) := by decide +kernel
theorem dX6_trim_3 : decode cX6_trim 3 = .ok (.getfield 36, 3) := by decide +kernel
theorem dX6_trim_6 : decode cX6_trim 6 = .ok (.getfield 220, 3) := by decide +kernel
theorem dX6_trim_9 : decode cX6_trim 9 = .ok (.invokestatic 71, 3) := by decide +kernel
theorem dX6_trim_12 : decode cX6_trim 12 = .ok (.ifCond .ne 6, 3) := by decide +kernel
theorem dX6_trim_15 : decode cX6_trim 15 = .ok (.ldc 75, 2) := by decide +kernel
theorem dX6_trim_17 : decode cX6_trim 17 = .ok (.ireturn, 1) := by decide +kernel
theorem dX6_trim_18 : decode cX6_trim 18 = .ok (.aload_n 0, 1) := by decide +kernel
theorem dX6_trim_19 : decode cX6_trim 19 = .ok (.getfield 36, 3) := by decide +kernel
theorem dX6_trim_22 : decode cX6_trim 22 = .ok (.iload_n 1, 1) := by decide +kernel
theorem dX6_trim_23 : decode cX6_trim 23 = .ok (.putfield 220, 3) := by decide +kernel
theorem dX6_trim_26 : decode cX6_trim 26 = .ok (.iload_n 1, 1) := by decide +kernel
theorem dX6_trim_27 : decode cX6_trim 27 = .ok (.ireturn, 1) := by decide +kernel
theorem dX6_text_0 : decode cX6_text 0 = .ok (.aload_n 0, 1) := by decide +kernel
theorem dX6_text_1 : decode cX6_text 1 = .ok (.getfield 36, 3) := by decide +kernel
theorem dX6_text_4 : decode cX6_text 4 = .ok (.invokevirtual 225, 3) := by decide +kernel
theorem dX6_text_7 : decode cX6_text 7 = .ok (.istore_n 1, 1) := by decide +kernel
theorem dX6_text_8 : decode cX6_text 8 = .ok (.aload_n 0, 1) := by decide +kernel
theorem dX6_text_9 : decode cX6_text 9 = .ok (.getfield 36, 3) := by decide +kernel
theorem dX6_text_12 : decode cX6_text 12 = .ok (.iconst 0, 1) := by decide +kernel
theorem dX6_text_13 : decode cX6_text 13 = .ok (.putfield 220, 3) := by decide +kernel
theorem dX6_text_16 : decode cX6_text 16 = .ok (.iload_n 1, 1) := by decide +kernel
theorem dX6_text_17 : decode cX6_text 17 = .ok (.ifCond .lt 8, 3) := by decide +kernel
theorem dX6_text_20 : decode cX6_text 20 = .ok (.bipush (-100), 2) := by decide +kernel
theorem dX6_text_22 : decode cX6_text 22 = .ok (.iload_n 1, 1) := by decide +kernel
theorem dX6_text_23 : decode cX6_text 23 = .ok (.isub, 1) := by decide +kernel
theorem dX6_text_24 : decode cX6_text 24 = .ok (.ireturn, 1) := by decide +kernel
theorem dX6_text_25 : decode cX6_text 25 = .ok (.aload_n 0, 1) := by decide +kernel
theorem dX6_text_26 : decode cX6_text 26 = .ok (.getfield 52, 3) := by decide +kernel
theorem dX6_text_29 : decode cX6_text 29 = .ok (.getfield 228, 3) := by decide +kernel
theorem dX6_text_32 : decode cX6_text 32 = .ok (.istore_n 2, 1) := by decide +kernel
theorem dX6_text_33 : decode cX6_text 33 = .ok (.iload_n 2, 1) := by decide +kernel
theorem dX6_text_34 : decode cX6_text 34 = .ok (.bipush 14, 2) := by decide +kernel
theorem dX6_text_36 : decode cX6_text 36 = .ok (.if_icmp .lt 6, 3) := by decide +kernel
theorem dX6_text_39 : decode cX6_text 39 = .ok (.ldc 79, 2) := by decide +kernel
theorem dX6_text_41 : decode cX6_text 41 = .ok (.ireturn, 1) := by decide +kernel
theorem dX6_text_42 : decode cX6_text 42 = .ok (.aload_n 0, 1) := by decide +kernel
theorem dX6_text_43 : decode cX6_text 43 = .ok (.getfield 36, 3) := by decide +kernel
theorem dX6_text_46 : decode cX6_text 46 = .ok (.getfield 231, 3) := by decide +kernel
theorem dX6_text_49 : decode cX6_text 49 = .ok (.astore_n 3, 1) := by decide +kernel
theorem dX6_text_50 : decode cX6_text 50 = .ok (.aload_n 0, 1) := by decide +kernel
theorem dX6_text_51 : decode cX6_text 51 = .ok (.getfield 36, 3) := by decide +kernel
theorem dX6_text_54 : decode cX6_text 54 = .ok (.aload_n 0, 1) := by decide +kernel
theorem dX6_text_55 : decode cX6_text 55 = .ok (.getfield 43, 3) := by decide +kernel
theorem dX6_text_58 : decode cX6_text 58 = .ok (.iload_n 2, 1) := by decide +kernel
theorem dX6_text_59 : decode cX6_text 59 = .ok (.aaload, 1) := by decide +kernel
theorem dX6_text_60 : decode cX6_text 60 = .ok (.putfield 231, 3) := by decide +kernel
theorem dX6_text_63 : decode cX6_text 63 = .ok (.aload_n 0, 1) := by decide +kernel
theorem dX6_text_64 : decode cX6_text 64 = .ok (.getfield 43, 3) := by decide +kernel
theorem dX6_text_67 : decode cX6_text 67 = .ok (.iload_n 2, 1) := by decide +kernel
theorem dX6_text_68 : decode cX6_text 68 = .ok (.aload_n 3, 1) := by decide +kernel
theorem dX6_text_69 : decode cX6_text 69 = .ok (.aastore, 1) := by decide +kernel
theorem dX6_text_70 : decode cX6_text 70 = .ok (.aload_n 0, 1) := by decide +kernel
theorem dX6_text_71 : decode cX6_text 71 = .ok (.getfield 52, 3) := by decide +kernel
theorem dX6_text_74 : decode cX6_text 74 = .ok (.getfield 235, 3) := by decide +kernel
theorem dX6_text_77 : decode cX6_text 77 = .ok (.aload_n 3, 1) := by decide +kernel
theorem dX6_text_78 : decode cX6_text 78 = .ok (.getfield 238, 3) := by decide +kernel
theorem dX6_text_81 : decode cX6_text 81 = .ok (.iload_n 2, 1) := by decide +kernel
theorem dX6_text_82 : decode cX6_text 82 = .ok (.iastore, 1) := by decide +kernel
theorem dX6_text_83 : decode cX6_text 83 = .ok (.aload_n 0, 1) := by decide +kernel
theorem dX6_text_84 : decode cX6_text 84 = .ok (.getfield 52, 3) := by decide +kernel
theorem dX6_text_87 : decode cX6_text 87 = .ok (.iload_n 2, 1) := by decide +kernel
theorem dX6_text_88 : decode cX6_text 88 = .ok (.iconst 1, 1) := by decide +kernel
theorem dX6_text_89 : decode cX6_text 89 = .ok (.iadd, 1) := by decide +kernel
theorem dX6_text_90 : decode cX6_text 90 = .ok (.putfield 228, 3) := by decide +kernel
theorem dX6_text_93 : decode cX6_text 93 = .ok (.iload_n 2, 1) := by decide +kernel
theorem dX6_text_94 : decode cX6_text 94 = .ok (.ireturn, 1) := by decide +kernel
theorem dX6_textTold_0 : decode cX6_textTold 0 = .ok (.iload_n 1, 1) := by decide +kernel
theorem dX6_textTold_1 : decode cX6_textTold 1 = .ok (.iconst 0, 1) := by decide +kernel
theorem dX6_textTold_2 : decode cX6_textTold 2 = .ok (.aload_n 0, 1) := by decide +kernel
theorem dX6_textTold_3 : decode cX6_textTold 3 = .ok (.getfield 52, 3) := by decide +kernel
theorem dX6_textTold_6 : decode cX6_textTold 6 = .ok (.getfield 228, 3) := by decide +kernel
theorem dX6_textTold_9 : decode cX6_textTold 9 = .ok (.iconst 1, 1) := by decide +kernel
theorem dX6_textTold_10 : decode cX6_textTold 10 = .ok (.isub, 1) := by decide +kernel
theorem dX6_textTold_11 : decode cX6_textTold 11 = .ok (.invokestatic 71, 3) := by decide +kernel
theorem dX6_textTold_14 : decode cX6_textTold 14 = .ok (.ifCond .eq 12, 3) := by decide +kernel
theorem dX6_textTold_17 : decode cX6_textTold 17 = .ok (.iload_n 2, 1) := by decide +kernel
theorem dX6_textTold_18 : decode cX6_textTold 18 = .ok (.iconst 0, 1) := by decide +kernel
theorem dX6_textTold_19 : decode cX6_textTold 19 = .ok (.iconst 1, 1) := by decide +kernel
theorem dX6_textTold_20 : decode cX6_textTold 20 = .ok (.invokestatic 71, 3) := by decide +kernel
theorem dX6_textTold_23 : decode cX6_textTold 23 = .ok (.ifCond .ne 6, 3) := by decide +kernel
theorem dX6_textTold_26 : decode cX6_textTold 26 = .ok (.ldc 75, 2) := by decide +kernel
theorem dX6_textTold_28 : decode cX6_textTold 28 = .ok (.ireturn, 1) := by decide +kernel
theorem dX6_textTold_29 : decode cX6_textTold 29 = .ok (.iload_n 2, 1) := by decide +kernel
theorem dX6_textTold_30 : decode cX6_textTold 30 = .ok (.ifCond .ne 15, 3) := by decide +kernel
theorem dX6_textTold_33 : decode cX6_textTold 33 = .ok (.aload_n 0, 1) := by decide +kernel
theorem dX6_textTold_34 : decode cX6_textTold 34 = .ok (.getfield 43, 3) := by decide +kernel
theorem dX6_textTold_37 : decode cX6_textTold 37 = .ok (.iload_n 1, 1) := by decide +kernel
theorem dX6_textTold_38 : decode cX6_textTold 38 = .ok (.aaload, 1) := by decide +kernel
theorem dX6_textTold_39 : decode cX6_textTold 39 = .ok (.getfield 238, 3) := by decide +kernel
theorem dX6_textTold_42 : decode cX6_textTold 42 = .ok (.goto 12, 3) := by decide +kernel
theorem dX6_textTold_45 : decode cX6_textTold 45 = .ok (.aload_n 0, 1) := by decide +kernel
theorem dX6_textTold_46 : decode cX6_textTold 46 = .ok (.getfield 43, 3) := by decide +kernel
theorem dX6_textTold_49 : decode cX6_textTold 49 = .ok (.iload_n 1, 1) := by decide +kernel
theorem dX6_textTold_50 : decode cX6_textTold 50 = .ok (.aaload, 1) := by decide +kernel
theorem dX6_textTold_51 : decode cX6_textTold 51 = .ok (.getfield 241, 3) := by decide +kernel
theorem dX6_textTold_54 : decode cX6_textTold 54 = .ok (.ireturn, 1) := by decide +kernel
theorem dX6_why_0 : decode cX6_why 0 = .ok (.iload_n 1, 1) := by decide +kernel
theorem dX6_why_1 : decode cX6_why 1 = .ok (.iconst 0, 1) := by decide +kernel
theorem dX6_why_2 : decode cX6_why 2 = .ok (.iconst 2, 1) := by decide +kernel
theorem dX6_why_3 : decode cX6_why 3 = .ok (.invokestatic 71, 3) := by decide +kernel
theorem dX6_why_6 : decode cX6_why 6 = .ok (.ifCond .ne 6, 3) := by decide +kernel
theorem dX6_why_9 : decode cX6_why 9 = .ok (.ldc 75, 2) := by decide +kernel
theorem dX6_why_11 : decode cX6_why 11 = .ok (.ireturn, 1) := by decide +kernel
theorem dX6_why_12 : decode cX6_why 12 = .ok (.aload_n 0, 1) := by decide +kernel
theorem dX6_why_13 : decode cX6_why 13 = .ok (.getfield 52, 3) := by decide +kernel
theorem dX6_why_16 : decode cX6_why 16 = .ok (.getfield 235, 3) := by decide +kernel
theorem dX6_why_19 : decode cX6_why 19 = .ok (.iload_n 1, 1) := by decide +kernel
theorem dX6_why_20 : decode cX6_why 20 = .ok (.iaload, 1) := by decide +kernel
theorem dX6_why_21 : decode cX6_why 21 = .ok (.ifCond .ge 8, 3) := by decide +kernel
theorem dX6_why_24 : decode cX6_why 24 = .ok (.ldc 183, 2) := by decide +kernel
theorem dX6_why_26 : decode cX6_why 26 = .ok (.goto 12, 3) := by decide +kernel
theorem dX6_why_29 : decode cX6_why 29 = .ok (.aload_n 0, 1) := by decide +kernel
theorem dX6_why_30 : decode cX6_why 30 = .ok (.getfield 52, 3) := by decide +kernel
theorem dX6_why_33 : decode cX6_why 33 = .ok (.getfield 235, 3) := by decide +kernel
theorem dX6_why_36 : decode cX6_why 36 = .ok (.iload_n 1, 1) := by decide +kernel
theorem dX6_why_37 : decode cX6_why 37 = .ok (.iaload, 1) := by decide +kernel
theorem dX6_why_38 : decode cX6_why 38 = .ok (.ireturn, 1) := by decide +kernel
theorem dX6_sheet_0 : decode cX6_sheet 0 = .ok (.iload_n 1, 1) := by decide +kernel
theorem dX6_sheet_1 : decode cX6_sheet 1 = .ok (.invokestatic 202, 3) := by decide +kernel
theorem dX6_sheet_4 : decode cX6_sheet 4 = .ok (.ifCond .eq 12, 3) := by decide +kernel
theorem dX6_sheet_7 : decode cX6_sheet 7 = .ok (.iload_n 2, 1) := by decide +kernel
theorem dX6_sheet_8 : decode cX6_sheet 8 = .ok (.iconst (-1), 1) := by decide +kernel
theorem dX6_sheet_9 : decode cX6_sheet 9 = .ok (.iconst 1, 1) := by decide +kernel
theorem dX6_sheet_10 : decode cX6_sheet 10 = .ok (.invokestatic 71, 3) := by decide +kernel
theorem dX6_sheet_13 : decode cX6_sheet 13 = .ok (.ifCond .ne 6, 3) := by decide +kernel
theorem dX6_sheet_16 : decode cX6_sheet 16 = .ok (.ldc 75, 2) := by decide +kernel
theorem dX6_sheet_18 : decode cX6_sheet 18 = .ok (.ireturn, 1) := by decide +kernel
theorem dX6_sheet_19 : decode cX6_sheet 19 = .ok (.iload_n 2, 1) := by decide +kernel
theorem dX6_sheet_20 : decode cX6_sheet 20 = .ok (.iconst (-1), 1) := by decide +kernel
theorem dX6_sheet_21 : decode cX6_sheet 21 = .ok (.if_icmp .ne 7, 3) := by decide +kernel
theorem dX6_sheet_24 : decode cX6_sheet 24 = .ok (.iconst 0, 1) := by decide +kernel
theorem dX6_sheet_25 : decode cX6_sheet 25 = .ok (.goto 4, 3) := by decide +kernel
theorem dX6_sheet_28 : decode cX6_sheet 28 = .ok (.iload_n 3, 1) := by decide +kernel
theorem dX6_sheet_29 : decode cX6_sheet 29 = .ok (.istore 4, 2) := by decide +kernel
theorem dX6_sheet_31 : decode cX6_sheet 31 = .ok (.iload 4, 2) := by decide +kernel
theorem dX6_sheet_33 : decode cX6_sheet 33 = .ok (.bipush 24, 2) := by decide +kernel
theorem dX6_sheet_35 : decode cX6_sheet 35 = .ok (.if_icmp .le 6, 3) := by decide +kernel
theorem dX6_sheet_38 : decode cX6_sheet 38 = .ok (.ldc 75, 2) := by decide +kernel
theorem dX6_sheet_40 : decode cX6_sheet 40 = .ok (.ireturn, 1) := by decide +kernel
theorem dX6_sheet_41 : decode cX6_sheet 41 = .ok (.iload 4, 2) := by decide +kernel
theorem dX6_sheet_43 : decode cX6_sheet 43 = .ok (.ifCond .ge 6, 3) := by decide +kernel
theorem dX6_sheet_46 : decode cX6_sheet 46 = .ok (.ldc 244, 2) := by decide +kernel
theorem dX6_sheet_48 : decode cX6_sheet 48 = .ok (.ireturn, 1) := by decide +kernel
theorem dX6_sheet_49 : decode cX6_sheet 49 = .ok (.aload_n 0, 1) := by decide +kernel
theorem dX6_sheet_50 : decode cX6_sheet 50 = .ok (.getfield 15, 3) := by decide +kernel
theorem dX6_sheet_53 : decode cX6_sheet 53 = .ok (.iload_n 1, 1) := by decide +kernel
theorem dX6_sheet_54 : decode cX6_sheet 54 = .ok (.aaload, 1) := by decide +kernel
theorem dX6_sheet_55 : decode cX6_sheet 55 = .ok (.iload_n 2, 1) := by decide +kernel
theorem dX6_sheet_56 : decode cX6_sheet 56 = .ok (.iload 4, 2) := by decide +kernel
theorem dX6_sheet_58 : decode cX6_sheet 58 = .ok (.invokevirtual 245, 3) := by decide +kernel
theorem dX6_sheet_61 : decode cX6_sheet 61 = .ok (.iload 4, 2) := by decide +kernel
theorem dX6_sheet_63 : decode cX6_sheet 63 = .ok (.ireturn, 1) := by decide +kernel
theorem dX6_mark_0 : decode cX6_mark 0 = .ok (.iload_n 1, 1) := by decide +kernel
theorem dX6_mark_1 : decode cX6_mark 1 = .ok (.invokestatic 202, 3) := by decide +kernel
theorem dX6_mark_4 : decode cX6_mark 4 = .ok (.ifCond .ne 6, 3) := by decide +kernel
theorem dX6_mark_7 : decode cX6_mark 7 = .ok (.ldc 75, 2) := by decide +kernel
theorem dX6_mark_9 : decode cX6_mark 9 = .ok (.ireturn, 1) := by decide +kernel
theorem dX6_mark_10 : decode cX6_mark 10 = .ok (.aload_n 0, 1) := by decide +kernel
theorem dX6_mark_11 : decode cX6_mark 11 = .ok (.getfield 15, 3) := by decide +kernel
theorem dX6_mark_14 : decode cX6_mark 14 = .ok (.iload_n 1, 1) := by decide +kernel
theorem dX6_mark_15 : decode cX6_mark 15 = .ok (.aaload, 1) := by decide +kernel
theorem dX6_mark_16 : decode cX6_mark 16 = .ok (.astore 4, 2) := by decide +kernel
theorem dX6_mark_18 : decode cX6_mark 18 = .ok (.aload 4, 2) := by decide +kernel
theorem dX6_mark_20 : decode cX6_mark 20 = .ok (.invokevirtual 205, 3) := by decide +kernel
theorem dX6_mark_23 : decode cX6_mark 23 = .ok (.ifCond .eq 6, 3) := by decide +kernel
theorem dX6_mark_26 : decode cX6_mark 26 = .ok (.ldc 209, 2) := by decide +kernel
theorem dX6_mark_28 : decode cX6_mark 28 = .ok (.ireturn, 1) := by decide +kernel
theorem dX6_mark_29 : decode cX6_mark 29 = .ok (.aload 4, 2) := by decide +kernel
theorem dX6_mark_31 : decode cX6_mark 31 = .ok (.iload_n 2, 1) := by decide +kernel
theorem dX6_mark_32 : decode cX6_mark 32 = .ok (.invokevirtual 249, 3) := by decide +kernel
theorem dX6_mark_35 : decode cX6_mark 35 = .ok (.ifCond .ne 6, 3) := by decide +kernel
theorem dX6_mark_38 : decode cX6_mark 38 = .ok (.ldc 252, 2) := by decide +kernel
theorem dX6_mark_40 : decode cX6_mark 40 = .ok (.ireturn, 1) := by decide +kernel
theorem dX6_mark_41 : decode cX6_mark 41 = .ok (.aload 4, 2) := by decide +kernel
theorem dX6_mark_43 : decode cX6_mark 43 = .ok (.getfield 253, 3) := by decide +kernel
theorem dX6_mark_46 : decode cX6_mark 46 = .ok (.ifCond .ne 12, 3) := by decide +kernel
theorem dX6_mark_49 : decode cX6_mark 49 = .ok (.iload_n 3, 1) := by decide +kernel
theorem dX6_mark_50 : decode cX6_mark 50 = .ok (.ldc 183, 2) := by decide +kernel
theorem dX6_mark_52 : decode cX6_mark 52 = .ok (.if_icmp .ne 6, 3) := by decide +kernel
theorem dX6_mark_55 : decode cX6_mark 55 = .ok (.ldc 128, 2) := by decide +kernel
theorem dX6_mark_57 : decode cX6_mark 57 = .ok (.ireturn, 1) := by decide +kernel
theorem dX6_mark_58 : decode cX6_mark 58 = .ok (.aload 4, 2) := by decide +kernel
theorem dX6_mark_60 : decode cX6_mark 60 = .ok (.getfield 253, 3) := by decide +kernel
theorem dX6_mark_63 : decode cX6_mark 63 = .ok (.iconst 1, 1) := by decide +kernel
theorem dX6_mark_64 : decode cX6_mark 64 = .ok (.if_icmp .ne 25, 3) := by decide +kernel
theorem dX6_mark_67 : decode cX6_mark 67 = .ok (.iload_n 3, 1) := by decide +kernel
theorem dX6_mark_68 : decode cX6_mark 68 = .ok (.ldc 183, 2) := by decide +kernel
theorem dX6_mark_70 : decode cX6_mark 70 = .ok (.if_icmp .eq 19, 3) := by decide +kernel
theorem dX6_mark_73 : decode cX6_mark 73 = .ok (.iload_n 3, 1) := by decide +kernel
theorem dX6_mark_74 : decode cX6_mark 74 = .ok (.ldc_w 256, 3) := by decide +kernel
theorem dX6_mark_77 : decode cX6_mark 77 = .ok (.ldc_w 257, 3) := by decide +kernel
theorem dX6_mark_80 : decode cX6_mark 80 = .ok (.invokestatic 71, 3) := by decide +kernel
theorem dX6_mark_83 : decode cX6_mark 83 = .ok (.ifCond .ne 6, 3) := by decide +kernel
theorem dX6_mark_86 : decode cX6_mark 86 = .ok (.ldc 75, 2) := by decide +kernel
theorem dX6_mark_88 : decode cX6_mark 88 = .ok (.ireturn, 1) := by decide +kernel
theorem dX6_mark_89 : decode cX6_mark 89 = .ok (.aload 4, 2) := by decide +kernel
theorem dX6_mark_91 : decode cX6_mark 91 = .ok (.getfield 217, 3) := by decide +kernel
theorem dX6_mark_94 : decode cX6_mark 94 = .ok (.iload_n 2, 1) := by decide +kernel
theorem dX6_mark_95 : decode cX6_mark 95 = .ok (.aload 4, 2) := by decide +kernel
theorem dX6_mark_97 : decode cX6_mark 97 = .ok (.getfield 253, 3) := by decide +kernel
theorem dX6_mark_100 : decode cX6_mark 100 = .ok (.ifCond .ne 8, 3) := by decide +kernel
theorem dX6_mark_103 : decode cX6_mark 103 = .ok (.iload_n 3, 1) := by decide +kernel
theorem dX6_mark_104 : decode cX6_mark 104 = .ok (.i2s, 1) := by decide +kernel
theorem dX6_mark_105 : decode cX6_mark 105 = .ok (.goto 4, 3) := by decide +kernel
theorem dX6_mark_108 : decode cX6_mark 108 = .ok (.iload_n 3, 1) := by decide +kernel
theorem dX6_mark_109 : decode cX6_mark 109 = .ok (.iastore, 1) := by decide +kernel
theorem dX6_mark_110 : decode cX6_mark 110 = .ok (.iconst 1, 1) := by decide +kernel
theorem dX6_mark_111 : decode cX6_mark 111 = .ok (.ireturn, 1) := by decide +kernel
theorem dX6_pour_0 : decode cX6_pour 0 = .ok (.iload_n 1, 1) := by decide +kernel
theorem dX6_pour_1 : decode cX6_pour 1 = .ok (.invokestatic 202, 3) := by decide +kernel
theorem dX6_pour_4 : decode cX6_pour 4 = .ok (.ifCond .ne 6, 3) := by decide +kernel
theorem dX6_pour_7 : decode cX6_pour 7 = .ok (.ldc 75, 2) := by decide +kernel
theorem dX6_pour_9 : decode cX6_pour 9 = .ok (.ireturn, 1) := by decide +kernel
theorem dX6_pour_10 : decode cX6_pour 10 = .ok (.aload_n 0, 1) := by decide +kernel
theorem dX6_pour_11 : decode cX6_pour 11 = .ok (.getfield 15, 3) := by decide +kernel
theorem dX6_pour_14 : decode cX6_pour 14 = .ok (.iload_n 1, 1) := by decide +kernel
theorem dX6_pour_15 : decode cX6_pour 15 = .ok (.aaload, 1) := by decide +kernel
theorem dX6_pour_16 : decode cX6_pour 16 = .ok (.astore_n 2, 1) := by decide +kernel
theorem dX6_pour_17 : decode cX6_pour 17 = .ok (.aload_n 2, 1) := by decide +kernel
theorem dX6_pour_18 : decode cX6_pour 18 = .ok (.invokevirtual 205, 3) := by decide +kernel
theorem dX6_pour_21 : decode cX6_pour 21 = .ok (.ifCond .eq 6, 3) := by decide +kernel
theorem dX6_pour_24 : decode cX6_pour 24 = .ok (.ldc 209, 2) := by decide +kernel
theorem dX6_pour_26 : decode cX6_pour 26 = .ok (.ireturn, 1) := by decide +kernel
theorem dX6_pour_27 : decode cX6_pour 27 = .ok (.iconst 0, 1) := by decide +kernel
theorem dX6_pour_28 : decode cX6_pour 28 = .ok (.istore_n 3, 1) := by decide +kernel
theorem dX6_pour_29 : decode cX6_pour 29 = .ok (.iconst 0, 1) := by decide +kernel
theorem dX6_pour_30 : decode cX6_pour 30 = .ok (.istore 4, 2) := by decide +kernel
theorem dX6_pour_32 : decode cX6_pour 32 = .ok (.iload 4, 2) := by decide +kernel
theorem dX6_pour_34 : decode cX6_pour 34 = .ok (.aload_n 0, 1) := by decide +kernel
theorem dX6_pour_35 : decode cX6_pour 35 = .ok (.getfield 52, 3) := by decide +kernel
theorem dX6_pour_38 : decode cX6_pour 38 = .ok (.getfield 76, 3) := by decide +kernel
theorem dX6_pour_41 : decode cX6_pour 41 = .ok (.if_icmp .ge 71, 3) := by decide +kernel
theorem dX6_pour_44 : decode cX6_pour 44 = .ok (.aload_n 2, 1) := by decide +kernel
theorem dX6_pour_45 : decode cX6_pour 45 = .ok (.iload 4, 2) := by decide +kernel
theorem dX6_pour_47 : decode cX6_pour 47 = .ok (.invokevirtual 249, 3) := by decide +kernel
theorem dX6_pour_50 : decode cX6_pour 50 = .ok (.ifCond .eq 62, 3) := by decide +kernel
theorem dX6_pour_53 : decode cX6_pour 53 = .ok (.aload_n 2, 1) := by decide +kernel
theorem dX6_pour_54 : decode cX6_pour 54 = .ok (.getfield 217, 3) := by decide +kernel
theorem dX6_pour_57 : decode cX6_pour 57 = .ok (.iload 4, 2) := by decide +kernel
theorem dX6_pour_59 : decode cX6_pour 59 = .ok (.iaload, 1) := by decide +kernel
theorem dX6_pour_60 : decode cX6_pour 60 = .ok (.istore 5, 2) := by decide +kernel
theorem dX6_pour_62 : decode cX6_pour 62 = .ok (.iload 5, 2) := by decide +kernel
theorem dX6_pour_64 : decode cX6_pour 64 = .ok (.invokestatic 129, 3) := by decide +kernel
theorem dX6_pour_67 : decode cX6_pour 67 = .ok (.ifCond .eq 39, 3) := by decide +kernel
theorem dX6_pour_70 : decode cX6_pour 70 = .ok (.iload 5, 2) := by decide +kernel
theorem dX6_pour_72 : decode cX6_pour 72 = .ok (.aload_n 0, 1) := by decide +kernel
theorem dX6_pour_73 : decode cX6_pour 73 = .ok (.getfield 52, 3) := by decide +kernel
theorem dX6_pour_76 : decode cX6_pour 76 = .ok (.getfield 87, 3) := by decide +kernel
theorem dX6_pour_79 : decode cX6_pour 79 = .ok (.iload 4, 2) := by decide +kernel
theorem dX6_pour_81 : decode cX6_pour 81 = .ok (.aaload, 1) := by decide +kernel
theorem dX6_pour_82 : decode cX6_pour 82 = .ok (.getfield 105, 3) := by decide +kernel
theorem dX6_pour_85 : decode cX6_pour 85 = .ok (.if_icmp .eq 21, 3) := by decide +kernel
theorem dX6_pour_88 : decode cX6_pour 88 = .ok (.aload_n 0, 1) := by decide +kernel
theorem dX6_pour_89 : decode cX6_pour 89 = .ok (.getfield 52, 3) := by decide +kernel
theorem dX6_pour_92 : decode cX6_pour 92 = .ok (.getfield 87, 3) := by decide +kernel
theorem dX6_pour_95 : decode cX6_pour 95 = .ok (.iload 4, 2) := by decide +kernel
theorem dX6_pour_97 : decode cX6_pour 97 = .ok (.aaload, 1) := by decide +kernel
theorem dX6_pour_98 : decode cX6_pour 98 = .ok (.iload 5, 2) := by decide +kernel
theorem dX6_pour_100 : decode cX6_pour 100 = .ok (.putfield 105, 3) := by decide +kernel
theorem dX6_pour_103 : decode cX6_pour 103 = .ok (.iinc 3 1, 3) := by decide +kernel
theorem dX6_pour_106 : decode cX6_pour 106 = .ok (.iinc 4 1, 3) := by decide +kernel
theorem dX6_pour_109 : decode cX6_pour 109 = .ok (.goto (-77), 3) := by decide +kernel
theorem dX6_pour_112 : decode cX6_pour 112 = .ok (.iload_n 3, 1) := by decide +kernel
theorem dX6_pour_113 : decode cX6_pour 113 = .ok (.ireturn, 1) := by decide +kernel
theorem dX6_reads_0 : decode cX6_reads 0 = .ok (.iload_n 1, 1) := by decide +kernel
theorem dX6_reads_1 : decode cX6_reads 1 = .ok (.invokestatic 202, 3) := by decide +kernel
theorem dX6_reads_4 : decode cX6_reads 4 = .ok (.ifCond .ne 6, 3) := by decide +kernel
theorem dX6_reads_7 : decode cX6_reads 7 = .ok (.ldc 75, 2) := by decide +kernel
theorem dX6_reads_9 : decode cX6_reads 9 = .ok (.ireturn, 1) := by decide +kernel
theorem dX6_reads_10 : decode cX6_reads 10 = .ok (.aload_n 0, 1) := by decide +kernel
theorem dX6_reads_11 : decode cX6_reads 11 = .ok (.getfield 15, 3) := by decide +kernel
theorem dX6_reads_14 : decode cX6_reads 14 = .ok (.iload_n 1, 1) := by decide +kernel
theorem dX6_reads_15 : decode cX6_reads 15 = .ok (.aaload, 1) := by decide +kernel
theorem dX6_reads_16 : decode cX6_reads 16 = .ok (.astore_n 2, 1) := by decide +kernel
theorem dX6_reads_17 : decode cX6_reads 17 = .ok (.aload_n 2, 1) := by decide +kernel
theorem dX6_reads_18 : decode cX6_reads 18 = .ok (.invokevirtual 205, 3) := by decide +kernel
theorem dX6_reads_21 : decode cX6_reads 21 = .ok (.ifCond .eq 6, 3) := by decide +kernel
theorem dX6_reads_24 : decode cX6_reads 24 = .ok (.ldc 209, 2) := by decide +kernel
theorem dX6_reads_26 : decode cX6_reads 26 = .ok (.ireturn, 1) := by decide +kernel
theorem dX6_reads_27 : decode cX6_reads 27 = .ok (.iconst 0, 1) := by decide +kernel
theorem dX6_reads_28 : decode cX6_reads 28 = .ok (.istore_n 3, 1) := by decide +kernel
theorem dX6_reads_29 : decode cX6_reads 29 = .ok (.iload_n 3, 1) := by decide +kernel
theorem dX6_reads_30 : decode cX6_reads 30 = .ok (.aload_n 2, 1) := by decide +kernel
theorem dX6_reads_31 : decode cX6_reads 31 = .ok (.getfield 214, 3) := by decide +kernel
theorem dX6_reads_34 : decode cX6_reads 34 = .ok (.if_icmp .ge 51, 3) := by decide +kernel
theorem dX6_reads_37 : decode cX6_reads 37 = .ok (.aload_n 2, 1) := by decide +kernel
theorem dX6_reads_38 : decode cX6_reads 38 = .ok (.getfield 217, 3) := by decide +kernel
theorem dX6_reads_41 : decode cX6_reads 41 = .ok (.iload_n 3, 1) := by decide +kernel
theorem dX6_reads_42 : decode cX6_reads 42 = .ok (.iaload, 1) := by decide +kernel
theorem dX6_reads_43 : decode cX6_reads 43 = .ok (.istore 4, 2) := by decide +kernel
theorem dX6_reads_45 : decode cX6_reads 45 = .ok (.iload 4, 2) := by decide +kernel
theorem dX6_reads_47 : decode cX6_reads 47 = .ok (.ldc 183, 2) := by decide +kernel
theorem dX6_reads_49 : decode cX6_reads 49 = .ok (.if_icmp .eq 30, 3) := by decide +kernel
theorem dX6_reads_52 : decode cX6_reads 52 = .ok (.aload_n 0, 1) := by decide +kernel
theorem dX6_reads_53 : decode cX6_reads 53 = .ok (.iload_n 3, 1) := by decide +kernel
theorem dX6_reads_54 : decode cX6_reads 54 = .ok (.invokevirtual 84, 3) := by decide +kernel
theorem dX6_reads_57 : decode cX6_reads 57 = .ok (.ifCond .eq 20, 3) := by decide +kernel
theorem dX6_reads_60 : decode cX6_reads 60 = .ok (.iload 4, 2) := by decide +kernel
theorem dX6_reads_62 : decode cX6_reads 62 = .ok (.aload_n 0, 1) := by decide +kernel
theorem dX6_reads_63 : decode cX6_reads 63 = .ok (.getfield 52, 3) := by decide +kernel
theorem dX6_reads_66 : decode cX6_reads 66 = .ok (.getfield 87, 3) := by decide +kernel
theorem dX6_reads_69 : decode cX6_reads 69 = .ok (.iload_n 3, 1) := by decide +kernel
theorem dX6_reads_70 : decode cX6_reads 70 = .ok (.aaload, 1) := by decide +kernel
theorem dX6_reads_71 : decode cX6_reads 71 = .ok (.getfield 105, 3) := by decide +kernel
theorem dX6_reads_74 : decode cX6_reads 74 = .ok (.if_icmp .eq 5, 3) := by decide +kernel
theorem dX6_reads_77 : decode cX6_reads 77 = .ok (.iload_n 3, 1) := by decide +kernel
theorem dX6_reads_78 : decode cX6_reads 78 = .ok (.ireturn, 1) := by decide +kernel
theorem dX6_reads_79 : decode cX6_reads 79 = .ok (.iinc 3 1, 3) := by decide +kernel
theorem dX6_reads_82 : decode cX6_reads 82 = .ok (.goto (-53), 3) := by decide +kernel
theorem dX6_reads_85 : decode cX6_reads 85 = .ok (.ldc 183, 2) := by decide +kernel
theorem dX6_reads_87 : decode cX6_reads 87 = .ok (.ireturn, 1) := by decide +kernel
theorem dX6_copy_0 : decode cX6_copy 0 = .ok (.iload_n 1, 1) := by decide +kernel
theorem dX6_copy_1 : decode cX6_copy 1 = .ok (.invokestatic 202, 3) := by decide +kernel
theorem dX6_copy_4 : decode cX6_copy 4 = .ok (.ifCond .eq 10, 3) := by decide +kernel
theorem dX6_copy_7 : decode cX6_copy 7 = .ok (.iload_n 3, 1) := by decide +kernel
theorem dX6_copy_8 : decode cX6_copy 8 = .ok (.invokestatic 202, 3) := by decide +kernel
theorem dX6_copy_11 : decode cX6_copy 11 = .ok (.ifCond .ne 6, 3) := by decide +kernel
theorem dX6_copy_14 : decode cX6_copy 14 = .ok (.ldc 75, 2) := by decide +kernel
theorem dX6_copy_16 : decode cX6_copy 16 = .ok (.ireturn, 1) := by decide +kernel
theorem dX6_copy_17 : decode cX6_copy 17 = .ok (.aload_n 0, 1) := by decide +kernel
theorem dX6_copy_18 : decode cX6_copy 18 = .ok (.getfield 15, 3) := by decide +kernel
theorem dX6_copy_21 : decode cX6_copy 21 = .ok (.iload_n 1, 1) := by decide +kernel
theorem dX6_copy_22 : decode cX6_copy 22 = .ok (.aaload, 1) := by decide +kernel
theorem dX6_copy_23 : decode cX6_copy 23 = .ok (.astore 6, 2) := by decide +kernel
theorem dX6_copy_25 : decode cX6_copy 25 = .ok (.aload_n 0, 1) := by decide +kernel
theorem dX6_copy_26 : decode cX6_copy 26 = .ok (.getfield 15, 3) := by decide +kernel
theorem dX6_copy_29 : decode cX6_copy 29 = .ok (.iload_n 3, 1) := by decide +kernel
theorem dX6_copy_30 : decode cX6_copy 30 = .ok (.aaload, 1) := by decide +kernel
theorem dX6_copy_31 : decode cX6_copy 31 = .ok (.astore 7, 2) := by decide +kernel
theorem dX6_copy_33 : decode cX6_copy 33 = .ok (.aload 6, 2) := by decide +kernel
theorem dX6_copy_35 : decode cX6_copy 35 = .ok (.invokevirtual 205, 3) := by decide +kernel
theorem dX6_copy_38 : decode cX6_copy 38 = .ok (.ifCond .ne 11, 3) := by decide +kernel
theorem dX6_copy_41 : decode cX6_copy 41 = .ok (.aload 7, 2) := by decide +kernel
theorem dX6_copy_43 : decode cX6_copy 43 = .ok (.invokevirtual 205, 3) := by decide +kernel
theorem dX6_copy_46 : decode cX6_copy 46 = .ok (.ifCond .eq 6, 3) := by decide +kernel
theorem dX6_copy_49 : decode cX6_copy 49 = .ok (.ldc 209, 2) := by decide +kernel
theorem dX6_copy_51 : decode cX6_copy 51 = .ok (.ireturn, 1) := by decide +kernel
theorem dX6_copy_52 : decode cX6_copy 52 = .ok (.aload 6, 2) := by decide +kernel
theorem dX6_copy_54 : decode cX6_copy 54 = .ok (.getfield 253, 3) := by decide +kernel
theorem dX6_copy_57 : decode cX6_copy 57 = .ok (.aload 7, 2) := by decide +kernel
theorem dX6_copy_59 : decode cX6_copy 59 = .ok (.getfield 253, 3) := by decide +kernel
theorem dX6_copy_62 : decode cX6_copy 62 = .ok (.if_icmp .eq 6, 3) := by decide +kernel
theorem dX6_copy_65 : decode cX6_copy 65 = .ok (.ldc 128, 2) := by decide +kernel
theorem dX6_copy_67 : decode cX6_copy 67 = .ok (.ireturn, 1) := by decide +kernel
theorem dX6_copy_68 : decode cX6_copy 68 = .ok (.aload 6, 2) := by decide +kernel
theorem dX6_copy_70 : decode cX6_copy 70 = .ok (.iload_n 2, 1) := by decide +kernel
theorem dX6_copy_71 : decode cX6_copy 71 = .ok (.iload 5, 2) := by decide +kernel
theorem dX6_copy_73 : decode cX6_copy 73 = .ok (.invokevirtual 258, 3) := by decide +kernel
theorem dX6_copy_76 : decode cX6_copy 76 = .ok (.ifCond .eq 15, 3) := by decide +kernel
theorem dX6_copy_79 : decode cX6_copy 79 = .ok (.aload 7, 2) := by decide +kernel
theorem dX6_copy_81 : decode cX6_copy 81 = .ok (.iload 4, 2) := by decide +kernel
theorem dX6_copy_83 : decode cX6_copy 83 = .ok (.iload 5, 2) := by decide +kernel
theorem dX6_copy_85 : decode cX6_copy 85 = .ok (.invokevirtual 258, 3) := by decide +kernel
theorem dX6_copy_88 : decode cX6_copy 88 = .ok (.ifCond .ne 6, 3) := by decide +kernel
theorem dX6_copy_91 : decode cX6_copy 91 = .ok (.ldc 252, 2) := by decide +kernel
theorem dX6_copy_93 : decode cX6_copy 93 = .ok (.ireturn, 1) := by decide +kernel
theorem dX6_copy_94 : decode cX6_copy 94 = .ok (.aload 6, 2) := by decide +kernel
theorem dX6_copy_96 : decode cX6_copy 96 = .ok (.getfield 217, 3) := by decide +kernel
theorem dX6_copy_99 : decode cX6_copy 99 = .ok (.iload_n 2, 1) := by decide +kernel
theorem dX6_copy_100 : decode cX6_copy 100 = .ok (.aload 7, 2) := by decide +kernel
theorem dX6_copy_102 : decode cX6_copy 102 = .ok (.getfield 217, 3) := by decide +kernel
theorem dX6_copy_105 : decode cX6_copy 105 = .ok (.iload 4, 2) := by decide +kernel
theorem dX6_copy_107 : decode cX6_copy 107 = .ok (.iload 5, 2) := by decide +kernel
theorem dX6_copy_109 : decode cX6_copy 109 = .ok (.invokestatic 261, 3) := by decide +kernel
theorem dX6_copy_112 : decode cX6_copy 112 = .ok (.iload 5, 2) := by decide +kernel
theorem dX6_copy_114 : decode cX6_copy 114 = .ok (.ireturn, 1) := by decide +kernel
theorem dX6_lay_0 : decode cX6_lay 0 = .ok (.iload_n 2, 1) := by decide +kernel
theorem dX6_lay_1 : decode cX6_lay 1 = .ok (.iconst 1, 1) := by decide +kernel
theorem dX6_lay_2 : decode cX6_lay 2 = .ok (.if_icmp .ne 11, 3) := by decide +kernel
theorem dX6_lay_5 : decode cX6_lay 5 = .ok (.aload_n 0, 1) := by decide +kernel
theorem dX6_lay_6 : decode cX6_lay 6 = .ok (.iload_n 3, 1) := by decide +kernel
theorem dX6_lay_7 : decode cX6_lay 7 = .ok (.invokevirtual 84, 3) := by decide +kernel
theorem dX6_lay_10 : decode cX6_lay 10 = .ok (.goto 20, 3) := by decide +kernel
theorem dX6_lay_13 : decode cX6_lay 13 = .ok (.iload_n 2, 1) := by decide +kernel
theorem dX6_lay_14 : decode cX6_lay 14 = .ok (.iconst 2, 1) := by decide +kernel
theorem dX6_lay_15 : decode cX6_lay 15 = .ok (.if_icmp .ne 10, 3) := by decide +kernel
theorem dX6_lay_18 : decode cX6_lay 18 = .ok (.iload_n 3, 1) := by decide +kernel
theorem dX6_lay_19 : decode cX6_lay 19 = .ok (.invokestatic 202, 3) := by decide +kernel
theorem dX6_lay_22 : decode cX6_lay 22 = .ok (.ifCond .eq 7, 3) := by decide +kernel
theorem dX6_lay_25 : decode cX6_lay 25 = .ok (.iconst 1, 1) := by decide +kernel
theorem dX6_lay_26 : decode cX6_lay 26 = .ok (.goto 4, 3) := by decide +kernel
theorem dX6_lay_29 : decode cX6_lay 29 = .ok (.iconst 0, 1) := by decide +kernel
theorem dX6_lay_30 : decode cX6_lay 30 = .ok (.istore 4, 2) := by decide +kernel
theorem dX6_lay_32 : decode cX6_lay 32 = .ok (.iload_n 1, 1) := by decide +kernel
theorem dX6_lay_33 : decode cX6_lay 33 = .ok (.invokestatic 267, 3) := by decide +kernel
theorem dX6_lay_36 : decode cX6_lay 36 = .ok (.ifCond .eq 17, 3) := by decide +kernel
theorem dX6_lay_39 : decode cX6_lay 39 = .ok (.iload_n 2, 1) := by decide +kernel
theorem dX6_lay_40 : decode cX6_lay 40 = .ok (.iconst 0, 1) := by decide +kernel
theorem dX6_lay_41 : decode cX6_lay 41 = .ok (.iconst 3, 1) := by decide +kernel
theorem dX6_lay_42 : decode cX6_lay 42 = .ok (.invokestatic 71, 3) := by decide +kernel
theorem dX6_lay_45 : decode cX6_lay 45 = .ok (.ifCond .eq 8, 3) := by decide +kernel
theorem dX6_lay_48 : decode cX6_lay 48 = .ok (.iload 4, 2) := by decide +kernel
theorem dX6_lay_50 : decode cX6_lay 50 = .ok (.ifCond .ne 6, 3) := by decide +kernel
theorem dX6_lay_53 : decode cX6_lay 53 = .ok (.ldc 75, 2) := by decide +kernel
theorem dX6_lay_55 : decode cX6_lay 55 = .ok (.ireturn, 1) := by decide +kernel
theorem dX6_lay_56 : decode cX6_lay 56 = .ok (.iload_n 2, 1) := by decide +kernel
theorem dX6_lay_57 : decode cX6_lay 57 = .ok (.iconst 2, 1) := by decide +kernel
theorem dX6_lay_58 : decode cX6_lay 58 = .ok (.if_icmp .ne 18, 3) := by decide +kernel
theorem dX6_lay_61 : decode cX6_lay 61 = .ok (.aload_n 0, 1) := by decide +kernel
theorem dX6_lay_62 : decode cX6_lay 62 = .ok (.getfield 15, 3) := by decide +kernel
theorem dX6_lay_65 : decode cX6_lay 65 = .ok (.iload_n 3, 1) := by decide +kernel
theorem dX6_lay_66 : decode cX6_lay 66 = .ok (.aaload, 1) := by decide +kernel
theorem dX6_lay_67 : decode cX6_lay 67 = .ok (.invokevirtual 205, 3) := by decide +kernel
theorem dX6_lay_70 : decode cX6_lay 70 = .ok (.ifCond .eq 6, 3) := by decide +kernel
theorem dX6_lay_73 : decode cX6_lay 73 = .ok (.ldc 209, 2) := by decide +kernel
theorem dX6_lay_75 : decode cX6_lay 75 = .ok (.ireturn, 1) := by decide +kernel
theorem dX6_lay_76 : decode cX6_lay 76 = .ok (.aload_n 0, 1) := by decide +kernel
theorem dX6_lay_77 : decode cX6_lay 77 = .ok (.getfield 21, 3) := by decide +kernel
theorem dX6_lay_80 : decode cX6_lay 80 = .ok (.iload_n 1, 1) := by decide +kernel
theorem dX6_lay_81 : decode cX6_lay 81 = .ok (.aaload, 1) := by decide +kernel
theorem dX6_lay_82 : decode cX6_lay 82 = .ok (.astore 5, 2) := by decide +kernel
theorem dX6_lay_84 : decode cX6_lay 84 = .ok (.aload 5, 2) := by decide +kernel
theorem dX6_lay_86 : decode cX6_lay 86 = .ok (.getfield 270, 3) := by decide +kernel
theorem dX6_lay_89 : decode cX6_lay 89 = .ok (.istore 6, 2) := by decide +kernel
theorem dX6_lay_91 : decode cX6_lay 91 = .ok (.aload 5, 2) := by decide +kernel
theorem dX6_lay_93 : decode cX6_lay 93 = .ok (.iload_n 2, 1) := by decide +kernel
theorem dX6_lay_94 : decode cX6_lay 94 = .ok (.putfield 270, 3) := by decide +kernel
theorem dX6_lay_97 : decode cX6_lay 97 = .ok (.iload_n 2, 1) := by decide +kernel
theorem dX6_lay_98 : decode cX6_lay 98 = .ok (.iconst 1, 1) := by decide +kernel
theorem dX6_lay_99 : decode cX6_lay 99 = .ok (.if_icmp .ne 23, 3) := by decide +kernel
theorem dX6_lay_102 : decode cX6_lay 102 = .ok (.aload 5, 2) := by decide +kernel
theorem dX6_lay_104 : decode cX6_lay 104 = .ok (.getfield 273, 3) := by decide +kernel
theorem dX6_lay_107 : decode cX6_lay 107 = .ok (.aload_n 0, 1) := by decide +kernel
theorem dX6_lay_108 : decode cX6_lay 108 = .ok (.getfield 52, 3) := by decide +kernel
theorem dX6_lay_111 : decode cX6_lay 111 = .ok (.getfield 87, 3) := by decide +kernel
theorem dX6_lay_114 : decode cX6_lay 114 = .ok (.iload_n 3, 1) := by decide +kernel
theorem dX6_lay_115 : decode cX6_lay 115 = .ok (.aaload, 1) := by decide +kernel
theorem dX6_lay_116 : decode cX6_lay 116 = .ok (.invokevirtual 277, 3) := by decide +kernel
theorem dX6_lay_119 : decode cX6_lay 119 = .ok (.goto 31, 3) := by decide +kernel
theorem dX6_lay_122 : decode cX6_lay 122 = .ok (.iload_n 2, 1) := by decide +kernel
theorem dX6_lay_123 : decode cX6_lay 123 = .ok (.iconst 2, 1) := by decide +kernel
theorem dX6_lay_124 : decode cX6_lay 124 = .ok (.if_icmp .ne 20, 3) := by decide +kernel
theorem dX6_lay_127 : decode cX6_lay 127 = .ok (.aload 5, 2) := by decide +kernel
theorem dX6_lay_129 : decode cX6_lay 129 = .ok (.getfield 280, 3) := by decide +kernel
theorem dX6_lay_132 : decode cX6_lay 132 = .ok (.aload_n 0, 1) := by decide +kernel
theorem dX6_lay_133 : decode cX6_lay 133 = .ok (.getfield 15, 3) := by decide +kernel
theorem dX6_lay_136 : decode cX6_lay 136 = .ok (.iload_n 3, 1) := by decide +kernel
theorem dX6_lay_137 : decode cX6_lay 137 = .ok (.aaload, 1) := by decide +kernel
theorem dX6_lay_138 : decode cX6_lay 138 = .ok (.invokevirtual 284, 3) := by decide +kernel
theorem dX6_lay_141 : decode cX6_lay 141 = .ok (.goto 9, 3) := by decide +kernel
theorem dX6_lay_144 : decode cX6_lay 144 = .ok (.aload 5, 2) := by decide +kernel
theorem dX6_lay_146 : decode cX6_lay 146 = .ok (.iload_n 3, 1) := by decide +kernel
theorem dX6_lay_147 : decode cX6_lay 147 = .ok (.putfield 287, 3) := by decide +kernel
theorem dX6_lay_150 : decode cX6_lay 150 = .ok (.iload 6, 2) := by decide +kernel
theorem dX6_lay_152 : decode cX6_lay 152 = .ok (.ireturn, 1) := by decide +kernel
theorem dX6_ask_0 : decode cX6_ask 0 = .ok (.iload_n 1, 1) := by decide +kernel
theorem dX6_ask_1 : decode cX6_ask 1 = .ok (.invokestatic 267, 3) := by decide +kernel
theorem dX6_ask_4 : decode cX6_ask 4 = .ok (.ifCond .eq 10, 3) := by decide +kernel
theorem dX6_ask_7 : decode cX6_ask 7 = .ok (.iload_n 2, 1) := by decide +kernel
theorem dX6_ask_8 : decode cX6_ask 8 = .ok (.invokestatic 64, 3) := by decide +kernel
theorem dX6_ask_11 : decode cX6_ask 11 = .ok (.ifCond .ne 6, 3) := by decide +kernel
theorem dX6_ask_14 : decode cX6_ask 14 = .ok (.ldc 75, 2) := by decide +kernel
theorem dX6_ask_16 : decode cX6_ask 16 = .ok (.ireturn, 1) := by decide +kernel
theorem dX6_ask_17 : decode cX6_ask 17 = .ok (.aload_n 0, 1) := by decide +kernel
theorem dX6_ask_18 : decode cX6_ask 18 = .ok (.getfield 21, 3) := by decide +kernel
theorem dX6_ask_21 : decode cX6_ask 21 = .ok (.iload_n 1, 1) := by decide +kernel
theorem dX6_ask_22 : decode cX6_ask 22 = .ok (.aaload, 1) := by decide +kernel
theorem dX6_ask_23 : decode cX6_ask 23 = .ok (.astore_n 3, 1) := by decide +kernel
theorem dX6_ask_24 : decode cX6_ask 24 = .ok (.aload_n 3, 1) := by decide +kernel
theorem dX6_ask_25 : decode cX6_ask 25 = .ok (.getfield 270, 3) := by decide +kernel
theorem dX6_ask_28 : decode cX6_ask 28 = .ok (.ifCond .ne 6, 3) := by decide +kernel
theorem dX6_ask_31 : decode cX6_ask 31 = .ok (.ldc 209, 2) := by decide +kernel
theorem dX6_ask_33 : decode cX6_ask 33 = .ok (.ireturn, 1) := by decide +kernel
theorem dX6_ask_34 : decode cX6_ask 34 = .ok (.aload_n 3, 1) := by decide +kernel
theorem dX6_ask_35 : decode cX6_ask 35 = .ok (.getfield 270, 3) := by decide +kernel
theorem dX6_ask_38 : decode cX6_ask 38 = .ok (.iconst 1, 1) := by decide +kernel
theorem dX6_ask_39 : decode cX6_ask 39 = .ok (.if_icmp .ne 24, 3) := by decide +kernel
theorem dX6_ask_42 : decode cX6_ask 42 = .ok (.aload_n 3, 1) := by decide +kernel
theorem dX6_ask_43 : decode cX6_ask 43 = .ok (.getfield 273, 3) := by decide +kernel
theorem dX6_ask_46 : decode cX6_ask 46 = .ok (.iload_n 2, 1) := by decide +kernel
theorem dX6_ask_47 : decode cX6_ask 47 = .ok (.invokevirtual 125, 3) := by decide +kernel
theorem dX6_ask_50 : decode cX6_ask 50 = .ok (.ifCond .eq 13, 3) := by decide +kernel
theorem dX6_ask_53 : decode cX6_ask 53 = .ok (.aload_n 3, 1) := by decide +kernel
theorem dX6_ask_54 : decode cX6_ask 54 = .ok (.getfield 273, 3) := by decide +kernel
theorem dX6_ask_57 : decode cX6_ask 57 = .ok (.invokevirtual 121, 3) := by decide +kernel
theorem dX6_ask_60 : decode cX6_ask 60 = .ok (.goto 5, 3) := by decide +kernel
theorem dX6_ask_63 : decode cX6_ask 63 = .ok (.ldc 128, 2) := by decide +kernel
theorem dX6_ask_65 : decode cX6_ask 65 = .ok (.ireturn, 1) := by decide +kernel
theorem dX6_item_0 : decode cX6_item 0 = .ok (.iload_n 1, 1) := by decide +kernel
theorem dX6_item_1 : decode cX6_item 1 = .ok (.invokestatic 267, 3) := by decide +kernel
theorem dX6_item_4 : decode cX6_item 4 = .ok (.ifCond .ne 6, 3) := by decide +kernel
theorem dX6_item_7 : decode cX6_item 7 = .ok (.ldc 75, 2) := by decide +kernel
theorem dX6_item_9 : decode cX6_item 9 = .ok (.ireturn, 1) := by decide +kernel
theorem dX6_item_10 : decode cX6_item 10 = .ok (.aload_n 0, 1) := by decide +kernel
theorem dX6_item_11 : decode cX6_item 11 = .ok (.getfield 21, 3) := by decide +kernel
theorem dX6_item_14 : decode cX6_item 14 = .ok (.iload_n 1, 1) := by decide +kernel
theorem dX6_item_15 : decode cX6_item 15 = .ok (.aaload, 1) := by decide +kernel
theorem dX6_item_16 : decode cX6_item 16 = .ok (.astore_n 3, 1) := by decide +kernel
theorem dX6_item_17 : decode cX6_item 17 = .ok (.aload_n 3, 1) := by decide +kernel
theorem dX6_item_18 : decode cX6_item 18 = .ok (.getfield 270, 3) := by decide +kernel
theorem dX6_item_21 : decode cX6_item 21 = .ok (.ifCond .ne 6, 3) := by decide +kernel
theorem dX6_item_24 : decode cX6_item 24 = .ok (.ldc 209, 2) := by decide +kernel
theorem dX6_item_26 : decode cX6_item 26 = .ok (.ireturn, 1) := by decide +kernel
theorem dX6_item_27 : decode cX6_item 27 = .ok (.aload_n 3, 1) := by decide +kernel
theorem dX6_item_28 : decode cX6_item 28 = .ok (.getfield 270, 3) := by decide +kernel
theorem dX6_item_31 : decode cX6_item 31 = .ok (.iconst 2, 1) := by decide +kernel
theorem dX6_item_32 : decode cX6_item 32 = .ok (.if_icmp .eq 6, 3) := by decide +kernel
theorem dX6_item_35 : decode cX6_item 35 = .ok (.ldc 128, 2) := by decide +kernel
theorem dX6_item_37 : decode cX6_item 37 = .ok (.ireturn, 1) := by decide +kernel
theorem dX6_item_38 : decode cX6_item 38 = .ok (.aload_n 3, 1) := by decide +kernel
theorem dX6_item_39 : decode cX6_item 39 = .ok (.getfield 280, 3) := by decide +kernel
theorem dX6_item_42 : decode cX6_item 42 = .ok (.iload_n 2, 1) := by decide +kernel
theorem dX6_item_43 : decode cX6_item 43 = .ok (.invokevirtual 249, 3) := by decide +kernel
theorem dX6_item_46 : decode cX6_item 46 = .ok (.ifCond .ne 6, 3) := by decide +kernel
theorem dX6_item_49 : decode cX6_item 49 = .ok (.ldc 252, 2) := by decide +kernel
theorem dX6_item_51 : decode cX6_item 51 = .ok (.ireturn, 1) := by decide +kernel
theorem dX6_item_52 : decode cX6_item 52 = .ok (.aload_n 3, 1) := by decide +kernel
theorem dX6_item_53 : decode cX6_item 53 = .ok (.getfield 280, 3) := by decide +kernel
theorem dX6_item_56 : decode cX6_item 56 = .ok (.getfield 217, 3) := by decide +kernel
theorem dX6_item_59 : decode cX6_item 59 = .ok (.iload_n 2, 1) := by decide +kernel
theorem dX6_item_60 : decode cX6_item 60 = .ok (.iaload, 1) := by decide +kernel
theorem dX6_item_61 : decode cX6_item 61 = .ok (.ldc 183, 2) := by decide +kernel
theorem dX6_item_63 : decode cX6_item 63 = .ok (.if_icmp .ne 8, 3) := by decide +kernel
theorem dX6_item_66 : decode cX6_item 66 = .ok (.ldc 128, 2) := by decide +kernel
theorem dX6_item_68 : decode cX6_item 68 = .ok (.goto 12, 3) := by decide +kernel
theorem dX6_item_71 : decode cX6_item 71 = .ok (.aload_n 3, 1) := by decide +kernel
theorem dX6_item_72 : decode cX6_item 72 = .ok (.getfield 280, 3) := by decide +kernel
theorem dX6_item_75 : decode cX6_item 75 = .ok (.getfield 217, 3) := by decide +kernel
theorem dX6_item_78 : decode cX6_item 78 = .ok (.iload_n 2, 1) := by decide +kernel
theorem dX6_item_79 : decode cX6_item 79 = .ok (.iaload, 1) := by decide +kernel
theorem dX6_item_80 : decode cX6_item 80 = .ok (.ireturn, 1) := by decide +kernel
theorem dX6_rest_0 : decode cX6_rest 0 = .ok (.iload_n 1, 1) := by decide +kernel
theorem dX6_rest_1 : decode cX6_rest 1 = .ok (.invokestatic 267, 3) := by decide +kernel
theorem dX6_rest_4 : decode cX6_rest 4 = .ok (.ifCond .ne 6, 3) := by decide +kernel
theorem dX6_rest_7 : decode cX6_rest 7 = .ok (.ldc 75, 2) := by decide +kernel
theorem dX6_rest_9 : decode cX6_rest 9 = .ok (.ireturn, 1) := by decide +kernel
theorem dX6_rest_10 : decode cX6_rest 10 = .ok (.aload_n 0, 1) := by decide +kernel
theorem dX6_rest_11 : decode cX6_rest 11 = .ok (.getfield 21, 3) := by decide +kernel
theorem dX6_rest_14 : decode cX6_rest 14 = .ok (.iload_n 1, 1) := by decide +kernel
theorem dX6_rest_15 : decode cX6_rest 15 = .ok (.aaload, 1) := by decide +kernel
theorem dX6_rest_16 : decode cX6_rest 16 = .ok (.astore_n 3, 1) := by decide +kernel
theorem dX6_rest_17 : decode cX6_rest 17 = .ok (.aload_n 3, 1) := by decide +kernel
theorem dX6_rest_18 : decode cX6_rest 18 = .ok (.getfield 270, 3) := by decide +kernel
theorem dX6_rest_21 : decode cX6_rest 21 = .ok (.ifCond .ne 6, 3) := by decide +kernel
theorem dX6_rest_24 : decode cX6_rest 24 = .ok (.ldc 209, 2) := by decide +kernel
theorem dX6_rest_26 : decode cX6_rest 26 = .ok (.ireturn, 1) := by decide +kernel
theorem dX6_rest_27 : decode cX6_rest 27 = .ok (.aload_n 3, 1) := by decide +kernel
theorem dX6_rest_28 : decode cX6_rest 28 = .ok (.getfield 270, 3) := by decide +kernel
theorem dX6_rest_31 : decode cX6_rest 31 = .ok (.iconst 3, 1) := by decide +kernel
theorem dX6_rest_32 : decode cX6_rest 32 = .ok (.if_icmp .eq 6, 3) := by decide +kernel
theorem dX6_rest_35 : decode cX6_rest 35 = .ok (.ldc 128, 2) := by decide +kernel
theorem dX6_rest_37 : decode cX6_rest 37 = .ok (.ireturn, 1) := by decide +kernel
theorem dX6_rest_38 : decode cX6_rest 38 = .ok (.iload_n 2, 1) := by decide +kernel
theorem dX6_rest_39 : decode cX6_rest 39 = .ok (.ifCond .ne 8, 3) := by decide +kernel
theorem dX6_rest_42 : decode cX6_rest 42 = .ok (.ldc 194, 2) := by decide +kernel
theorem dX6_rest_44 : decode cX6_rest 44 = .ok (.goto 9, 3) := by decide +kernel
theorem dX6_rest_47 : decode cX6_rest 47 = .ok (.aload_n 3, 1) := by decide +kernel
theorem dX6_rest_48 : decode cX6_rest 48 = .ok (.getfield 287, 3) := by decide +kernel
theorem dX6_rest_51 : decode cX6_rest 51 = .ok (.iload_n 2, 1) := by decide +kernel
theorem dX6_rest_52 : decode cX6_rest 52 = .ok (.irem, 1) := by decide +kernel
theorem dX6_rest_53 : decode cX6_rest 53 = .ok (.ireturn, 1) := by decide +kernel
theorem dX6_tell_0 : decode cX6_tell 0 = .ok (.aload_n 0, 1) := by decide +kernel
theorem dX6_tell_1 : decode cX6_tell 1 = .ok (.getfield 29, 3) := by decide +kernel
theorem dX6_tell_4 : decode cX6_tell 4 = .ok (.bipush 60, 2) := by decide +kernel
theorem dX6_tell_6 : decode cX6_tell 6 = .ok (.if_icmp .lt 6, 3) := by decide +kernel
theorem dX6_tell_9 : decode cX6_tell 9 = .ok (.ldc 79, 2) := by decide +kernel
theorem dX6_tell_11 : decode cX6_tell 11 = .ok (.ireturn, 1) := by decide +kernel
theorem dX6_tell_12 : decode cX6_tell 12 = .ok (.aload_n 0, 1) := by decide +kernel
theorem dX6_tell_13 : decode cX6_tell 13 = .ok (.getfield 25, 3) := by decide +kernel
theorem dX6_tell_16 : decode cX6_tell 16 = .ok (.aload_n 0, 1) := by decide +kernel
theorem dX6_tell_17 : decode cX6_tell 17 = .ok (.getfield 29, 3) := by decide +kernel
theorem dX6_tell_20 : decode cX6_tell 20 = .ok (.iload_n 1, 1) := by decide +kernel
theorem dX6_tell_21 : decode cX6_tell 21 = .ok (.iastore, 1) := by decide +kernel
theorem dX6_tell_22 : decode cX6_tell 22 = .ok (.aload_n 0, 1) := by decide +kernel
theorem dX6_tell_23 : decode cX6_tell 23 = .ok (.dup, 1) := by decide +kernel
theorem dX6_tell_24 : decode cX6_tell 24 = .ok (.getfield 29, 3) := by decide +kernel
theorem dX6_tell_27 : decode cX6_tell 27 = .ok (.iconst 1, 1) := by decide +kernel
theorem dX6_tell_28 : decode cX6_tell 28 = .ok (.iadd, 1) := by decide +kernel
theorem dX6_tell_29 : decode cX6_tell 29 = .ok (.putfield 29, 3) := by decide +kernel
theorem dX6_tell_32 : decode cX6_tell 32 = .ok (.aload_n 0, 1) := by decide +kernel
theorem dX6_tell_33 : decode cX6_tell 33 = .ok (.getfield 29, 3) := by decide +kernel
theorem dX6_tell_36 : decode cX6_tell 36 = .ok (.ireturn, 1) := by decide +kernel
theorem dX6_check_0 : decode cX6_check 0 = .ok (.aload_n 0, 1) := by decide +kernel
theorem dX6_check_1 : decode cX6_check 1 = .ok (.getfield 29, 3) := by decide +kernel
theorem dX6_check_4 : decode cX6_check 4 = .ok (.istore_n 2, 1) := by decide +kernel
theorem dX6_check_5 : decode cX6_check 5 = .ok (.aload_n 0, 1) := by decide +kernel
theorem dX6_check_6 : decode cX6_check 6 = .ok (.iconst 0, 1) := by decide +kernel
theorem dX6_check_7 : decode cX6_check 7 = .ok (.putfield 29, 3) := by decide +kernel
theorem dX6_check_10 : decode cX6_check 10 = .ok (.iload_n 1, 1) := by decide +kernel
theorem dX6_check_11 : decode cX6_check 11 = .ok (.iconst 1, 1) := by decide +kernel
theorem dX6_check_12 : decode cX6_check 12 = .ok (.bipush 30, 2) := by decide +kernel
theorem dX6_check_14 : decode cX6_check 14 = .ok (.invokestatic 71, 3) := by decide +kernel
theorem dX6_check_17 : decode cX6_check 17 = .ok (.ifCond .ne 6, 3) := by decide +kernel
theorem dX6_check_20 : decode cX6_check 20 = .ok (.ldc 75, 2) := by decide +kernel
theorem dX6_check_22 : decode cX6_check 22 = .ok (.ireturn, 1) := by decide +kernel
theorem dX6_check_23 : decode cX6_check 23 = .ok (.aload_n 0, 1) := by decide +kernel
theorem dX6_check_24 : decode cX6_check 24 = .ok (.getfield 7, 3) := by decide +kernel
theorem dX6_check_27 : decode cX6_check 27 = .ok (.ifCond .ne 6, 3) := by decide +kernel
theorem dX6_check_30 : decode cX6_check 30 = .ok (.ldc 194, 2) := by decide +kernel
theorem dX6_check_32 : decode cX6_check 32 = .ok (.ireturn, 1) := by decide +kernel
theorem dX6_check_33 : decode cX6_check 33 = .ok (.aload_n 0, 1) := by decide +kernel
theorem dX6_check_34 : decode cX6_check 34 = .ok (.getfield 56, 3) := by decide +kernel
theorem dX6_check_37 : decode cX6_check 37 = .ok (.aload_n 0, 1) := by decide +kernel
theorem dX6_check_38 : decode cX6_check 38 = .ok (.getfield 59, 3) := by decide +kernel
theorem dX6_check_41 : decode cX6_check 41 = .ok (.invokevirtual 176, 3) := by decide +kernel
theorem dX6_check_44 : decode cX6_check 44 = .ok (.iconst 0, 1) := by decide +kernel
theorem dX6_check_45 : decode cX6_check 45 = .ok (.istore_n 3, 1) := by decide +kernel
theorem dX6_check_46 : decode cX6_check 46 = .ok (.iload_n 3, 1) := by decide +kernel
theorem dX6_check_47 : decode cX6_check 47 = .ok (.iconst 2, 1) := by decide +kernel
theorem dX6_check_48 : decode cX6_check 48 = .ok (.iload_n 1, 1) := by decide +kernel
theorem dX6_check_49 : decode cX6_check 49 = .ok (.imul, 1) := by decide +kernel
theorem dX6_check_50 : decode cX6_check 50 = .ok (.if_icmp .ge 67, 3) := by decide +kernel
theorem dX6_check_53 : decode cX6_check 53 = .ok (.aload_n 0, 1) := by decide +kernel
theorem dX6_check_54 : decode cX6_check 54 = .ok (.getfield 56, 3) := by decide +kernel
theorem dX6_check_57 : decode cX6_check 57 = .ok (.invokevirtual 167, 3) := by decide +kernel
theorem dX6_check_60 : decode cX6_check 60 = .ok (.istore 4, 2) := by decide +kernel
theorem dX6_check_62 : decode cX6_check 62 = .ok (.iload_n 3, 1) := by decide +kernel
theorem dX6_check_63 : decode cX6_check 63 = .ok (.iload_n 2, 1) := by decide +kernel
theorem dX6_check_64 : decode cX6_check 64 = .ok (.if_icmp .ge 19, 3) := by decide +kernel
theorem dX6_check_67 : decode cX6_check 67 = .ok (.aload_n 0, 1) := by decide +kernel
theorem dX6_check_68 : decode cX6_check 68 = .ok (.getfield 25, 3) := by decide +kernel
theorem dX6_check_71 : decode cX6_check 71 = .ok (.iload_n 3, 1) := by decide +kernel
theorem dX6_check_72 : decode cX6_check 72 = .ok (.iaload, 1) := by decide +kernel
theorem dX6_check_73 : decode cX6_check 73 = .ok (.aload_n 0, 1) := by decide +kernel
theorem dX6_check_74 : decode cX6_check 74 = .ok (.getfield 56, 3) := by decide +kernel
theorem dX6_check_77 : decode cX6_check 77 = .ok (.invokevirtual 170, 3) := by decide +kernel
theorem dX6_check_80 : decode cX6_check 80 = .ok (.if_icmp .eq 7, 3) := by decide +kernel
theorem dX6_check_83 : decode cX6_check 83 = .ok (.iload_n 3, 1) := by decide +kernel
theorem dX6_check_84 : decode cX6_check 84 = .ok (.iconst 1, 1) := by decide +kernel
theorem dX6_check_85 : decode cX6_check 85 = .ok (.iadd, 1) := by decide +kernel
theorem dX6_check_86 : decode cX6_check 86 = .ok (.ireturn, 1) := by decide +kernel
theorem dX6_check_87 : decode cX6_check 87 = .ok (.iload_n 3, 1) := by decide +kernel
theorem dX6_check_88 : decode cX6_check 88 = .ok (.iconst 1, 1) := by decide +kernel
theorem dX6_check_89 : decode cX6_check 89 = .ok (.iadd, 1) := by decide +kernel
theorem dX6_check_90 : decode cX6_check 90 = .ok (.iload_n 2, 1) := by decide +kernel
theorem dX6_check_91 : decode cX6_check 91 = .ok (.if_icmp .ge 16, 3) := by decide +kernel
theorem dX6_check_94 : decode cX6_check 94 = .ok (.aload_n 0, 1) := by decide +kernel
theorem dX6_check_95 : decode cX6_check 95 = .ok (.getfield 25, 3) := by decide +kernel
theorem dX6_check_98 : decode cX6_check 98 = .ok (.iload_n 3, 1) := by decide +kernel
theorem dX6_check_99 : decode cX6_check 99 = .ok (.iconst 1, 1) := by decide +kernel
theorem dX6_check_100 : decode cX6_check 100 = .ok (.iadd, 1) := by decide +kernel
theorem dX6_check_101 : decode cX6_check 101 = .ok (.iaload, 1) := by decide +kernel
theorem dX6_check_102 : decode cX6_check 102 = .ok (.iload 4, 2) := by decide +kernel
theorem dX6_check_104 : decode cX6_check 104 = .ok (.if_icmp .eq 7, 3) := by decide +kernel
theorem dX6_check_107 : decode cX6_check 107 = .ok (.iload_n 3, 1) := by decide +kernel
theorem dX6_check_108 : decode cX6_check 108 = .ok (.iconst 2, 1) := by decide +kernel
theorem dX6_check_109 : decode cX6_check 109 = .ok (.iadd, 1) := by decide +kernel
theorem dX6_check_110 : decode cX6_check 110 = .ok (.ireturn, 1) := by decide +kernel
theorem dX6_check_111 : decode cX6_check 111 = .ok (.iinc 3 2, 3) := by decide +kernel
theorem dX6_check_114 : decode cX6_check 114 = .ok (.goto (-68), 3) := by decide +kernel
theorem dX6_check_117 : decode cX6_check 117 = .ok (.iload_n 2, 1) := by decide +kernel
theorem dX6_check_118 : decode cX6_check 118 = .ok (.iconst 2, 1) := by decide +kernel
theorem dX6_check_119 : decode cX6_check 119 = .ok (.iload_n 1, 1) := by decide +kernel
theorem dX6_check_120 : decode cX6_check 120 = .ok (.imul, 1) := by decide +kernel
theorem dX6_check_121 : decode cX6_check 121 = .ok (.if_icmp .ne 7, 3) := by decide +kernel
theorem dX6_check_124 : decode cX6_check 124 = .ok (.iconst 0, 1) := by decide +kernel
theorem dX6_check_125 : decode cX6_check 125 = .ok (.goto 8, 3) := by decide +kernel
theorem dX6_check_128 : decode cX6_check 128 = .ok (.iconst 2, 1) := by decide +kernel
theorem dX6_check_129 : decode cX6_check 129 = .ok (.iload_n 1, 1) := by decide +kernel
theorem dX6_check_130 : decode cX6_check 130 = .ok (.imul, 1) := by decide +kernel
theorem dX6_check_131 : decode cX6_check 131 = .ok (.iconst 1, 1) := by decide +kernel
theorem dX6_check_132 : decode cX6_check 132 = .ok (.iadd, 1) := by decide +kernel
theorem dX6_check_133 : decode cX6_check 133 = .ok (.ireturn, 1) := by decide +kernel
theorem dX6_keep_0 : decode cX6_keep 0 = .ok (.aload_n 0, 1) := by decide +kernel
theorem dX6_keep_1 : decode cX6_keep 1 = .ok (.getfield 59, 3) := by decide +kernel
theorem dX6_keep_4 : decode cX6_keep 4 = .ok (.aload_n 0, 1) := by decide +kernel
theorem dX6_keep_5 : decode cX6_keep 5 = .ok (.getfield 52, 3) := by decide +kernel
theorem dX6_keep_8 : decode cX6_keep 8 = .ok (.invokevirtual 176, 3) := by decide +kernel
theorem dX6_keep_11 : decode cX6_keep 11 = .ok (.aload_n 0, 1) := by decide +kernel
theorem dX6_keep_12 : decode cX6_keep 12 = .ok (.iconst 1, 1) := by decide +kernel
theorem dX6_keep_13 : decode cX6_keep 13 = .ok (.putfield 7, 3) := by decide +kernel
theorem dX6_keep_16 : decode cX6_keep 16 = .ok (.aload_n 0, 1) := by decide +kernel
theorem dX6_keep_17 : decode cX6_keep 17 = .ok (.getfield 52, 3) := by decide +kernel
theorem dX6_keep_20 : decode cX6_keep 20 = .ok (.getfield 76, 3) := by decide +kernel
theorem dX6_keep_23 : decode cX6_keep 23 = .ok (.ireturn, 1) := by decide +kernel
theorem dX6_back_0 : decode cX6_back 0 = .ok (.aload_n 0, 1) := by decide +kernel
theorem dX6_back_1 : decode cX6_back 1 = .ok (.getfield 7, 3) := by decide +kernel
theorem dX6_back_4 : decode cX6_back 4 = .ok (.ifCond .ne 6, 3) := by decide +kernel
theorem dX6_back_7 : decode cX6_back 7 = .ok (.ldc 194, 2) := by decide +kernel
theorem dX6_back_9 : decode cX6_back 9 = .ok (.ireturn, 1) := by decide +kernel
theorem dX6_back_10 : decode cX6_back 10 = .ok (.aload_n 0, 1) := by decide +kernel
theorem dX6_back_11 : decode cX6_back 11 = .ok (.getfield 52, 3) := by decide +kernel
theorem dX6_back_14 : decode cX6_back 14 = .ok (.aload_n 0, 1) := by decide +kernel
theorem dX6_back_15 : decode cX6_back 15 = .ok (.getfield 59, 3) := by decide +kernel
theorem dX6_back_18 : decode cX6_back 18 = .ok (.invokevirtual 176, 3) := by decide +kernel
theorem dX6_back_21 : decode cX6_back 21 = .ok (.aload_n 0, 1) := by decide +kernel
theorem dX6_back_22 : decode cX6_back 22 = .ok (.getfield 52, 3) := by decide +kernel
theorem dX6_back_25 : decode cX6_back 25 = .ok (.getfield 76, 3) := by decide +kernel
theorem dX6_back_28 : decode cX6_back 28 = .ok (.ireturn, 1) := by decide +kernel
theorem dX6_count_0 : decode cX6_count 0 = .ok (.iload_n 1, 1) := by decide +kernel
theorem dX6_count_1 : decode cX6_count 1 = .ok (.tableswitch 120 0 8 #[51, 59, 67, 75, 83, 91, 99, 104, 112], 51) := by decide +kernel
theorem dX6_count_52 : decode cX6_count 52 = .ok (.aload_n 0, 1) := by decide +kernel
theorem dX6_count_53 : decode cX6_count 53 = .ok (.getfield 52, 3) := by decide +kernel
theorem dX6_count_56 : decode cX6_count 56 = .ok (.getfield 76, 3) := by decide +kernel
theorem dX6_count_59 : decode cX6_count 59 = .ok (.ireturn, 1) := by decide +kernel
theorem dX6_count_60 : decode cX6_count 60 = .ok (.aload_n 0, 1) := by decide +kernel
theorem dX6_count_61 : decode cX6_count 61 = .ok (.getfield 52, 3) := by decide +kernel
theorem dX6_count_64 : decode cX6_count 64 = .ok (.invokevirtual 288, 3) := by decide +kernel
theorem dX6_count_67 : decode cX6_count 67 = .ok (.ireturn, 1) := by decide +kernel
theorem dX6_count_68 : decode cX6_count 68 = .ok (.aload_n 0, 1) := by decide +kernel
theorem dX6_count_69 : decode cX6_count 69 = .ok (.getfield 52, 3) := by decide +kernel
theorem dX6_count_72 : decode cX6_count 72 = .ok (.getfield 291, 3) := by decide +kernel
theorem dX6_count_75 : decode cX6_count 75 = .ok (.ireturn, 1) := by decide +kernel
theorem dX6_count_76 : decode cX6_count 76 = .ok (.aload_n 0, 1) := by decide +kernel
theorem dX6_count_77 : decode cX6_count 77 = .ok (.getfield 52, 3) := by decide +kernel
theorem dX6_count_80 : decode cX6_count 80 = .ok (.getfield 147, 3) := by decide +kernel
theorem dX6_count_83 : decode cX6_count 83 = .ok (.ireturn, 1) := by decide +kernel
theorem dX6_count_84 : decode cX6_count 84 = .ok (.aload_n 0, 1) := by decide +kernel
theorem dX6_count_85 : decode cX6_count 85 = .ok (.getfield 52, 3) := by decide +kernel
theorem dX6_count_88 : decode cX6_count 88 = .ok (.getfield 150, 3) := by decide +kernel
theorem dX6_count_91 : decode cX6_count 91 = .ok (.ireturn, 1) := by decide +kernel
theorem dX6_count_92 : decode cX6_count 92 = .ok (.aload_n 0, 1) := by decide +kernel
theorem dX6_count_93 : decode cX6_count 93 = .ok (.getfield 52, 3) := by decide +kernel
theorem dX6_count_96 : decode cX6_count 96 = .ok (.getfield 228, 3) := by decide +kernel
theorem dX6_count_99 : decode cX6_count 99 = .ok (.ireturn, 1) := by decide +kernel
theorem dX6_count_100 : decode cX6_count 100 = .ok (.aload_n 0, 1) := by decide +kernel
theorem dX6_count_101 : decode cX6_count 101 = .ok (.getfield 29, 3) := by decide +kernel
theorem dX6_count_104 : decode cX6_count 104 = .ok (.ireturn, 1) := by decide +kernel
theorem dX6_count_105 : decode cX6_count 105 = .ok (.aload_n 0, 1) := by decide +kernel
theorem dX6_count_106 : decode cX6_count 106 = .ok (.getfield 36, 3) := by decide +kernel
theorem dX6_count_109 : decode cX6_count 109 = .ok (.getfield 220, 3) := by decide +kernel
theorem dX6_count_112 : decode cX6_count 112 = .ok (.ireturn, 1) := by decide +kernel
theorem dX6_count_113 : decode cX6_count 113 = .ok (.aload_n 0, 1) := by decide +kernel
theorem dX6_count_114 : decode cX6_count 114 = .ok (.getfield 52, 3) := by decide +kernel
theorem dX6_count_117 : decode cX6_count 117 = .ok (.getfield 164, 3) := by decide +kernel
theorem dX6_count_120 : decode cX6_count 120 = .ok (.ireturn, 1) := by decide +kernel
theorem dX6_count_121 : decode cX6_count 121 = .ok (.ldc 75, 2) := by decide +kernel
theorem dX6_count_123 : decode cX6_count 123 = .ok (.ireturn, 1) := by decide +kernel
theorem dX6_isWithin_0 : decode cX6_isWithin 0 = .ok (.iload_n 0, 1) := by decide +kernel
theorem dX6_isWithin_1 : decode cX6_isWithin 1 = .ok (.iload_n 1, 1) := by decide +kernel
theorem dX6_isWithin_2 : decode cX6_isWithin 2 = .ok (.if_icmp .lt 12, 3) := by decide +kernel
theorem dX6_isWithin_5 : decode cX6_isWithin 5 = .ok (.iload_n 0, 1) := by decide +kernel
theorem dX6_isWithin_6 : decode cX6_isWithin 6 = .ok (.iload_n 2, 1) := by decide +kernel
theorem dX6_isWithin_7 : decode cX6_isWithin 7 = .ok (.if_icmp .gt 7, 3) := by decide +kernel
theorem dX6_isWithin_10 : decode cX6_isWithin 10 = .ok (.iconst 1, 1) := by decide +kernel
theorem dX6_isWithin_11 : decode cX6_isWithin 11 = .ok (.goto 4, 3) := by decide +kernel
theorem dX6_isWithin_14 : decode cX6_isWithin 14 = .ok (.iconst 0, 1) := by decide +kernel
theorem dX6_isWithin_15 : decode cX6_isWithin 15 = .ok (.ireturn, 1) := by decide +kernel
theorem dX6_isPhase_0 : decode cX6_isPhase 0 = .ok (.iload_n 0, 1) := by decide +kernel
theorem dX6_isPhase_1 : decode cX6_isPhase 1 = .ok (.iconst 0, 1) := by decide +kernel
theorem dX6_isPhase_2 : decode cX6_isPhase 2 = .ok (.bipush 119, 2) := by decide +kernel
theorem dX6_isPhase_4 : decode cX6_isPhase 4 = .ok (.invokestatic 71, 3) := by decide +kernel
theorem dX6_isPhase_7 : decode cX6_isPhase 7 = .ok (.ireturn, 1) := by decide +kernel
theorem dX6_isKind_0 : decode cX6_isKind 0 = .ok (.iload_n 0, 1) := by decide +kernel
theorem dX6_isKind_1 : decode cX6_isKind 1 = .ok (.iconst 0, 1) := by decide +kernel
theorem dX6_isKind_2 : decode cX6_isKind 2 = .ok (.iconst 5, 1) := by decide +kernel
theorem dX6_isKind_3 : decode cX6_isKind 3 = .ok (.invokestatic 71, 3) := by decide +kernel
theorem dX6_isKind_6 : decode cX6_isKind 6 = .ok (.ireturn, 1) := by decide +kernel
theorem dX6_isSheet_0 : decode cX6_isSheet 0 = .ok (.iload_n 0, 1) := by decide +kernel
theorem dX6_isSheet_1 : decode cX6_isSheet 1 = .ok (.iconst 0, 1) := by decide +kernel
theorem dX6_isSheet_2 : decode cX6_isSheet 2 = .ok (.iconst 3, 1) := by decide +kernel
theorem dX6_isSheet_3 : decode cX6_isSheet 3 = .ok (.invokestatic 71, 3) := by decide +kernel
theorem dX6_isSheet_6 : decode cX6_isSheet 6 = .ok (.ireturn, 1) := by decide +kernel
theorem dX6_isSlot_0 : decode cX6_isSlot 0 = .ok (.iload_n 0, 1) := by decide +kernel
theorem dX6_isSlot_1 : decode cX6_isSlot 1 = .ok (.iconst 0, 1) := by decide +kernel
theorem dX6_isSlot_2 : decode cX6_isSlot 2 = .ok (.iconst 4, 1) := by decide +kernel
theorem dX6_isSlot_3 : decode cX6_isSlot 3 = .ok (.invokestatic 71, 3) := by decide +kernel
theorem dX6_isSlot_6 : decode cX6_isSlot 6 = .ok (.ireturn, 1) := by decide +kernel
theorem dX6_isOnBoard_0 : decode cX6_isOnBoard 0 = .ok (.iload_n 0, 1) := by decide +kernel
theorem dX6_isOnBoard_1 : decode cX6_isOnBoard 1 = .ok (.iconst 0, 1) := by decide +kernel
theorem dX6_isOnBoard_2 : decode cX6_isOnBoard 2 = .ok (.bipush 29, 2) := by decide +kernel
theorem dX6_isOnBoard_4 : decode cX6_isOnBoard 4 = .ok (.invokestatic 71, 3) := by decide +kernel
theorem dX6_isOnBoard_7 : decode cX6_isOnBoard 7 = .ok (.ifCond .eq 17, 3) := by decide +kernel
theorem dX6_isOnBoard_10 : decode cX6_isOnBoard 10 = .ok (.iload_n 1, 1) := by decide +kernel
theorem dX6_isOnBoard_11 : decode cX6_isOnBoard 11 = .ok (.iconst 0, 1) := by decide +kernel
theorem dX6_isOnBoard_12 : decode cX6_isOnBoard 12 = .ok (.bipush 29, 2) := by decide +kernel
theorem dX6_isOnBoard_14 : decode cX6_isOnBoard 14 = .ok (.invokestatic 71, 3) := by decide +kernel
theorem dX6_isOnBoard_17 : decode cX6_isOnBoard 17 = .ok (.ifCond .eq 7, 3) := by decide +kernel
theorem dX6_isOnBoard_20 : decode cX6_isOnBoard 20 = .ok (.iconst 1, 1) := by decide +kernel
theorem dX6_isOnBoard_21 : decode cX6_isOnBoard 21 = .ok (.goto 4, 3) := by decide +kernel
theorem dX6_isOnBoard_24 : decode cX6_isOnBoard 24 = .ok (.iconst 0, 1) := by decide +kernel
theorem dX6_isOnBoard_25 : decode cX6_isOnBoard 25 = .ok (.ireturn, 1) := by decide +kernel
theorem dX6_isPlace_0 : decode cX6_isPlace 0 = .ok (.iload_n 0, 1) := by decide +kernel
theorem dX6_isPlace_1 : decode cX6_isPlace 1 = .ok (.ifCond .lt 21, 3) := by decide +kernel
theorem dX6_isPlace_4 : decode cX6_isPlace 4 = .ok (.iload_n 0, 1) := by decide +kernel
theorem dX6_isPlace_5 : decode cX6_isPlace 5 = .ok (.bipush 100, 2) := by decide +kernel
theorem dX6_isPlace_7 : decode cX6_isPlace 7 = .ok (.idiv, 1) := by decide +kernel
theorem dX6_isPlace_8 : decode cX6_isPlace 8 = .ok (.iload_n 0, 1) := by decide +kernel
theorem dX6_isPlace_9 : decode cX6_isPlace 9 = .ok (.bipush 100, 2) := by decide +kernel
theorem dX6_isPlace_11 : decode cX6_isPlace 11 = .ok (.irem, 1) := by decide +kernel
theorem dX6_isPlace_12 : decode cX6_isPlace 12 = .ok (.invokestatic 195, 3) := by decide +kernel
theorem dX6_isPlace_15 : decode cX6_isPlace 15 = .ok (.ifCond .eq 7, 3) := by decide +kernel
theorem dX6_isPlace_18 : decode cX6_isPlace 18 = .ok (.iconst 1, 1) := by decide +kernel
theorem dX6_isPlace_19 : decode cX6_isPlace 19 = .ok (.goto 4, 3) := by decide +kernel
theorem dX6_isPlace_22 : decode cX6_isPlace 22 = .ok (.iconst 0, 1) := by decide +kernel
theorem dX6_isPlace_23 : decode cX6_isPlace 23 = .ok (.ireturn, 1) := by decide +kernel
theorem dX6_isFlame_0 : decode cX6_isFlame 0 = .ok (.iload_n 1, 1) := by decide +kernel
theorem dX6_isFlame_1 : decode cX6_isFlame 1 = .ok (.iconst 0, 1) := by decide +kernel
theorem dX6_isFlame_2 : decode cX6_isFlame 2 = .ok (.aload_n 0, 1) := by decide +kernel
theorem dX6_isFlame_3 : decode cX6_isFlame 3 = .ok (.getfield 52, 3) := by decide +kernel
theorem dX6_isFlame_6 : decode cX6_isFlame 6 = .ok (.getfield 76, 3) := by decide +kernel
theorem dX6_isFlame_9 : decode cX6_isFlame 9 = .ok (.iconst 1, 1) := by decide +kernel
theorem dX6_isFlame_10 : decode cX6_isFlame 10 = .ok (.isub, 1) := by decide +kernel
theorem dX6_isFlame_11 : decode cX6_isFlame 11 = .ok (.invokestatic 71, 3) := by decide +kernel
theorem dX6_isFlame_14 : decode cX6_isFlame 14 = .ok (.ireturn, 1) := by decide +kernel
theorem dX6_isPair_0 : decode cX6_isPair 0 = .ok (.aload_n 0, 1) := by decide +kernel
theorem dX6_isPair_1 : decode cX6_isPair 1 = .ok (.iload_n 1, 1) := by decide +kernel
theorem dX6_isPair_2 : decode cX6_isPair 2 = .ok (.invokevirtual 84, 3) := by decide +kernel
theorem dX6_isPair_5 : decode cX6_isPair 5 = .ok (.ifCond .eq 20, 3) := by decide +kernel
theorem dX6_isPair_8 : decode cX6_isPair 8 = .ok (.aload_n 0, 1) := by decide +kernel
theorem dX6_isPair_9 : decode cX6_isPair 9 = .ok (.iload_n 2, 1) := by decide +kernel
theorem dX6_isPair_10 : decode cX6_isPair 10 = .ok (.invokevirtual 84, 3) := by decide +kernel
theorem dX6_isPair_13 : decode cX6_isPair 13 = .ok (.ifCond .eq 12, 3) := by decide +kernel
theorem dX6_isPair_16 : decode cX6_isPair 16 = .ok (.iload_n 1, 1) := by decide +kernel
theorem dX6_isPair_17 : decode cX6_isPair 17 = .ok (.iload_n 2, 1) := by decide +kernel
theorem dX6_isPair_18 : decode cX6_isPair 18 = .ok (.if_icmp .eq 7, 3) := by decide +kernel
theorem dX6_isPair_21 : decode cX6_isPair 21 = .ok (.iconst 1, 1) := by decide +kernel
theorem dX6_isPair_22 : decode cX6_isPair 22 = .ok (.goto 4, 3) := by decide +kernel
theorem dX6_isPair_25 : decode cX6_isPair 25 = .ok (.iconst 0, 1) := by decide +kernel
theorem dX6_isPair_26 : decode cX6_isPair 26 = .ok (.ireturn, 1) := by decide +kernel
theorem dX6_ahead_0 : decode cX6_ahead 0 = .ok (.iload_n 0, 1) := by decide +kernel
theorem dX6_ahead_1 : decode cX6_ahead 1 = .ok (.iload_n 1, 1) := by decide +kernel
theorem dX6_ahead_2 : decode cX6_ahead 2 = .ok (.isub, 1) := by decide +kernel
theorem dX6_ahead_3 : decode cX6_ahead 3 = .ok (.istore_n 2, 1) := by decide +kernel
theorem dX6_ahead_4 : decode cX6_ahead 4 = .ok (.iload_n 2, 1) := by decide +kernel
theorem dX6_ahead_5 : decode cX6_ahead 5 = .ok (.bipush 60, 2) := by decide +kernel
theorem dX6_ahead_7 : decode cX6_ahead 7 = .ok (.if_icmp .lt 8, 3) := by decide +kernel
theorem dX6_ahead_10 : decode cX6_ahead 10 = .ok (.iload_n 2, 1) := by decide +kernel
theorem dX6_ahead_11 : decode cX6_ahead 11 = .ok (.bipush 120, 2) := by decide +kernel
theorem dX6_ahead_13 : decode cX6_ahead 13 = .ok (.isub, 1) := by decide +kernel
theorem dX6_ahead_14 : decode cX6_ahead 14 = .ok (.ireturn, 1) := by decide +kernel
theorem dX6_ahead_15 : decode cX6_ahead 15 = .ok (.iload_n 2, 1) := by decide +kernel
theorem dX6_ahead_16 : decode cX6_ahead 16 = .ok (.bipush (-60), 2) := by decide +kernel
theorem dX6_ahead_18 : decode cX6_ahead 18 = .ok (.if_icmp .ge 10, 3) := by decide +kernel
theorem dX6_ahead_21 : decode cX6_ahead 21 = .ok (.iload_n 2, 1) := by decide +kernel
theorem dX6_ahead_22 : decode cX6_ahead 22 = .ok (.bipush 120, 2) := by decide +kernel
theorem dX6_ahead_24 : decode cX6_ahead 24 = .ok (.iadd, 1) := by decide +kernel
theorem dX6_ahead_25 : decode cX6_ahead 25 = .ok (.goto 4, 3) := by decide +kernel
theorem dX6_ahead_28 : decode cX6_ahead 28 = .ok (.iload_n 2, 1) := by decide +kernel
theorem dX6_ahead_29 : decode cX6_ahead 29 = .ok (.ireturn, 1) := by decide +kernel
theorem dX6_held_0 : decode cX6_held 0 = .ok (.iload_n 0, 1) := by decide +kernel
theorem dX6_held_1 : decode cX6_held 1 = .ok (.iload_n 1, 1) := by decide +kernel
theorem dX6_held_2 : decode cX6_held 2 = .ok (.if_icmp .ge 5, 3) := by decide +kernel
theorem dX6_held_5 : decode cX6_held 5 = .ok (.iload_n 1, 1) := by decide +kernel
theorem dX6_held_6 : decode cX6_held 6 = .ok (.ireturn, 1) := by decide +kernel
theorem dX6_held_7 : decode cX6_held 7 = .ok (.iload_n 0, 1) := by decide +kernel
theorem dX6_held_8 : decode cX6_held 8 = .ok (.iload_n 2, 1) := by decide +kernel
theorem dX6_held_9 : decode cX6_held 9 = .ok (.if_icmp .le 7, 3) := by decide +kernel
theorem dX6_held_12 : decode cX6_held 12 = .ok (.iload_n 2, 1) := by decide +kernel
theorem dX6_held_13 : decode cX6_held 13 = .ok (.goto 4, 3) := by decide +kernel
theorem dX6_held_16 : decode cX6_held 16 = .ok (.iload_n 0, 1) := by decide +kernel
theorem dX6_held_17 : decode cX6_held 17 = .ok (.ireturn, 1) := by decide +kernel
theorem dJ9_abs_0f7a4_0 : decode cJ9_abs_0f7a4 0 = .ok (.iload_n 0, 1) := by decide +kernel
theorem dJ9_abs_0f7a4_1 : decode cJ9_abs_0f7a4 1 = .ok (.ifCond .ge 8, 3) := by decide +kernel
theorem dJ9_abs_0f7a4_4 : decode cJ9_abs_0f7a4 4 = .ok (.iload_n 0, 1) := by decide +kernel
theorem dJ9_abs_0f7a4_5 : decode cJ9_abs_0f7a4 5 = .ok (.ineg, 1) := by decide +kernel
theorem dJ9_abs_0f7a4_6 : decode cJ9_abs_0f7a4 6 = .ok (.goto 4, 3) := by decide +kernel
theorem dJ9_abs_0f7a4_9 : decode cJ9_abs_0f7a4 9 = .ok (.iload_n 0, 1) := by decide +kernel
theorem dJ9_abs_0f7a4_10 : decode cJ9_abs_0f7a4 10 = .ok (.ireturn, 1) := by decide +kernel
theorem dJ9_max_7cf53_0 : decode cJ9_max_7cf53 0 = .ok (.iload_n 0, 1) := by decide +kernel
theorem dJ9_max_7cf53_1 : decode cJ9_max_7cf53 1 = .ok (.iload_n 1, 1) := by decide +kernel
theorem dJ9_max_7cf53_2 : decode cJ9_max_7cf53 2 = .ok (.if_icmp .lt 7, 3) := by decide +kernel
theorem dJ9_max_7cf53_5 : decode cJ9_max_7cf53 5 = .ok (.iload_n 0, 1) := by decide +kernel
theorem dJ9_max_7cf53_6 : decode cJ9_max_7cf53 6 = .ok (.goto 4, 3) := by decide +kernel
theorem dJ9_max_7cf53_9 : decode cJ9_max_7cf53 9 = .ok (.iload_n 1, 1) := by decide +kernel
theorem dJ9_max_7cf53_10 : decode cJ9_max_7cf53 10 = .ok (.ireturn, 1) := by decide +kernel
theorem dJ9_min_7cf53_0 : decode cJ9_min_7cf53 0 = .ok (.iload_n 0, 1) := by decide +kernel
theorem dJ9_min_7cf53_1 : decode cJ9_min_7cf53 1 = .ok (.iload_n 1, 1) := by decide +kernel
theorem dJ9_min_7cf53_2 : decode cJ9_min_7cf53 2 = .ok (.if_icmp .gt 7, 3) := by decide +kernel
theorem dJ9_min_7cf53_5 : decode cJ9_min_7cf53 5 = .ok (.iload_n 0, 1) := by decide +kernel
theorem dJ9_min_7cf53_6 : decode cJ9_min_7cf53 6 = .ok (.goto 4, 3) := by decide +kernel
theorem dJ9_min_7cf53_9 : decode cJ9_min_7cf53 9 = .ok (.iload_n 1, 1) := by decide +kernel
theorem dJ9_min_7cf53_10 : decode cJ9_min_7cf53 10 = .ok (.ireturn, 1) := by decide +kernel
theorem dJ0_charAt_5068e_0 : decode cJ0_charAt_5068e 0 = .ok (.aload_n 0, 1) := by decide +kernel
theorem dJ0_charAt_5068e_1 : decode cJ0_charAt_5068e 1 = .ok (.invokevirtual 492, 3) := by decide +kernel
theorem dJ0_charAt_5068e_4 : decode cJ0_charAt_5068e 4 = .ok (.ifCond .eq 12, 3) := by decide +kernel
theorem dJ0_charAt_5068e_7 : decode cJ0_charAt_5068e 7 = .ok (.aload_n 0, 1) := by decide +kernel
theorem dJ0_charAt_5068e_8 : decode cJ0_charAt_5068e 8 = .ok (.getfield 9, 3) := by decide +kernel
theorem dJ0_charAt_5068e_11 : decode cJ0_charAt_5068e 11 = .ok (.iload_n 1, 1) := by decide +kernel
theorem dJ0_charAt_5068e_12 : decode cJ0_charAt_5068e 12 = .ok (.invokestatic 495, 3) := by decide +kernel
theorem dJ0_charAt_5068e_15 : decode cJ0_charAt_5068e 15 = .ok (.ireturn, 1) := by decide +kernel
theorem dJ0_charAt_5068e_16 : decode cJ0_charAt_5068e 16 = .ok (.aload_n 0, 1) := by decide +kernel
theorem dJ0_charAt_5068e_17 : decode cJ0_charAt_5068e 17 = .ok (.getfield 9, 3) := by decide +kernel
theorem dJ0_charAt_5068e_20 : decode cJ0_charAt_5068e 20 = .ok (.iload_n 1, 1) := by decide +kernel
theorem dJ0_charAt_5068e_21 : decode cJ0_charAt_5068e 21 = .ok (.invokestatic 498, 3) := by decide +kernel
theorem dJ0_charAt_5068e_24 : decode cJ0_charAt_5068e 24 = .ok (.ireturn, 1) := by decide +kernel
theorem dJ0_isLatin1_aae02_0 : decode cJ0_isLatin1_aae02 0 = .ok (.getstatic 38, 3) := by decide +kernel
theorem dJ0_isLatin1_aae02_3 : decode cJ0_isLatin1_aae02 3 = .ok (.ifCond .eq 14, 3) := by decide +kernel
theorem dJ0_isLatin1_aae02_6 : decode cJ0_isLatin1_aae02 6 = .ok (.aload_n 0, 1) := by decide +kernel
theorem dJ0_isLatin1_aae02_7 : decode cJ0_isLatin1_aae02 7 = .ok (.getfield 15, 3) := by decide +kernel
theorem dJ0_isLatin1_aae02_10 : decode cJ0_isLatin1_aae02 10 = .ok (.ifCond .ne 7, 3) := by decide +kernel
theorem dJ0_isLatin1_aae02_13 : decode cJ0_isLatin1_aae02 13 = .ok (.iconst 1, 1) := by decide +kernel
theorem dJ0_isLatin1_aae02_14 : decode cJ0_isLatin1_aae02 14 = .ok (.goto 4, 3) := by decide +kernel
theorem dJ0_isLatin1_aae02_17 : decode cJ0_isLatin1_aae02 17 = .ok (.iconst 0, 1) := by decide +kernel
theorem dJ0_isLatin1_aae02_18 : decode cJ0_isLatin1_aae02 18 = .ok (.ireturn, 1) := by decide +kernel
theorem dJ0_checkIndex_df160_0 : decode cJ0_checkIndex_df160 0 = .ok (.iload_n 0, 1) := by decide +kernel
theorem dJ0_checkIndex_df160_1 : decode cJ0_checkIndex_df160 1 = .ok (.iload_n 1, 1) := by decide +kernel
theorem dJ0_checkIndex_df160_2 : decode cJ0_checkIndex_df160 2 = .ok (.getstatic 1053, 3) := by decide +kernel
theorem dJ0_checkIndex_df160_5 : decode cJ0_checkIndex_df160 5 = .ok (.invokestatic 1059, 3) := by decide +kernel
theorem dJ0_checkIndex_df160_8 : decode cJ0_checkIndex_df160 8 = .ok (.pop, 1) := by decide +kernel
theorem dJ0_checkIndex_df160_9 : decode cJ0_checkIndex_df160 9 = .ok (.return_, 1) := by decide +kernel
theorem dJ1_charAt_3b067_0 : decode cJ1_charAt_3b067 0 = .ok (.iload_n 1, 1) := by decide +kernel
theorem dJ1_charAt_3b067_1 : decode cJ1_charAt_3b067 1 = .ok (.aload_n 0, 1) := by decide +kernel
theorem dJ1_charAt_3b067_2 : decode cJ1_charAt_3b067 2 = .ok (.arraylength, 1) := by decide +kernel
theorem dJ1_charAt_3b067_3 : decode cJ1_charAt_3b067 3 = .ok (.invokestatic 9, 3) := by decide +kernel
theorem dJ1_charAt_3b067_6 : decode cJ1_charAt_3b067 6 = .ok (.aload_n 0, 1) := by decide +kernel
theorem dJ1_charAt_3b067_7 : decode cJ1_charAt_3b067 7 = .ok (.iload_n 1, 1) := by decide +kernel
theorem dJ1_charAt_3b067_8 : decode cJ1_charAt_3b067 8 = .ok (.baload, 1) := by decide +kernel
theorem dJ1_charAt_3b067_9 : decode cJ1_charAt_3b067 9 = .ok (.sipush 255, 3) := by decide +kernel
theorem dJ1_charAt_3b067_12 : decode cJ1_charAt_3b067 12 = .ok (.iand, 1) := by decide +kernel
theorem dJ1_charAt_3b067_13 : decode cJ1_charAt_3b067 13 = .ok (.i2c, 1) := by decide +kernel
theorem dJ1_charAt_3b067_14 : decode cJ1_charAt_3b067 14 = .ok (.ireturn, 1) := by decide +kernel
theorem dJ2_getChar_3b067_0 : decode cJ2_getChar_3b067 0 = .ok (.getstatic 44, 3) := by decide +kernel
theorem dJ2_getChar_3b067_3 : decode cJ2_getChar_3b067 3 = .ok (.ifCond .ne 25, 3) := by decide +kernel
theorem dJ2_getChar_3b067_6 : decode cJ2_getChar_3b067 6 = .ok (.iload_n 1, 1) := by decide +kernel
theorem dJ2_getChar_3b067_7 : decode cJ2_getChar_3b067 7 = .ok (.ifCond .lt 11, 3) := by decide +kernel
theorem dJ2_getChar_3b067_10 : decode cJ2_getChar_3b067 10 = .ok (.iload_n 1, 1) := by decide +kernel
theorem dJ2_getChar_3b067_11 : decode cJ2_getChar_3b067 11 = .ok (.aload_n 0, 1) := by decide +kernel
theorem dJ2_getChar_3b067_12 : decode cJ2_getChar_3b067 12 = .ok (.invokestatic 48, 3) := by decide +kernel
theorem dJ2_getChar_3b067_15 : decode cJ2_getChar_3b067 15 = .ok (.if_icmp .lt 13, 3) := by decide +kernel
theorem dJ2_getChar_3b067_18 : decode cJ2_getChar_3b067 18 = .ok (.new 52, 3) := by decide +kernel
theorem dJ2_getChar_3b067_21 : decode cJ2_getChar_3b067 21 = .ok (.dup, 1) := by decide +kernel
theorem dJ2_getChar_3b067_22 : decode cJ2_getChar_3b067 22 = .ok (.ldc 54, 2) := by decide +kernel
theorem dJ2_getChar_3b067_24 : decode cJ2_getChar_3b067 24 = .ok (.invokespecial 56, 3) := by decide +kernel
theorem dJ2_getChar_3b067_27 : decode cJ2_getChar_3b067 27 = .ok (.athrow, 1) := by decide +kernel
theorem dJ2_getChar_3b067_28 : decode cJ2_getChar_3b067 28 = .ok (.iload_n 1, 1) := by decide +kernel
theorem dJ2_getChar_3b067_29 : decode cJ2_getChar_3b067 29 = .ok (.iconst 1, 1) := by decide +kernel
theorem dJ2_getChar_3b067_30 : decode cJ2_getChar_3b067 30 = .ok (.ishl, 1) := by decide +kernel
theorem dJ2_getChar_3b067_31 : decode cJ2_getChar_3b067 31 = .ok (.istore_n 1, 1) := by decide +kernel
theorem dJ2_getChar_3b067_32 : decode cJ2_getChar_3b067 32 = .ok (.aload_n 0, 1) := by decide +kernel
theorem dJ2_getChar_3b067_33 : decode cJ2_getChar_3b067 33 = .ok (.iload_n 1, 1) := by decide +kernel
theorem dJ2_getChar_3b067_34 : decode cJ2_getChar_3b067 34 = .ok (.iinc 1 1, 3) := by decide +kernel
theorem dJ2_getChar_3b067_37 : decode cJ2_getChar_3b067 37 = .ok (.baload, 1) := by decide +kernel
theorem dJ2_getChar_3b067_38 : decode cJ2_getChar_3b067 38 = .ok (.sipush 255, 3) := by decide +kernel
theorem dJ2_getChar_3b067_41 : decode cJ2_getChar_3b067 41 = .ok (.iand, 1) := by decide +kernel
theorem dJ2_getChar_3b067_42 : decode cJ2_getChar_3b067 42 = .ok (.getstatic 59, 3) := by decide +kernel
theorem dJ2_getChar_3b067_45 : decode cJ2_getChar_3b067 45 = .ok (.ishl, 1) := by decide +kernel
theorem dJ2_getChar_3b067_46 : decode cJ2_getChar_3b067 46 = .ok (.aload_n 0, 1) := by decide +kernel
theorem dJ2_getChar_3b067_47 : decode cJ2_getChar_3b067 47 = .ok (.iload_n 1, 1) := by decide +kernel
theorem dJ2_getChar_3b067_48 : decode cJ2_getChar_3b067 48 = .ok (.baload, 1) := by decide +kernel
theorem dJ2_getChar_3b067_49 : decode cJ2_getChar_3b067 49 = .ok (.sipush 255, 3) := by decide +kernel
theorem dJ2_getChar_3b067_52 : decode cJ2_getChar_3b067 52 = .ok (.iand, 1) := by decide +kernel
theorem dJ2_getChar_3b067_53 : decode cJ2_getChar_3b067 53 = .ok (.getstatic 63, 3) := by decide +kernel
theorem dJ2_getChar_3b067_56 : decode cJ2_getChar_3b067 56 = .ok (.ishl, 1) := by decide +kernel
theorem dJ2_getChar_3b067_57 : decode cJ2_getChar_3b067 57 = .ok (.ior, 1) := by decide +kernel
theorem dJ2_getChar_3b067_58 : decode cJ2_getChar_3b067 58 = .ok (.i2c, 1) := by decide +kernel
theorem dJ2_getChar_3b067_59 : decode cJ2_getChar_3b067 59 = .ok (.ireturn, 1) := by decide +kernel
theorem dJ2_length_9d52b_0 : decode cJ2_length_9d52b 0 = .ok (.aload_n 0, 1) := by decide +kernel
theorem dJ2_length_9d52b_1 : decode cJ2_length_9d52b 1 = .ok (.arraylength, 1) := by decide +kernel
theorem dJ2_length_9d52b_2 : decode cJ2_length_9d52b 2 = .ok (.iconst 1, 1) := by decide +kernel
theorem dJ2_length_9d52b_3 : decode cJ2_length_9d52b 3 = .ok (.ishr, 1) := by decide +kernel
theorem dJ2_length_9d52b_4 : decode cJ2_length_9d52b 4 = .ok (.ireturn, 1) := by decide +kernel
theorem dJ2_charAt_3b067_0 : decode cJ2_charAt_3b067 0 = .ok (.iload_n 1, 1) := by decide +kernel
theorem dJ2_charAt_3b067_1 : decode cJ2_charAt_3b067 1 = .ok (.aload_n 0, 1) := by decide +kernel
theorem dJ2_charAt_3b067_2 : decode cJ2_charAt_3b067 2 = .ok (.invokestatic 67, 3) := by decide +kernel
theorem dJ2_charAt_3b067_5 : decode cJ2_charAt_3b067 5 = .ok (.aload_n 0, 1) := by decide +kernel
theorem dJ2_charAt_3b067_6 : decode cJ2_charAt_3b067 6 = .ok (.iload_n 1, 1) := by decide +kernel
theorem dJ2_charAt_3b067_7 : decode cJ2_charAt_3b067 7 = .ok (.invokestatic 71, 3) := by decide +kernel
theorem dJ2_charAt_3b067_10 : decode cJ2_charAt_3b067 10 = .ok (.ireturn, 1) := by decide +kernel
theorem dJ2_checkIndex_2214a_0 : decode cJ2_checkIndex_2214a 0 = .ok (.iload_n 0, 1) := by decide +kernel
theorem dJ2_checkIndex_2214a_1 : decode cJ2_checkIndex_2214a 1 = .ok (.aload_n 1, 1) := by decide +kernel
theorem dJ2_checkIndex_2214a_2 : decode cJ2_checkIndex_2214a 2 = .ok (.invokestatic 48, 3) := by decide +kernel
theorem dJ2_checkIndex_2214a_5 : decode cJ2_checkIndex_2214a 5 = .ok (.invokestatic 414, 3) := by decide +kernel
theorem dJ2_checkIndex_2214a_8 : decode cJ2_checkIndex_2214a 8 = .ok (.return_, 1) := by decide +kernel
theorem dJ3_checkIndex_8e157_0 : decode cJ3_checkIndex_8e157 0 = .ok (.iload_n 0, 1) := by decide +kernel
theorem dJ3_checkIndex_8e157_1 : decode cJ3_checkIndex_8e157 1 = .ok (.ifCond .lt 8, 3) := by decide +kernel
theorem dJ3_checkIndex_8e157_4 : decode cJ3_checkIndex_8e157 4 = .ok (.iload_n 0, 1) := by decide +kernel
theorem dJ3_checkIndex_8e157_5 : decode cJ3_checkIndex_8e157 5 = .ok (.iload_n 1, 1) := by decide +kernel
theorem dJ3_checkIndex_8e157_6 : decode cJ3_checkIndex_8e157 6 = .ok (.if_icmp .lt 10, 3) := by decide +kernel
theorem dJ3_checkIndex_8e157_9 : decode cJ3_checkIndex_8e157 9 = .ok (.aload_n 2, 1) := by decide +kernel
theorem dJ3_checkIndex_8e157_10 : decode cJ3_checkIndex_8e157 10 = .ok (.iload_n 0, 1) := by decide +kernel
theorem dJ3_checkIndex_8e157_11 : decode cJ3_checkIndex_8e157 11 = .ok (.iload_n 1, 1) := by decide +kernel
theorem dJ3_checkIndex_8e157_12 : decode cJ3_checkIndex_8e157 12 = .ok (.invokestatic 95, 3) := by decide +kernel
theorem dJ3_checkIndex_8e157_15 : decode cJ3_checkIndex_8e157 15 = .ok (.athrow, 1) := by decide +kernel
theorem dJ3_checkIndex_8e157_16 : decode cJ3_checkIndex_8e157 16 = .ok (.iload_n 0, 1) := by decide +kernel
theorem dJ3_checkIndex_8e157_17 : decode cJ3_checkIndex_8e157 17 = .ok (.ireturn, 1) := by decide +kernel
