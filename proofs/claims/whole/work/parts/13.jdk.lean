theorem wj_1053 : Cond.fieldLink RJ0 1053 RJ3 "SIOOBE_FORMATTER" "Ljava/util/function/BiFunction;" ∈ ctG := ctG_in 632 (by decide +kernel) (by decide +kernel)
theorem wj_38 : Cond.fieldLink RJ0 38 RJ0 "COMPACT_STRINGS" "Z" ∈ ctG := ctG_in 624 (by decide +kernel) (by decide +kernel)
theorem wj_15 : Cond.fieldLink RJ0 15 RJ0 "coder" "B" ∈ ctG := ctG_in 1294 (by decide +kernel) (by decide +kernel)
theorem wj_9 : Cond.fieldLink RJ0 9 RJ0 "value" "[B" ∈ ctG := ctG_in 1295 (by decide +kernel) (by decide +kernel)
section
variable {B : ctB} {n : Nat} {M : ctM}
abbrev poU (v0 : Option Value) (n : Nat) (M : ctM) : ctPost := fun v n' M' => v = v0 ∧ n' = n ∧ M' = M
theorem cJ3_check {x y : Int32} {f : Value} (hf : f = .null ∨ ∃ t, f = .ref t) (h1 : ¬ x < 0) (h2 : x < y) : ctC B mJ3_checkIndex_8e157 (0, 0, 0) [.int x, .int y, f] n M (poU (some (.int x)) n M) := by
  refine ctC_of (by decide) (by rcases hf with rfl | ⟨t, rfl⟩ <;> exact Nat.le_of_ble_eq_true rfl) ?_
  have e : ctEn 3 [.int x, .int y, f] = [some (.int x), some (.int y), some f] := by rcases hf with rfl | ⟨t, rfl⟩ <;> rfl
  show ctV B mJ3_checkIndex_8e157 (0, 0, 0) _ 0 (ctEn 3 [.int x, .int y, f]) [] (0, 0) n M
  rw [e]
  refine ct_iload_0 (q := 1) dJ3_checkIndex_8e157_0 rfl ?_
  refine ct_if_lt (q := 4) (tgt := 9) dJ3_checkIndex_8e157_1 (by decide) rfl (fun z => absurd z h1) (fun _ => ?_)
  refine ct_iload_0 (q := 5) dJ3_checkIndex_8e157_4 rfl ?_
  refine ct_iload_1 (q := 6) dJ3_checkIndex_8e157_5 rfl ?_
  refine ct_icmp_lt (q := 9) (tgt := 16) dJ3_checkIndex_8e157_6 (by decide) rfl (fun _ => ?_) (fun z => absurd h2 z)
  refine ct_iload_0 (q := 17) dJ3_checkIndex_8e157_16 rfl ?_
  exact ct_iret dJ3_checkIndex_8e157_17 rfl ⟨Nat.le_refl 0, Nat.le_refl 0⟩ ⟨rfl, rfl, rfl⟩
theorem cJ0_check {x y : Int32} (h1 : ¬ x < 0) (h2 : x < y) : ctC B mJ0_checkIndex_df160 (1, 0, 0) [.int x, .int y] n M (poU none n M) := by
  refine ctC_of (by decide) (Nat.le_of_ble_eq_true rfl) ?_
  show ctV B mJ0_checkIndex_df160 (1, 0, 0) _ 0 [some (.int x), some (.int y)] [] (0, 0) n M
  have fin : ∀ f : Value, (f = .null ∨ ∃ t, f = .ref t) → ctV B mJ0_checkIndex_df160 (1, 0, 0) (poU none n M) 5 [some (.int x), some (.int y)] [f, .int y, .int x] (0, 0) n M := by
    intro f hf
    refine ct_callS (As := [.int x, .int y, f]) (rest := []) dJ0_checkIndex_df160_5 lk_RJ0_1059 rfl (Nat.le_refl 1) (cJ3_check hf h1 h2) (Nat.le_of_ble_eq_true rfl) ⟨Nat.le_refl 0, Nat.le_refl 0⟩ rfl (fun v n' M' hq => ?_)
    obtain ⟨rfl, rfl, rfl⟩ := hq
    refine ct_pop (q := 9) dJ0_checkIndex_df160_8 rfl rfl ?_
    exact ct_vret dJ0_checkIndex_df160_9 rfl ⟨Nat.le_refl 0, Nat.le_refl 0⟩ ⟨rfl, rfl, rfl⟩
  refine ct_iload_0 (q := 1) dJ0_checkIndex_df160_0 rfl ?_
  refine ct_iload_1 (q := 2) dJ0_checkIndex_df160_1 rfl ?_
  refine ct_gsF (q := 5) dJ0_checkIndex_df160_2 wj_1053 rfl (fin _ (Or.inl rfl)) (fun t => fin _ (Or.inr ⟨_, rfl⟩))
theorem cJ0_isLatin1 {i : Nat} (hi : i < 2) : ctC B mJ0_isLatin1_aae02 (0, 0, 0) [ctsK B i] n M (poU (some (.int 1)) n M) := by
  refine ctC_of (by decide) (Nat.le_of_ble_eq_true rfl) ?_
  show ctV B mJ0_isLatin1_aae02 (0, 0, 0) _ 0 [some (ctsK B i)] [] (0, 0) n M
  refine ct_gsC (q := 3) dJ0_isLatin1_aae02_0 wj_38 rfl ?_
  refine ct_if_eq (q := 6) (tgt := 17) dJ0_isLatin1_aae02_3 (by decide) rfl (fun z => absurd z (by decide)) (fun _ => ?_)
  refine ct_aload_0 (q := 7) dJ0_isLatin1_aae02_6 rfl ?_
  refine ct_gcod (q := 10) hi dJ0_isLatin1_aae02_7 wj_15 rfl ?_
  refine ct_if_ne (q := 13) (tgt := 17) dJ0_isLatin1_aae02_10 (by decide) rfl (fun z => absurd rfl z) (fun _ => ?_)
  refine ct_iconst (v := 1) (q := 14) dJ0_isLatin1_aae02_13 (by decide) rfl ?_
  refine ct_goto (q := 18) dJ0_isLatin1_aae02_14 (by decide) ?_
  exact ct_zret dJ0_isLatin1_aae02_18 rfl (by decide) ⟨Nat.le_refl 0, Nat.le_refl 0⟩ ⟨rfl, rfl, rfl⟩
theorem chB : ∀ i, i < 2 → ∀ k, k < ctSL.getD i 0 → ((((ctSB.getD i []).getD k 0) &&& 255).toUInt32 % 65536).toInt32 = (ctSB.getD i []).getD k 0 := by decide +kernel
theorem cJ1_charAt {i : Nat} {k : Int32} (hi : i < 2) (h1 : ¬ k < 0) (h2 : k.toNatClampNeg < ctSL.getD i 0) : ctC B mJ1_charAt_3b067 (2, 0, 0) [ctsV B i, .int k] n M (poU (some (.int ((ctSB.getD i []).getD k.toNatClampNeg 0))) n M) := by
  refine ctC_of (by decide) (Nat.le_of_ble_eq_true rfl) ?_
  show ctV B mJ1_charAt_3b067 (2, 0, 0) _ 0 [some (ctsV B i), some (.int k)] [] (0, 0) n M
  have hin : vp_in k (ctSL.getD i 0) := fun z => z.elim h1 (fun y => by omega)
  have hsm : ctSL.getD i 0 < 2 ^ 31 := by
    rcases (show i = 0 ∨ i = 1 by omega) with rfl | rfl <;> decide
  have hlt : k < Int32.ofNat (ctSL.getD i 0) := by
    obtain ⟨j, hj, rfl⟩ := vp_in_of hin hsm
    exact nI_lt hj hsm
  refine ct_iload_1 (q := 1) dJ1_charAt_3b067_0 rfl ?_
  refine ct_aload_0 (q := 2) dJ1_charAt_3b067_1 rfl ?_
  refine ct_slen (q := 3) hi dJ1_charAt_3b067_2 rfl ?_
  refine ct_callS (As := [.int k, .int (Int32.ofNat (ctSL.getD i 0))]) (rest := []) dJ1_charAt_3b067_3 lk_RJ1_9 rfl (Nat.le_refl 2) (cJ0_check h1 hlt) (Nat.le_of_ble_eq_true rfl) ⟨Nat.le_refl 0, Nat.le_refl 0⟩ rfl (fun v n' M' hq => ?_)
  obtain ⟨rfl, rfl, rfl⟩ := hq
  refine ct_aload_0 (q := 7) dJ1_charAt_3b067_6 rfl ?_
  refine ct_iload_1 (q := 8) dJ1_charAt_3b067_7 rfl ?_
  refine ct_sbald (q := 9) hi hin dJ1_charAt_3b067_8 rfl ?_
  refine ct_sipush (v := 255) (q := 12) dJ1_charAt_3b067_9 (by decide) rfl ?_
  refine ct_iand (q := 13) dJ1_charAt_3b067_12 rfl ?_
  refine ct_i2c (q := 14) dJ1_charAt_3b067_13 rfl ?_
  refine ct_cret dJ1_charAt_3b067_14 rfl (pk_nc _) ⟨Nat.le_refl 0, Nat.le_refl 0⟩ ⟨?_, rfl, rfl⟩
  rw [chB i hi _ h2]
theorem cJ0_charAt {i : Nat} {k : Int32} (hi : i < 2) (h1 : ¬ k < 0) (h2 : k.toNatClampNeg < ctSL.getD i 0) : ctC B mJ0_charAt_5068e (3, 0, 0) [ctsK B i, .int k] n M (poU (some (.int ((ctSB.getD i []).getD k.toNatClampNeg 0))) n M) := by
  refine ctC_of (by decide) (Nat.le_of_ble_eq_true rfl) ?_
  show ctV B mJ0_charAt_5068e (3, 0, 0) _ 0 [some (ctsK B i), some (.int k)] [] (0, 0) n M
  refine ct_aload_0 (q := 1) dJ0_charAt_5068e_0 rfl ?_
  refine ct_callVs (As := []) (rest := []) hi dJ0_charAt_5068e_1 lk_RJ0_492 rfl (by decide) (cJ0_isLatin1 hi) rfl (Nat.le_of_ble_eq_true rfl) ⟨Nat.le_refl 0, Nat.le_refl 0⟩ rfl (fun v n' M' hq => ?_)
  obtain ⟨rfl, rfl, rfl⟩ := hq
  refine ct_if_eq (q := 7) (tgt := 16) dJ0_charAt_5068e_4 (by decide) rfl (fun z => absurd z (by decide)) (fun _ => ?_)
  refine ct_aload_0 (q := 8) dJ0_charAt_5068e_7 rfl ?_
  refine ct_gval (q := 11) hi dJ0_charAt_5068e_8 wj_9 rfl ?_
  refine ct_iload_1 (q := 12) dJ0_charAt_5068e_11 rfl ?_
  refine ct_callS (As := [ctsV B i, .int k]) (rest := []) dJ0_charAt_5068e_12 lk_RJ0_495 rfl (by decide) (cJ1_charAt hi h1 h2) (Nat.le_of_ble_eq_true rfl) ⟨Nat.le_refl 0, Nat.le_refl 0⟩ rfl (fun v n' M' hq => ?_)
  obtain ⟨rfl, rfl, rfl⟩ := hq
  refine ct_cret dJ0_charAt_5068e_15 rfl ?_ ⟨Nat.le_refl 0, Nat.le_refl 0⟩ ⟨rfl, rfl, rfl⟩
  have := chB i hi _ h2
  rw [← this]
  exact pk_nc _
theorem ct_charAt {μ : Mi} {lv : Nat} {post : ctPost} {pc q : Nat} {L : List (Option Value)} {rest : List Value} {idx i : Nat} {k x : Int32} (hi : i < 2) (hd : decode μ.2.1 pc = .ok (.invokevirtual idx, 3)) (hl : ctLkV μ.1.cls idx mJ0_charAt_5068e 1) (hR : 3 + 1 ≤ lv) (hrest : (rest.map fun v => v.category).sum ≤ 8) (hx : chA i k = some x) (hp : pc + 3 = q) (K : ctV B μ (lv, 0, 0) post q L (.int x :: rest) (0, 0) n M) : ctV B μ (lv, 0, 0) post pc L (.int k :: ctsK B i :: rest) (0, 0) n M := by
  subst hp
  unfold chA at hx
  split at hx
  · rename_i g
    cases hx
    refine ct_callVs (R' := (3, 0, 0)) (As := [.int k]) (rest := rest) hi hd hl rfl hR (cJ0_charAt hi g.1 g.2) rfl hrest ⟨Nat.le_refl 0, Nat.le_refl 0⟩ rfl (fun v n' M' hq => ?_)
    obtain ⟨rfl, rfl, rfl⟩ := hq
    exact K
  · cases hx
end
theorem ct_lessK {B : ctB} {μ : Mi} {R : Nat × Nat × Nat} {post : ctPost} {pc n : Nat} {M : ctM} {L : List (Option Value)} {cs : Nat × Nat} {st : List Value} {L' : List (Option Value)} (K : ctV B μ R post pc L' st cs n M) (hs : ctSub L' L) : ctV B μ R post pc L st cs n M := ct_less hs K
theorem ct_aloadN_7 {B : ctB} {μ : Mi} {R : Nat × Nat × Nat} {post : ctPost} {pc q n : Nat} {M : ctM} {cs : Nat × Nat} {st : List Value} {x0 x1 x2 x3 x4 x5 x6 : Option Value} {l : List (Option Value)} (hd : decode μ.2.1 pc = .ok (.aload 7, 2)) (hp : pc + 2 = q) (K : ctV B μ R post q (x0 :: x1 :: x2 :: x3 :: x4 :: x5 :: x6 :: some .null :: l) (.null :: st) cs n M) : ctV B μ R post pc (x0 :: x1 :: x2 :: x3 :: x4 :: x5 :: x6 :: some .null :: l) st cs n M := by
  subst hp
  exact fun p e s m args below meth c H locs ls C w S h => lv_aloadN C.1 C.2.1 hd (h.2.2 7 _ rfl) (K p e s m args below meth c H locs ls C w S h)
