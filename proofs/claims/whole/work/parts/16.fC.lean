def fX6_isKind (x0 : Int32) (M : ctM) : Option (Int32 × ctM) :=
  (fX6_isWithin x0 0 5 M).bind fun r21 =>
  if r21.1 = 0 ∨ r21.1 = 1 then some (r21.1, r21.2) else none

set_option maxHeartbeats 4000000 in
set_option maxRecDepth 20000 in
theorem ctX6_isKind {B : ctB} {n : Nat} (hB : ctOk B kdC lnC n) {x0 : Int32} {M : ctM} {r : Int32 × ctM} (h : fX6_isKind x0 M = some r) : ctC B mX6_isKind (1, 0, 0) [.int x0] n M (poI r n) := by
  refine ctC_of (by decide) (Nat.le_of_ble_eq_true rfl) ?_
  show ctV B mX6_isKind (1, 0, 0) (poI r n) 0 [some (.int x0)] [] (0, 0) n M
  unfold fX6_isKind at h
  refine ct_iload_0 (q := 1) dX6_isKind_0 rfl ?_
  refine ct_iconst (v := 0) (q := 2) dX6_isKind_1 (by decide) rfl ?_
  refine ct_iconst (v := 5) (q := 3) dX6_isKind_2 (by decide) rfl ?_
  obtain ⟨r21, gr21, h⟩ := ob h
  refine ct_cSi3 (q := 6) dX6_isKind_3 lk_RX6_71 (by decide) (ctX6_isWithin hB gr21) (Nat.le_of_ble_eq_true rfl) rfl ?_
  by_cases z22 : r21.1 = 0 ∨ r21.1 = 1
  · exact ct_zret dX6_isKind_6 rfl z22 ⟨Nat.le_refl 0, Nat.le_refl 0⟩ (poI_of (it_t h z22))
  · exact absurd (it_f h z22) (by simp)

def fX6_isOnBoard (x0 : Int32) (x1 : Int32) (M : ctM) : Option (Int32 × ctM) :=
  (fX6_isWithin x0 0 29 M).bind fun r21 =>
  if r21.1 = 0 then
    some (0, r21.2)
  else
    (fX6_isWithin x1 0 29 r21.2).bind fun r23 =>
    if r23.1 = 0 then
      some (0, r23.2)
    else
      some (1, r23.2)

set_option maxHeartbeats 4000000 in
set_option maxRecDepth 20000 in
theorem ctX6_isOnBoard {B : ctB} {n : Nat} (hB : ctOk B kdC lnC n) {x0 : Int32} {x1 : Int32} {M : ctM} {r : Int32 × ctM} (h : fX6_isOnBoard x0 x1 M = some r) : ctC B mX6_isOnBoard (1, 0, 0) [.int x0, .int x1] n M (poI r n) := by
  refine ctC_of (by decide) (Nat.le_of_ble_eq_true rfl) ?_
  show ctV B mX6_isOnBoard (1, 0, 0) (poI r n) 0 [some (.int x0), some (.int x1)] [] (0, 0) n M
  unfold fX6_isOnBoard at h
  refine ct_iload_0 (q := 1) dX6_isOnBoard_0 rfl ?_
  refine ct_iconst (v := 0) (q := 2) dX6_isOnBoard_1 (by decide) rfl ?_
  refine ct_bipush (v := 29) (q := 4) dX6_isOnBoard_2 (by decide) rfl ?_
  obtain ⟨r21, gr21, h⟩ := ob h
  refine ct_cSi3 (q := 7) dX6_isOnBoard_4 lk_RX6_71 (by decide) (ctX6_isWithin hB gr21) (Nat.le_of_ble_eq_true rfl) rfl ?_
  refine ct_if_eq (q := 10) (tgt := 24) dX6_isOnBoard_7 (by decide) rfl (fun z22 => ?_) (fun z22 => ?_)
  · replace h := it_t h z22
    refine ct_iconst (v := 0) (q := 25) dX6_isOnBoard_24 (by decide) rfl ?_
    exact ct_zret dX6_isOnBoard_25 rfl (by decide) ⟨Nat.le_refl 0, Nat.le_refl 0⟩ (poI_of h)
  · replace h := it_f h z22
    refine ct_iload_1 (q := 11) dX6_isOnBoard_10 rfl ?_
    refine ct_iconst (v := 0) (q := 12) dX6_isOnBoard_11 (by decide) rfl ?_
    refine ct_bipush (v := 29) (q := 14) dX6_isOnBoard_12 (by decide) rfl ?_
    obtain ⟨r23, gr23, h⟩ := ob h
    refine ct_cSi3 (q := 17) dX6_isOnBoard_14 lk_RX6_71 (by decide) (ctX6_isWithin hB gr23) (Nat.le_of_ble_eq_true rfl) rfl ?_
    refine ct_if_eq (q := 20) (tgt := 24) dX6_isOnBoard_17 (by decide) rfl (fun z24 => ?_) (fun z24 => ?_)
    · replace h := it_t h z24
      refine ct_iconst (v := 0) (q := 25) dX6_isOnBoard_24 (by decide) rfl ?_
      exact ct_zret dX6_isOnBoard_25 rfl (by decide) ⟨Nat.le_refl 0, Nat.le_refl 0⟩ (poI_of h)
    · replace h := it_f h z24
      refine ct_iconst (v := 1) (q := 21) dX6_isOnBoard_20 (by decide) rfl ?_
      refine ct_goto (q := 25) dX6_isOnBoard_21 (by decide) ?_
      exact ct_zret dX6_isOnBoard_25 rfl (by decide) ⟨Nat.le_refl 0, Nat.le_refl 0⟩ (poI_of h)

def fX6_isPlace (x0 : Int32) (M : ctM) : Option (Int32 × ctM) :=
  if x0 < 0 then
    some (0, M)
  else
    (fX6_isOnBoard (x0 / 100) (x0 % 100) M).bind fun r22 =>
    if r22.1 = 0 then
      some (0, r22.2)
    else
      some (1, r22.2)

set_option maxHeartbeats 4000000 in
set_option maxRecDepth 20000 in
theorem ctX6_isPlace {B : ctB} {n : Nat} (hB : ctOk B kdC lnC n) {x0 : Int32} {M : ctM} {r : Int32 × ctM} (h : fX6_isPlace x0 M = some r) : ctC B mX6_isPlace (2, 0, 0) [.int x0] n M (poI r n) := by
  refine ctC_of (by decide) (Nat.le_of_ble_eq_true rfl) ?_
  show ctV B mX6_isPlace (2, 0, 0) (poI r n) 0 [some (.int x0)] [] (0, 0) n M
  unfold fX6_isPlace at h
  refine ct_iload_0 (q := 1) dX6_isPlace_0 rfl ?_
  refine ct_if_lt (q := 4) (tgt := 22) dX6_isPlace_1 (by decide) rfl (fun z21 => ?_) (fun z21 => ?_)
  · replace h := it_t h z21
    refine ct_iconst (v := 0) (q := 23) dX6_isPlace_22 (by decide) rfl ?_
    exact ct_zret dX6_isPlace_23 rfl (by decide) ⟨Nat.le_refl 0, Nat.le_refl 0⟩ (poI_of h)
  · replace h := it_f h z21
    refine ct_iload_0 (q := 5) dX6_isPlace_4 rfl ?_
    refine ct_bipush (v := 100) (q := 7) dX6_isPlace_5 (by decide) rfl ?_
    refine ct_idiv (q := 8) dX6_isPlace_7 (by decide) rfl ?_
    refine ct_iload_0 (q := 9) dX6_isPlace_8 rfl ?_
    refine ct_bipush (v := 100) (q := 11) dX6_isPlace_9 (by decide) rfl ?_
    refine ct_irem (q := 12) dX6_isPlace_11 (by decide) rfl ?_
    obtain ⟨r22, gr22, h⟩ := ob h
    refine ct_cSi2 (q := 15) dX6_isPlace_12 lk_RX6_195 (by decide) (ctX6_isOnBoard hB gr22) (Nat.le_of_ble_eq_true rfl) rfl ?_
    refine ct_if_eq (q := 18) (tgt := 22) dX6_isPlace_15 (by decide) rfl (fun z23 => ?_) (fun z23 => ?_)
    · replace h := it_t h z23
      refine ct_iconst (v := 0) (q := 23) dX6_isPlace_22 (by decide) rfl ?_
      exact ct_zret dX6_isPlace_23 rfl (by decide) ⟨Nat.le_refl 0, Nat.le_refl 0⟩ (poI_of h)
    · replace h := it_f h z23
      refine ct_iconst (v := 1) (q := 19) dX6_isPlace_18 (by decide) rfl ?_
      refine ct_goto (q := 23) dX6_isPlace_19 (by decide) ?_
      exact ct_zret dX6_isPlace_23 rfl (by decide) ⟨Nat.le_refl 0, Nat.le_refl 0⟩ (poI_of h)

def fX6_flame (a0 : Nat) (x1 : Int32) (x2 : Int32) (x3 : Int32) (M : ctM) : Option (Int32 × ctM) :=
  (fX6_isKind x1 M).bind fun r21 =>
  if r21.1 = 0 then
    some ((-1000000001), r21.2)
  else
    (fX6_isPlace x2 r21.2).bind fun r23 =>
    if r23.1 = 0 then
      some ((-1000000001), r23.2)
    else
      (fX6_isWithin x3 1 9 r23.2).bind fun r25 =>
      if r25.1 = 0 then
        some ((-1000000001), r25.2)
      else
        (gP kdC 6 1 a0 r25.2).bind fun a27 =>
        (gI kdC 2 5 a27 r25.2).bind fun x28 =>
        if x28 < 8 then
          (gP kdC 6 1 a0 r25.2).bind fun a30 =>
          (cV kdC 2 a30 (fX2_lightOne a30 x1 (x2 / 100) (x2 % 100) x3 r25.2)).bind fun r31 =>
          some (r31.1, r31.2)
        else
          some ((-1000000003), r25.2)

set_option maxHeartbeats 4000000 in
set_option maxRecDepth 20000 in
theorem ctX6_flame {B : ctB} {n : Nat} (hB : ctOk B kdC lnC n) {a0 : Nat} {x1 : Int32} {x2 : Int32} {x3 : Int32} {M : ctM} {r : Int32 × ctM} (h : fX6_flame a0 x1 x2 x3 M = some r) : ctC B mX6_flame (3, 0, 0) [.ref a0, .int x1, .int x2, .int x3] n M (poI r n) := by
  refine ctC_of (by decide) (Nat.le_of_ble_eq_true rfl) ?_
  show ctV B mX6_flame (3, 0, 0) (poI r n) 0 [some (.ref a0), some (.int x1), some (.int x2), some (.int x3)] [] (0, 0) n M
  unfold fX6_flame at h
  refine ct_iload_1 (q := 1) dX6_flame_0 rfl ?_
  obtain ⟨r21, gr21, h⟩ := ob h
  refine ct_cSi1 (q := 4) dX6_flame_1 lk_RX6_64 (by decide) (ctX6_isKind hB gr21) (Nat.le_of_ble_eq_true rfl) rfl ?_
  refine ct_if_eq (q := 7) (tgt := 24) dX6_flame_4 (by decide) rfl (fun z22 => ?_) (fun z22 => ?_)
  · replace h := it_t h z22
    refine ct_ldc (q := 26) dX6_flame_24 wd_318 rfl ?_
    exact ct_iret dX6_flame_26 rfl ⟨Nat.le_refl 0, Nat.le_refl 0⟩ (poI_of h)
  · replace h := it_f h z22
    refine ct_iload_2 (q := 8) dX6_flame_7 rfl ?_
    obtain ⟨r23, gr23, h⟩ := ob h
    refine ct_cSi1 (q := 11) dX6_flame_8 lk_RX6_68 (by decide) (ctX6_isPlace hB gr23) (Nat.le_of_ble_eq_true rfl) rfl ?_
    refine ct_if_eq (q := 14) (tgt := 24) dX6_flame_11 (by decide) rfl (fun z24 => ?_) (fun z24 => ?_)
    · replace h := it_t h z24
      refine ct_ldc (q := 26) dX6_flame_24 wd_318 rfl ?_
      exact ct_iret dX6_flame_26 rfl ⟨Nat.le_refl 0, Nat.le_refl 0⟩ (poI_of h)
    · replace h := it_f h z24
      refine ct_iload_3 (q := 15) dX6_flame_14 rfl ?_
      refine ct_iconst (v := 1) (q := 16) dX6_flame_15 (by decide) rfl ?_
      refine ct_bipush (v := 9) (q := 18) dX6_flame_16 (by decide) rfl ?_
      obtain ⟨r25, gr25, h⟩ := ob h
      refine ct_cSi3 (q := 21) dX6_flame_18 lk_RX6_71 (by decide) (ctX6_isWithin hB gr25) (Nat.le_of_ble_eq_true rfl) rfl ?_
      refine ct_if_ne (q := 24) (tgt := 27) dX6_flame_21 (by decide) rfl (fun z26 => ?_) (fun z26 => ?_)
      · replace h := it_f h z26
        refine ct_aload_0 (q := 28) dX6_flame_27 rfl ?_
        obtain ⟨a27, ga27, h⟩ := ob h
        refine ct_getP (q := 31) hB dX6_flame_28 fl_RX6_52 rfl ga27 rfl ?_
        obtain ⟨x28, gx28, h⟩ := ob h
        refine ct_getI (q := 34) hB dX6_flame_31 fl_RX6_76 rfl gx28 rfl ?_
        refine ct_bipush (v := 8) (q := 36) dX6_flame_34 (by decide) rfl ?_
        refine ct_icmp_lt (q := 39) (tgt := 42) dX6_flame_36 (by decide) rfl (fun z29 => ?_) (fun z29 => ?_)
        · replace h := it_t h z29
          refine ct_aload_0 (q := 43) dX6_flame_42 rfl ?_
          obtain ⟨a30, ga30, h⟩ := ob h
          refine ct_getP (q := 46) hB dX6_flame_43 fl_RX6_52 rfl ga30 rfl ?_
          refine ct_iload_1 (q := 47) dX6_flame_46 rfl ?_
          refine ct_iload_2 (q := 48) dX6_flame_47 rfl ?_
          refine ct_bipush (v := 100) (q := 50) dX6_flame_48 (by decide) rfl ?_
          refine ct_idiv (q := 51) dX6_flame_50 (by decide) rfl ?_
          refine ct_iload_2 (q := 52) dX6_flame_51 rfl ?_
          refine ct_bipush (v := 100) (q := 54) dX6_flame_52 (by decide) rfl ?_
          refine ct_irem (q := 55) dX6_flame_54 (by decide) rfl ?_
          refine ct_iload_3 (q := 56) dX6_flame_55 rfl ?_
          obtain ⟨r31, gr31, h⟩ := ob h
          obtain ⟨er31, gr31⟩ := cV_spec gr31
          refine ct_cVi4 (q := 59) hB dX6_flame_56 lk_RX6_80 (by decide) (ctX2_lightOne hB gr31) er31 (by decide) rfl (Nat.le_of_ble_eq_true rfl) rfl ?_
          exact ct_iret dX6_flame_59 rfl ⟨Nat.le_refl 0, Nat.le_refl 0⟩ (poI_of h)
        · replace h := it_f h z29
          refine ct_ldc (q := 41) dX6_flame_39 wd_319 rfl ?_
          exact ct_iret dX6_flame_41 rfl ⟨Nat.le_refl 0, Nat.le_refl 0⟩ (poI_of h)
      · replace h := it_t h z26
        refine ct_ldc (q := 26) dX6_flame_24 wd_318 rfl ?_
        exact ct_iret dX6_flame_26 rfl ⟨Nat.le_refl 0, Nat.le_refl 0⟩ (poI_of h)

def fX6_isFlame (a0 : Nat) (x1 : Int32) (M : ctM) : Option (Int32 × ctM) :=
  (gP kdC 6 1 a0 M).bind fun a21 =>
  (gI kdC 2 5 a21 M).bind fun x22 =>
  (fX6_isWithin x1 0 (x22 - 1) M).bind fun r23 =>
  if r23.1 = 0 ∨ r23.1 = 1 then some (r23.1, r23.2) else none

set_option maxHeartbeats 4000000 in
set_option maxRecDepth 20000 in
theorem ctX6_isFlame {B : ctB} {n : Nat} (hB : ctOk B kdC lnC n) {a0 : Nat} {x1 : Int32} {M : ctM} {r : Int32 × ctM} (h : fX6_isFlame a0 x1 M = some r) : ctC B mX6_isFlame (1, 0, 0) [.ref a0, .int x1] n M (poI r n) := by
  refine ctC_of (by decide) (Nat.le_of_ble_eq_true rfl) ?_
  show ctV B mX6_isFlame (1, 0, 0) (poI r n) 0 [some (.ref a0), some (.int x1)] [] (0, 0) n M
  unfold fX6_isFlame at h
  refine ct_iload_1 (q := 1) dX6_isFlame_0 rfl ?_
  refine ct_iconst (v := 0) (q := 2) dX6_isFlame_1 (by decide) rfl ?_
  refine ct_aload_0 (q := 3) dX6_isFlame_2 rfl ?_
  obtain ⟨a21, ga21, h⟩ := ob h
  refine ct_getP (q := 6) hB dX6_isFlame_3 fl_RX6_52 rfl ga21 rfl ?_
  obtain ⟨x22, gx22, h⟩ := ob h
  refine ct_getI (q := 9) hB dX6_isFlame_6 fl_RX6_76 rfl gx22 rfl ?_
  refine ct_iconst (v := 1) (q := 10) dX6_isFlame_9 (by decide) rfl ?_
  refine ct_isub (q := 11) dX6_isFlame_10 rfl ?_
  obtain ⟨r23, gr23, h⟩ := ob h
  refine ct_cSi3 (q := 14) dX6_isFlame_11 lk_RX6_71 (by decide) (ctX6_isWithin hB gr23) (Nat.le_of_ble_eq_true rfl) rfl ?_
  by_cases z24 : r23.1 = 0 ∨ r23.1 = 1
  · exact ct_zret dX6_isFlame_14 rfl z24 ⟨Nat.le_refl 0, Nat.le_refl 0⟩ (poI_of (it_t h z24))
  · exact absurd (it_f h z24) (by simp)

def fX6_told (a0 : Nat) (x1 : Int32) (x2 : Int32) (M : ctM) : Option (Int32 × ctM) :=
  (cV kdC 6 a0 (fX6_isFlame a0 x1 M)).bind fun r21 =>
  if r21.1 = 0 then
    some ((-1000000001), r21.2)
  else
    (gP kdC 6 1 a0 r21.2).bind fun a23 =>
    (gP kdC 2 1 a23 r21.2).bind fun a24 =>
    (aP kdC lnC 11 a24 x1 r21.2).bind fun a25 =>
    if x2 = 0 then
      (gI kdC 0 0 a25 r21.2).bind fun x27 =>
      some (x27, r21.2)
    else
    if x2 = 1 then
      (gI kdC 0 1 a25 r21.2).bind fun x29 =>
      some (x29, r21.2)
    else
    if x2 = 2 then
      (gI kdC 0 2 a25 r21.2).bind fun x31 =>
      some (x31, r21.2)
    else
    if x2 = 3 then
      (gI kdC 0 3 a25 r21.2).bind fun x33 =>
      some (x33, r21.2)
    else
    if x2 = 4 then
      (gI kdC 0 4 a25 r21.2).bind fun x35 =>
      some (x35, r21.2)
    else
    if x2 = 5 then
      (gI kdC 0 5 a25 r21.2).bind fun x37 =>
      some (x37, r21.2)
    else
    if x2 = 6 then
      (gI kdC 0 6 a25 r21.2).bind fun x39 =>
      some (x39, r21.2)
    else
    if x2 = 7 then
      (gP kdC 6 1 a0 r21.2).bind fun a41 =>
      (cV kdC 2 a41 (fX2_paceOf a41 x1 r21.2)).bind fun r42 =>
      some (r42.1, r42.2)
    else
    if x2 = 8 then
      (gP kdC 6 1 a0 r21.2).bind fun a44 =>
      (cV kdC 2 a44 (fX2_pushesOn a44 x1 r21.2)).bind fun r45 =>
      some (r45.1, r45.2)
    else
    if x2 = 9 then
      (cV kdC 0 a25 (fX0_worth a25 r21.2)).bind fun r47 =>
      some (r47.1, r47.2)
    else
      some ((-1000000001), r21.2)

set_option maxHeartbeats 4000000 in
set_option maxRecDepth 20000 in
theorem ctX6_told {B : ctB} {n : Nat} (hB : ctOk B kdC lnC n) {a0 : Nat} {x1 : Int32} {x2 : Int32} {M : ctM} {r : Int32 × ctM} (h : fX6_told a0 x1 x2 M = some r) : ctC B mX6_told (4, 0, 0) [.ref a0, .int x1, .int x2] n M (poI r n) := by
  refine ctC_of (by decide) (Nat.le_of_ble_eq_true rfl) ?_
  show ctV B mX6_told (4, 0, 0) (poI r n) 0 [some (.ref a0), some (.int x1), some (.int x2), none] [] (0, 0) n M
  unfold fX6_told at h
  refine ct_aload_0 (q := 1) dX6_told_0 rfl ?_
  refine ct_iload_1 (q := 2) dX6_told_1 rfl ?_
  obtain ⟨r21, gr21, h⟩ := ob h
  obtain ⟨er21, gr21⟩ := cV_spec gr21
  refine ct_cVi1 (q := 5) hB dX6_told_2 lk_RX6_84 (by decide) (ctX6_isFlame hB gr21) er21 (by decide) rfl (Nat.le_of_ble_eq_true rfl) rfl ?_
  refine ct_if_ne (q := 8) (tgt := 11) dX6_told_5 (by decide) rfl (fun z22 => ?_) (fun z22 => ?_)
  · replace h := it_f h z22
    refine ct_aload_0 (q := 12) dX6_told_11 rfl ?_
    obtain ⟨a23, ga23, h⟩ := ob h
    refine ct_getP (q := 15) hB dX6_told_12 fl_RX6_52 rfl ga23 rfl ?_
    obtain ⟨a24, ga24, h⟩ := ob h
    refine ct_getP (q := 18) hB dX6_told_15 fl_RX6_87 rfl ga24 rfl ?_
    refine ct_iload_1 (q := 19) dX6_told_18 rfl ?_
    obtain ⟨a25, ga25, h⟩ := ob h
    refine ct_aald (q := 20) rfl hB dX6_told_19 ga25 rfl ?_
    refine ct_astore_3 (q := 21) dX6_told_20 (by decide) rfl rfl ?_
    refine ct_iload_2 (q := 22) dX6_told_21 rfl ?_
    by_cases z26 : x2 = 0
    · replace h := it_t h z26
      refine ct_tsw (q := 76) 0 z26 dX6_told_22 (by decide) (by decide) rfl (by decide) ?_
      refine ct_aload_3 (q := 77) dX6_told_76 rfl ?_
      obtain ⟨x27, gx27, h⟩ := ob h
      refine ct_getI (q := 80) hB dX6_told_77 fl_RX6_91 rfl gx27 rfl ?_
      exact ct_iret dX6_told_80 rfl ⟨Nat.le_refl 0, Nat.le_refl 0⟩ (poI_of h)
    replace h := it_f h z26
    by_cases z28 : x2 = 1
    · replace h := it_t h z28
      refine ct_tsw (q := 81) 1 z28 dX6_told_22 (by decide) (by decide) rfl (by decide) ?_
      refine ct_aload_3 (q := 82) dX6_told_81 rfl ?_
      obtain ⟨x29, gx29, h⟩ := ob h
      refine ct_getI (q := 85) hB dX6_told_82 fl_RX6_96 rfl gx29 rfl ?_
      exact ct_iret dX6_told_85 rfl ⟨Nat.le_refl 0, Nat.le_refl 0⟩ (poI_of h)
    replace h := it_f h z28
    by_cases z30 : x2 = 2
    · replace h := it_t h z30
      refine ct_tsw (q := 86) 2 z30 dX6_told_22 (by decide) (by decide) rfl (by decide) ?_
      refine ct_aload_3 (q := 87) dX6_told_86 rfl ?_
      obtain ⟨x31, gx31, h⟩ := ob h
      refine ct_getI (q := 90) hB dX6_told_87 fl_RX6_99 rfl gx31 rfl ?_
      exact ct_iret dX6_told_90 rfl ⟨Nat.le_refl 0, Nat.le_refl 0⟩ (poI_of h)
    replace h := it_f h z30
    by_cases z32 : x2 = 3
    · replace h := it_t h z32
      refine ct_tsw (q := 91) 3 z32 dX6_told_22 (by decide) (by decide) rfl (by decide) ?_
      refine ct_aload_3 (q := 92) dX6_told_91 rfl ?_
      obtain ⟨x33, gx33, h⟩ := ob h
      refine ct_getI (q := 95) hB dX6_told_92 fl_RX6_102 rfl gx33 rfl ?_
      exact ct_iret dX6_told_95 rfl ⟨Nat.le_refl 0, Nat.le_refl 0⟩ (poI_of h)
    replace h := it_f h z32
    by_cases z34 : x2 = 4
    · replace h := it_t h z34
      refine ct_tsw (q := 96) 4 z34 dX6_told_22 (by decide) (by decide) rfl (by decide) ?_
      refine ct_aload_3 (q := 97) dX6_told_96 rfl ?_
      obtain ⟨x35, gx35, h⟩ := ob h
      refine ct_getI (q := 100) hB dX6_told_97 fl_RX6_105 rfl gx35 rfl ?_
      exact ct_iret dX6_told_100 rfl ⟨Nat.le_refl 0, Nat.le_refl 0⟩ (poI_of h)
    replace h := it_f h z34
    by_cases z36 : x2 = 5
    · replace h := it_t h z36
      refine ct_tsw (q := 101) 5 z36 dX6_told_22 (by decide) (by decide) rfl (by decide) ?_
      refine ct_aload_3 (q := 102) dX6_told_101 rfl ?_
      obtain ⟨x37, gx37, h⟩ := ob h
      refine ct_getI (q := 105) hB dX6_told_102 fl_RX6_108 rfl gx37 rfl ?_
      exact ct_iret dX6_told_105 rfl ⟨Nat.le_refl 0, Nat.le_refl 0⟩ (poI_of h)
    replace h := it_f h z36
    by_cases z38 : x2 = 6
    · replace h := it_t h z38
      refine ct_tsw (q := 106) 6 z38 dX6_told_22 (by decide) (by decide) rfl (by decide) ?_
      refine ct_aload_3 (q := 107) dX6_told_106 rfl ?_
      obtain ⟨x39, gx39, h⟩ := ob h
      refine ct_getI (q := 110) hB dX6_told_107 fl_RX6_111 rfl gx39 rfl ?_
      exact ct_iret dX6_told_110 rfl ⟨Nat.le_refl 0, Nat.le_refl 0⟩ (poI_of h)
    replace h := it_f h z38
    by_cases z40 : x2 = 7
    · replace h := it_t h z40
      refine ct_tsw (q := 111) 7 z40 dX6_told_22 (by decide) (by decide) rfl (by decide) ?_
      refine ct_aload_0 (q := 112) dX6_told_111 rfl ?_
      obtain ⟨a41, ga41, h⟩ := ob h
      refine ct_getP (q := 115) hB dX6_told_112 fl_RX6_52 rfl ga41 rfl ?_
      refine ct_iload_1 (q := 116) dX6_told_115 rfl ?_
      obtain ⟨r42, gr42, h⟩ := ob h
      obtain ⟨er42, gr42⟩ := cV_spec gr42
      refine ct_cVi1 (q := 119) hB dX6_told_116 lk_RX6_114 (by decide) (ctX2_paceOf hB gr42) er42 (by decide) rfl (Nat.le_of_ble_eq_true rfl) rfl ?_
      exact ct_iret dX6_told_119 rfl ⟨Nat.le_refl 0, Nat.le_refl 0⟩ (poI_of h)
    replace h := it_f h z40
    by_cases z43 : x2 = 8
    · replace h := it_t h z43
      refine ct_tsw (q := 120) 8 z43 dX6_told_22 (by decide) (by decide) rfl (by decide) ?_
      refine ct_aload_0 (q := 121) dX6_told_120 rfl ?_
      obtain ⟨a44, ga44, h⟩ := ob h
      refine ct_getP (q := 124) hB dX6_told_121 fl_RX6_52 rfl ga44 rfl ?_
      refine ct_iload_1 (q := 125) dX6_told_124 rfl ?_
      obtain ⟨r45, gr45, h⟩ := ob h
      obtain ⟨er45, gr45⟩ := cV_spec gr45
      refine ct_cVi1 (q := 128) hB dX6_told_125 lk_RX6_118 (by decide) (ctX2_pushesOn hB gr45) er45 (by decide) rfl (Nat.le_of_ble_eq_true rfl) rfl ?_
      exact ct_iret dX6_told_128 rfl ⟨Nat.le_refl 0, Nat.le_refl 0⟩ (poI_of h)
    replace h := it_f h z43
    by_cases z46 : x2 = 9
    · replace h := it_t h z46
      refine ct_tsw (q := 129) 9 z46 dX6_told_22 (by decide) (by decide) rfl (by decide) ?_
      refine ct_aload_3 (q := 130) dX6_told_129 rfl ?_
      obtain ⟨r47, gr47, h⟩ := ob h
      obtain ⟨er47, gr47⟩ := cV_spec gr47
      refine ct_cVi0 (q := 133) hB dX6_told_130 lk_RX6_121 (by decide) (ctX0_worth hB gr47) er47 (by decide) rfl (Nat.le_of_ble_eq_true rfl) rfl ?_
      exact ct_iret dX6_told_133 rfl ⟨Nat.le_refl 0, Nat.le_refl 0⟩ (poI_of h)
    replace h := it_f h z46
    refine ct_tswD (q := 134) dX6_told_22 (by have := And.intro (lv_neT z26 (show Int32.toInt (0) = 0 by decide)) trivial; have y0 := lv_neT z26 (show Int32.toInt (0) = 0 by decide); have y1 := lv_neT z28 (show Int32.toInt (1) = 1 by decide); have y2 := lv_neT z30 (show Int32.toInt (2) = 2 by decide); have y3 := lv_neT z32 (show Int32.toInt (3) = 3 by decide); have y4 := lv_neT z34 (show Int32.toInt (4) = 4 by decide); have y5 := lv_neT z36 (show Int32.toInt (5) = 5 by decide); have y6 := lv_neT z38 (show Int32.toInt (6) = 6 by decide); have y7 := lv_neT z40 (show Int32.toInt (7) = 7 by decide); have y8 := lv_neT z43 (show Int32.toInt (8) = 8 by decide); have y9 := lv_neT z46 (show Int32.toInt (9) = 9 by decide); omega) (by decide) ?_
    refine ct_ldc (q := 136) dX6_told_134 wd_318 rfl ?_
    exact ct_iret dX6_told_136 rfl ⟨Nat.le_refl 0, Nat.le_refl 0⟩ (poI_of h)
  · replace h := it_t h z22
    refine ct_ldc (q := 10) dX6_told_8 wd_318 rfl ?_
    exact ct_iret dX6_told_10 rfl ⟨Nat.le_refl 0, Nat.le_refl 0⟩ (poI_of h)

def fX6_as (a0 : Nat) (x1 : Int32) (x2 : Int32) (M : ctM) : Option (Int32 × ctM) :=
  (cV kdC 6 a0 (fX6_isFlame a0 x1 M)).bind fun r21 =>
  if r21.1 = 0 then
    some ((-1000000001), r21.2)
  else
    (fX6_isKind x2 r21.2).bind fun r23 =>
    if r23.1 = 0 then
      some ((-1000000001), r23.2)
    else
      (gP kdC 6 1 a0 r23.2).bind fun a25 =>
      (gP kdC 2 1 a25 r23.2).bind fun a26 =>
      (aP kdC lnC 11 a26 x1 r23.2).bind fun a27 =>
      (cV kdC 0 a27 (fX0_isOf a27 x2 r23.2)).bind fun r28 =>
      if r28.1 = 0 then
        some ((-1000000012), r28.2)
      else
        (gI kdC 0 3 a27 r28.2).bind fun x30 =>
        some (x30, r28.2)

set_option maxHeartbeats 4000000 in
set_option maxRecDepth 20000 in
theorem ctX6_as {B : ctB} {n : Nat} (hB : ctOk B kdC lnC n) {a0 : Nat} {x1 : Int32} {x2 : Int32} {M : ctM} {r : Int32 × ctM} (h : fX6_as a0 x1 x2 M = some r) : ctC B mX6_as (2, 0, 0) [.ref a0, .int x1, .int x2] n M (poI r n) := by
  refine ctC_of (by decide) (Nat.le_of_ble_eq_true rfl) ?_
  show ctV B mX6_as (2, 0, 0) (poI r n) 0 [some (.ref a0), some (.int x1), some (.int x2), none] [] (0, 0) n M
  unfold fX6_as at h
  refine ct_aload_0 (q := 1) dX6_as_0 rfl ?_
  refine ct_iload_1 (q := 2) dX6_as_1 rfl ?_
  obtain ⟨r21, gr21, h⟩ := ob h
  obtain ⟨er21, gr21⟩ := cV_spec gr21
  refine ct_cVi1 (q := 5) hB dX6_as_2 lk_RX6_84 (by decide) (ctX6_isFlame hB gr21) er21 (by decide) rfl (Nat.le_of_ble_eq_true rfl) rfl ?_
  refine ct_if_eq (q := 8) (tgt := 15) dX6_as_5 (by decide) rfl (fun z22 => ?_) (fun z22 => ?_)
  · replace h := it_t h z22
    refine ct_ldc (q := 17) dX6_as_15 wd_318 rfl ?_
    exact ct_iret dX6_as_17 rfl ⟨Nat.le_refl 0, Nat.le_refl 0⟩ (poI_of h)
  · replace h := it_f h z22
    refine ct_iload_2 (q := 9) dX6_as_8 rfl ?_
    obtain ⟨r23, gr23, h⟩ := ob h
    refine ct_cSi1 (q := 12) dX6_as_9 lk_RX6_64 (by decide) (ctX6_isKind hB gr23) (Nat.le_of_ble_eq_true rfl) rfl ?_
    refine ct_if_ne (q := 15) (tgt := 18) dX6_as_12 (by decide) rfl (fun z24 => ?_) (fun z24 => ?_)
    · replace h := it_f h z24
      refine ct_aload_0 (q := 19) dX6_as_18 rfl ?_
      obtain ⟨a25, ga25, h⟩ := ob h
      refine ct_getP (q := 22) hB dX6_as_19 fl_RX6_52 rfl ga25 rfl ?_
      obtain ⟨a26, ga26, h⟩ := ob h
      refine ct_getP (q := 25) hB dX6_as_22 fl_RX6_87 rfl ga26 rfl ?_
      refine ct_iload_1 (q := 26) dX6_as_25 rfl ?_
      obtain ⟨a27, ga27, h⟩ := ob h
      refine ct_aald (q := 27) rfl hB dX6_as_26 ga27 rfl ?_
      refine ct_astore_3 (q := 28) dX6_as_27 (by decide) rfl rfl ?_
      refine ct_aload_3 (q := 29) dX6_as_28 rfl ?_
      refine ct_iload_2 (q := 30) dX6_as_29 rfl ?_
      obtain ⟨r28, gr28, h⟩ := ob h
      obtain ⟨er28, gr28⟩ := cV_spec gr28
      refine ct_cVi1 (q := 33) hB dX6_as_30 lk_RX6_125 (by decide) (ctX0_isOf hB gr28) er28 (by decide) rfl (Nat.le_of_ble_eq_true rfl) rfl ?_
      refine ct_if_eq (q := 36) (tgt := 43) dX6_as_33 (by decide) rfl (fun z29 => ?_) (fun z29 => ?_)
      · replace h := it_t h z29
        refine ct_ldc (q := 45) dX6_as_43 wd_398 rfl ?_
        exact ct_iret dX6_as_45 rfl ⟨Nat.le_refl 0, Nat.le_refl 0⟩ (poI_of h)
      · replace h := it_f h z29
        refine ct_aload_3 (q := 37) dX6_as_36 rfl ?_
        obtain ⟨x30, gx30, h⟩ := ob h
        refine ct_getI (q := 40) hB dX6_as_37 fl_RX6_102 rfl gx30 rfl ?_
        refine ct_goto (q := 45) dX6_as_40 (by decide) ?_
        exact ct_iret dX6_as_45 rfl ⟨Nat.le_refl 0, Nat.le_refl 0⟩ (poI_of h)
    · replace h := it_t h z24
      refine ct_ldc (q := 17) dX6_as_15 wd_318 rfl ?_
      exact ct_iret dX6_as_17 rfl ⟨Nat.le_refl 0, Nat.le_refl 0⟩ (poI_of h)

def fX6_turns (a0 : Nat) (x1 : Int32) (x2 : Int32) (M : ctM) : Option (Int32 × ctM) :=
  (cV kdC 6 a0 (fX6_isFlame a0 x1 M)).bind fun r21 =>
  if r21.1 = 0 then
    some ((-1000000001), r21.2)
  else
    (fX6_isKind x2 r21.2).bind fun r23 =>
    if r23.1 = 0 then
      some ((-1000000001), r23.2)
    else
      (gP kdC 6 1 a0 r23.2).bind fun a25 =>
      (gP kdC 2 1 a25 r23.2).bind fun a26 =>
      (aP kdC lnC 11 a26 x1 r23.2).bind fun a27 =>
      (gI kdC 0 0 a27 r23.2).bind fun x28 =>
      (pI kdC 0 0 a27 x2 r23.2).bind fun M29 =>
      some (x28, M29)

set_option maxHeartbeats 4000000 in
set_option maxRecDepth 20000 in
theorem ctX6_turns {B : ctB} {n : Nat} (hB : ctOk B kdC lnC n) {a0 : Nat} {x1 : Int32} {x2 : Int32} {M : ctM} {r : Int32 × ctM} (h : fX6_turns a0 x1 x2 M = some r) : ctC B mX6_turns (2, 0, 0) [.ref a0, .int x1, .int x2] n M (poI r n) := by
  refine ctC_of (by decide) (Nat.le_of_ble_eq_true rfl) ?_
  show ctV B mX6_turns (2, 0, 0) (poI r n) 0 [some (.ref a0), some (.int x1), some (.int x2), none, none] [] (0, 0) n M
  unfold fX6_turns at h
  refine ct_aload_0 (q := 1) dX6_turns_0 rfl ?_
  refine ct_iload_1 (q := 2) dX6_turns_1 rfl ?_
  obtain ⟨r21, gr21, h⟩ := ob h
  obtain ⟨er21, gr21⟩ := cV_spec gr21
  refine ct_cVi1 (q := 5) hB dX6_turns_2 lk_RX6_84 (by decide) (ctX6_isFlame hB gr21) er21 (by decide) rfl (Nat.le_of_ble_eq_true rfl) rfl ?_
  refine ct_if_eq (q := 8) (tgt := 15) dX6_turns_5 (by decide) rfl (fun z22 => ?_) (fun z22 => ?_)
  · replace h := it_t h z22
    refine ct_ldc (q := 17) dX6_turns_15 wd_318 rfl ?_
    exact ct_iret dX6_turns_17 rfl ⟨Nat.le_refl 0, Nat.le_refl 0⟩ (poI_of h)
  · replace h := it_f h z22
    refine ct_iload_2 (q := 9) dX6_turns_8 rfl ?_
    obtain ⟨r23, gr23, h⟩ := ob h
    refine ct_cSi1 (q := 12) dX6_turns_9 lk_RX6_64 (by decide) (ctX6_isKind hB gr23) (Nat.le_of_ble_eq_true rfl) rfl ?_
    refine ct_if_ne (q := 15) (tgt := 18) dX6_turns_12 (by decide) rfl (fun z24 => ?_) (fun z24 => ?_)
    · replace h := it_f h z24
      refine ct_aload_0 (q := 19) dX6_turns_18 rfl ?_
      obtain ⟨a25, ga25, h⟩ := ob h
      refine ct_getP (q := 22) hB dX6_turns_19 fl_RX6_52 rfl ga25 rfl ?_
      obtain ⟨a26, ga26, h⟩ := ob h
      refine ct_getP (q := 25) hB dX6_turns_22 fl_RX6_87 rfl ga26 rfl ?_
      refine ct_iload_1 (q := 26) dX6_turns_25 rfl ?_
      obtain ⟨a27, ga27, h⟩ := ob h
      refine ct_aald (q := 27) rfl hB dX6_turns_26 ga27 rfl ?_
      refine ct_astore_3 (q := 28) dX6_turns_27 (by decide) rfl rfl ?_
      refine ct_aload_3 (q := 29) dX6_turns_28 rfl ?_
      obtain ⟨x28, gx28, h⟩ := ob h
      refine ct_getI (q := 32) hB dX6_turns_29 fl_RX6_91 rfl gx28 rfl ?_
      refine ct_istore_4 (q := 34) dX6_turns_32 (by decide) rfl rfl ?_
      refine ct_aload_3 (q := 35) dX6_turns_34 rfl ?_
      refine ct_iload_2 (q := 36) dX6_turns_35 rfl ?_
      obtain ⟨M29, gM29, h⟩ := ob h
      refine ct_putI (q := 39) hB dX6_turns_36 fl_RX6_91 rfl rfl (Or.inl rfl) gM29 rfl ?_
      refine ct_iload_4 (q := 41) dX6_turns_39 rfl ?_
      exact ct_iret dX6_turns_41 rfl ⟨Nat.le_refl 0, Nat.le_refl 0⟩ (poI_of h)
    · replace h := it_t h z24
      refine ct_ldc (q := 17) dX6_turns_15 wd_318 rfl ?_
      exact ct_iret dX6_turns_17 rfl ⟨Nat.le_refl 0, Nat.le_refl 0⟩ (poI_of h)

def fX6_isPhase (x0 : Int32) (M : ctM) : Option (Int32 × ctM) :=
  (fX6_isWithin x0 0 119 M).bind fun r21 =>
  if r21.1 = 0 ∨ r21.1 = 1 then some (r21.1, r21.2) else none

set_option maxHeartbeats 4000000 in
set_option maxRecDepth 20000 in
theorem ctX6_isPhase {B : ctB} {n : Nat} (hB : ctOk B kdC lnC n) {x0 : Int32} {M : ctM} {r : Int32 × ctM} (h : fX6_isPhase x0 M = some r) : ctC B mX6_isPhase (1, 0, 0) [.int x0] n M (poI r n) := by
  refine ctC_of (by decide) (Nat.le_of_ble_eq_true rfl) ?_
  show ctV B mX6_isPhase (1, 0, 0) (poI r n) 0 [some (.int x0)] [] (0, 0) n M
  unfold fX6_isPhase at h
  refine ct_iload_0 (q := 1) dX6_isPhase_0 rfl ?_
  refine ct_iconst (v := 0) (q := 2) dX6_isPhase_1 (by decide) rfl ?_
  refine ct_bipush (v := 119) (q := 4) dX6_isPhase_2 (by decide) rfl ?_
  obtain ⟨r21, gr21, h⟩ := ob h
  refine ct_cSi3 (q := 7) dX6_isPhase_4 lk_RX6_71 (by decide) (ctX6_isWithin hB gr21) (Nat.le_of_ble_eq_true rfl) rfl ?_
  by_cases z22 : r21.1 = 0 ∨ r21.1 = 1
  · exact ct_zret dX6_isPhase_7 rfl z22 ⟨Nat.le_refl 0, Nat.le_refl 0⟩ (poI_of (it_t h z22))
  · exact absurd (it_f h z22) (by simp)

def fX6_set_b84 (x2 : Int32) (x3 : Int32) (a4 : Nat) (x5 : Int32) (M : ctM) : Option (Int32 × ctM) :=
  if x2 = 2 then
    (fX6_isWithin x3 0 999 M).bind fun r22 =>
    if r22.1 = 0 then
      some (x5, r22.2)
    else
      (gI kdC 0 5 a4 r22.2).bind fun x24 =>
      (pI kdC 0 5 a4 x3 r22.2).bind fun M25 =>
      some (x24, M25)
  else
    some (x5, M)

set_option maxHeartbeats 4000000 in
set_option maxRecDepth 20000 in
theorem vX6_set_b84 {B : ctB} {n : Nat} (hB : ctOk B kdC lnC n) : ∀ (x2 : Int32) (x3 : Int32) (a4 : Nat) (x5 : Int32) (M : ctM) (r : Int32 × ctM), fX6_set_b84 x2 x3 a4 x5 M = some r → ctV B mX6_set (2, 0, 0) (poI r n) 84 [none, none, some (.int x2), some (.int x3), some (.ref a4), some (.int x5)] [] (0, 0) n M := by
  intro x2 x3 a4 x5 M r h
  unfold fX6_set_b84 at h
  refine ct_iload_2 (q := 85) dX6_set_84 rfl ?_
  refine ct_iconst (v := 2) (q := 86) dX6_set_85 (by decide) rfl ?_
  refine ct_icmp_ne (q := 89) (tgt := 113) dX6_set_86 (by decide) rfl (fun z21 => ?_) (fun z21 => ?_)
  · replace h := it_f h z21
    refine ct_iload_5 (q := 115) dX6_set_113 rfl ?_
    exact ct_iret dX6_set_115 rfl ⟨Nat.le_refl 0, Nat.le_refl 0⟩ (poI_of h)
  · replace h := it_t h z21
    refine ct_iload_3 (q := 90) dX6_set_89 rfl ?_
    refine ct_iconst (v := 0) (q := 91) dX6_set_90 (by decide) rfl ?_
    refine ct_sipush (v := 999) (q := 94) dX6_set_91 (by decide) rfl ?_
    obtain ⟨r22, gr22, h⟩ := ob h
    refine ct_cSi3 (q := 97) dX6_set_94 lk_RX6_71 (by decide) (ctX6_isWithin hB gr22) (Nat.le_of_ble_eq_true rfl) rfl ?_
    refine ct_if_eq (q := 100) (tgt := 113) dX6_set_97 (by decide) rfl (fun z23 => ?_) (fun z23 => ?_)
    · replace h := it_t h z23
      refine ct_iload_5 (q := 115) dX6_set_113 rfl ?_
      exact ct_iret dX6_set_115 rfl ⟨Nat.le_refl 0, Nat.le_refl 0⟩ (poI_of h)
    · replace h := it_f h z23
      refine ct_aload_4 (q := 102) dX6_set_100 rfl ?_
      obtain ⟨x24, gx24, h⟩ := ob h
      refine ct_getI (q := 105) hB dX6_set_102 fl_RX6_108 rfl gx24 rfl ?_
      refine ct_istore_5 (q := 107) dX6_set_105 (by decide) rfl rfl ?_
      refine ct_aload_4 (q := 109) dX6_set_107 rfl ?_
      refine ct_iload_3 (q := 110) dX6_set_109 rfl ?_
      obtain ⟨M25, gM25, h⟩ := ob h
      refine ct_putI (q := 113) hB dX6_set_110 fl_RX6_108 rfl rfl (Or.inl rfl) gM25 rfl ?_
      refine ct_iload_5 (q := 115) dX6_set_113 rfl ?_
      exact ct_iret dX6_set_115 rfl ⟨Nat.le_refl 0, Nat.le_refl 0⟩ (poI_of h)

def fX6_set_b56 (x2 : Int32) (x3 : Int32) (a4 : Nat) (x5 : Int32) (M : ctM) : Option (Int32 × ctM) :=
  if x2 = 1 then
    (fX6_isPhase x3 M).bind fun r22 =>
    if r22.1 = 0 then
      fX6_set_b84 x2 x3 a4 x5 r22.2
    else
      (gI kdC 0 4 a4 r22.2).bind fun x24 =>
      (pI kdC 0 4 a4 x3 r22.2).bind fun M25 =>
      some (x24, M25)
  else
    fX6_set_b84 x2 x3 a4 x5 M

set_option maxHeartbeats 4000000 in
set_option maxRecDepth 20000 in
theorem vX6_set_b56 {B : ctB} {n : Nat} (hB : ctOk B kdC lnC n) : ∀ (x2 : Int32) (x3 : Int32) (a4 : Nat) (x5 : Int32) (M : ctM) (r : Int32 × ctM), fX6_set_b56 x2 x3 a4 x5 M = some r → ctV B mX6_set (2, 0, 0) (poI r n) 56 [none, none, some (.int x2), some (.int x3), some (.ref a4), some (.int x5)] [] (0, 0) n M := by
  intro x2 x3 a4 x5 M r h
  unfold fX6_set_b56 at h
  refine ct_iload_2 (q := 57) dX6_set_56 rfl ?_
  refine ct_iconst (v := 1) (q := 58) dX6_set_57 (by decide) rfl ?_
  refine ct_icmp_ne (q := 61) (tgt := 84) dX6_set_58 (by decide) rfl (fun z21 => ?_) (fun z21 => ?_)
  · replace h := it_f h z21
    exact ct_lessK (vX6_set_b84 hB  x2 x3 a4 x5 M r h) (And.intro rfl (And.intro rfl (And.intro rfl (And.intro rfl (trivial)))))
  · replace h := it_t h z21
    refine ct_iload_3 (q := 62) dX6_set_61 rfl ?_
    obtain ⟨r22, gr22, h⟩ := ob h
    refine ct_cSi1 (q := 65) dX6_set_62 lk_RX6_129 (by decide) (ctX6_isPhase hB gr22) (Nat.le_of_ble_eq_true rfl) rfl ?_
    refine ct_if_eq (q := 68) (tgt := 84) dX6_set_65 (by decide) rfl (fun z23 => ?_) (fun z23 => ?_)
    · replace h := it_t h z23
      exact ct_lessK (vX6_set_b84 hB  x2 x3 a4 x5 r22.2 r h) (And.intro rfl (And.intro rfl (And.intro rfl (And.intro rfl (trivial)))))
    · replace h := it_f h z23
      refine ct_aload_4 (q := 70) dX6_set_68 rfl ?_
      obtain ⟨x24, gx24, h⟩ := ob h
      refine ct_getI (q := 73) hB dX6_set_70 fl_RX6_105 rfl gx24 rfl ?_
      refine ct_istore_5 (q := 75) dX6_set_73 (by decide) rfl rfl ?_
      refine ct_aload_4 (q := 77) dX6_set_75 rfl ?_
      refine ct_iload_3 (q := 78) dX6_set_77 rfl ?_
      obtain ⟨M25, gM25, h⟩ := ob h
      refine ct_putI (q := 81) hB dX6_set_78 fl_RX6_105 rfl rfl (Or.inl rfl) gM25 rfl ?_
      refine ct_goto (q := 113) dX6_set_81 (by decide) ?_
      refine ct_iload_5 (q := 115) dX6_set_113 rfl ?_
      exact ct_iret dX6_set_115 rfl ⟨Nat.le_refl 0, Nat.le_refl 0⟩ (poI_of h)

def fX6_set (a0 : Nat) (x1 : Int32) (x2 : Int32) (x3 : Int32) (M : ctM) : Option (Int32 × ctM) :=
  (cV kdC 6 a0 (fX6_isFlame a0 x1 M)).bind fun r21 =>
  if r21.1 = 0 then
    some ((-1000000001), r21.2)
  else
    (gP kdC 6 1 a0 r21.2).bind fun a23 =>
    (gP kdC 2 1 a23 r21.2).bind fun a24 =>
    (aP kdC lnC 11 a24 x1 r21.2).bind fun a25 =>
    if x2 = 0 then
      (fX6_isWithin x3 1 9 r21.2).bind fun r27 =>
      if r27.1 = 0 then
        fX6_set_b56 x2 x3 a25 (-1000000001) r27.2
      else
        (gI kdC 0 3 a25 r27.2).bind fun x29 =>
        (pI kdC 0 3 a25 x3 r27.2).bind fun M30 =>
        some (x29, M30)
    else
      fX6_set_b56 x2 x3 a25 (-1000000001) r21.2

set_option maxHeartbeats 4000000 in
set_option maxRecDepth 20000 in
theorem ctX6_set {B : ctB} {n : Nat} (hB : ctOk B kdC lnC n) {a0 : Nat} {x1 : Int32} {x2 : Int32} {x3 : Int32} {M : ctM} {r : Int32 × ctM} (h : fX6_set a0 x1 x2 x3 M = some r) : ctC B mX6_set (2, 0, 0) [.ref a0, .int x1, .int x2, .int x3] n M (poI r n) := by
  refine ctC_of (by decide) (Nat.le_of_ble_eq_true rfl) ?_
  show ctV B mX6_set (2, 0, 0) (poI r n) 0 [some (.ref a0), some (.int x1), some (.int x2), some (.int x3), none, none] [] (0, 0) n M
  unfold fX6_set at h
  refine ct_aload_0 (q := 1) dX6_set_0 rfl ?_
  refine ct_iload_1 (q := 2) dX6_set_1 rfl ?_
  obtain ⟨r21, gr21, h⟩ := ob h
  obtain ⟨er21, gr21⟩ := cV_spec gr21
  refine ct_cVi1 (q := 5) hB dX6_set_2 lk_RX6_84 (by decide) (ctX6_isFlame hB gr21) er21 (by decide) rfl (Nat.le_of_ble_eq_true rfl) rfl ?_
  refine ct_if_ne (q := 8) (tgt := 11) dX6_set_5 (by decide) rfl (fun z22 => ?_) (fun z22 => ?_)
  · replace h := it_f h z22
    refine ct_aload_0 (q := 12) dX6_set_11 rfl ?_
    obtain ⟨a23, ga23, h⟩ := ob h
    refine ct_getP (q := 15) hB dX6_set_12 fl_RX6_52 rfl ga23 rfl ?_
    obtain ⟨a24, ga24, h⟩ := ob h
    refine ct_getP (q := 18) hB dX6_set_15 fl_RX6_87 rfl ga24 rfl ?_
    refine ct_iload_1 (q := 19) dX6_set_18 rfl ?_
    obtain ⟨a25, ga25, h⟩ := ob h
    refine ct_aald (q := 20) rfl hB dX6_set_19 ga25 rfl ?_
    refine ct_astore_4 (q := 22) dX6_set_20 (by decide) rfl rfl ?_
    refine ct_ldc (q := 24) dX6_set_22 wd_318 rfl ?_
    refine ct_istore_5 (q := 26) dX6_set_24 (by decide) rfl rfl ?_
    refine ct_iload_2 (q := 27) dX6_set_26 rfl ?_
    refine ct_if_ne (q := 30) (tgt := 56) dX6_set_27 (by decide) rfl (fun z26 => ?_) (fun z26 => ?_)
    · replace h := it_f h z26
      exact ct_lessK (vX6_set_b56 hB  x2 x3 a25 (-1000000001) r21.2 r h) (And.intro rfl (And.intro rfl (And.intro rfl (And.intro rfl (trivial)))))
    · replace h := it_t h z26
      refine ct_iload_3 (q := 31) dX6_set_30 rfl ?_
      refine ct_iconst (v := 1) (q := 32) dX6_set_31 (by decide) rfl ?_
      refine ct_bipush (v := 9) (q := 34) dX6_set_32 (by decide) rfl ?_
      obtain ⟨r27, gr27, h⟩ := ob h
      refine ct_cSi3 (q := 37) dX6_set_34 lk_RX6_71 (by decide) (ctX6_isWithin hB gr27) (Nat.le_of_ble_eq_true rfl) rfl ?_
      refine ct_if_eq (q := 40) (tgt := 56) dX6_set_37 (by decide) rfl (fun z28 => ?_) (fun z28 => ?_)
      · replace h := it_t h z28
        exact ct_lessK (vX6_set_b56 hB  x2 x3 a25 (-1000000001) r27.2 r h) (And.intro rfl (And.intro rfl (And.intro rfl (And.intro rfl (trivial)))))
      · replace h := it_f h z28
        refine ct_aload_4 (q := 42) dX6_set_40 rfl ?_
        obtain ⟨x29, gx29, h⟩ := ob h
        refine ct_getI (q := 45) hB dX6_set_42 fl_RX6_102 rfl gx29 rfl ?_
        refine ct_istore_5 (q := 47) dX6_set_45 (by decide) rfl rfl ?_
        refine ct_aload_4 (q := 49) dX6_set_47 rfl ?_
        refine ct_iload_3 (q := 50) dX6_set_49 rfl ?_
        obtain ⟨M30, gM30, h⟩ := ob h
        refine ct_putI (q := 53) hB dX6_set_50 fl_RX6_102 rfl rfl (Or.inl rfl) gM30 rfl ?_
        refine ct_goto (q := 113) dX6_set_53 (by decide) ?_
        refine ct_iload_5 (q := 115) dX6_set_113 rfl ?_
        exact ct_iret dX6_set_115 rfl ⟨Nat.le_refl 0, Nat.le_refl 0⟩ (poI_of h)
  · replace h := it_t h z22
    refine ct_ldc (q := 10) dX6_set_8 wd_318 rfl ?_
    exact ct_iret dX6_set_10 rfl ⟨Nat.le_refl 0, Nat.le_refl 0⟩ (poI_of h)

def fX6_move (a0 : Nat) (x1 : Int32) (x2 : Int32) (M : ctM) : Option (Int32 × ctM) :=
  (cV kdC 6 a0 (fX6_isFlame a0 x1 M)).bind fun r21 =>
  if r21.1 = 0 then
    some ((-1000000001), r21.2)
  else
    (fX6_isPlace x2 r21.2).bind fun r23 =>
    if r23.1 = 0 then
      some ((-1000000001), r23.2)
    else
      (gP kdC 6 1 a0 r23.2).bind fun a25 =>
      (gP kdC 2 1 a25 r23.2).bind fun a26 =>
      (aP kdC lnC 11 a26 x1 r23.2).bind fun a27 =>
      (cV kdC 0 a27 (fX0_wayTo a27 (x2 / 100) (x2 % 100) r23.2)).bind fun r28 =>
      (pI kdC 0 1 a27 (x2 / 100) r28.2).bind fun M29 =>
      (pI kdC 0 2 a27 (x2 % 100) M29).bind fun M30 =>
      some (r28.1, M30)

set_option maxHeartbeats 4000000 in
set_option maxRecDepth 20000 in
theorem ctX6_move {B : ctB} {n : Nat} (hB : ctOk B kdC lnC n) {a0 : Nat} {x1 : Int32} {x2 : Int32} {M : ctM} {r : Int32 × ctM} (h : fX6_move a0 x1 x2 M = some r) : ctC B mX6_move (3, 0, 0) [.ref a0, .int x1, .int x2] n M (poI r n) := by
  refine ctC_of (by decide) (Nat.le_of_ble_eq_true rfl) ?_
  show ctV B mX6_move (3, 0, 0) (poI r n) 0 [some (.ref a0), some (.int x1), some (.int x2), none, none, none, none] [] (0, 0) n M
  unfold fX6_move at h
  refine ct_aload_0 (q := 1) dX6_move_0 rfl ?_
  refine ct_iload_1 (q := 2) dX6_move_1 rfl ?_
  obtain ⟨r21, gr21, h⟩ := ob h
  obtain ⟨er21, gr21⟩ := cV_spec gr21
  refine ct_cVi1 (q := 5) hB dX6_move_2 lk_RX6_84 (by decide) (ctX6_isFlame hB gr21) er21 (by decide) rfl (Nat.le_of_ble_eq_true rfl) rfl ?_
  refine ct_if_eq (q := 8) (tgt := 15) dX6_move_5 (by decide) rfl (fun z22 => ?_) (fun z22 => ?_)
  · replace h := it_t h z22
    refine ct_ldc (q := 17) dX6_move_15 wd_318 rfl ?_
    exact ct_iret dX6_move_17 rfl ⟨Nat.le_refl 0, Nat.le_refl 0⟩ (poI_of h)
  · replace h := it_f h z22
    refine ct_iload_2 (q := 9) dX6_move_8 rfl ?_
    obtain ⟨r23, gr23, h⟩ := ob h
    refine ct_cSi1 (q := 12) dX6_move_9 lk_RX6_68 (by decide) (ctX6_isPlace hB gr23) (Nat.le_of_ble_eq_true rfl) rfl ?_
    refine ct_if_ne (q := 15) (tgt := 18) dX6_move_12 (by decide) rfl (fun z24 => ?_) (fun z24 => ?_)
    · replace h := it_f h z24
      refine ct_aload_0 (q := 19) dX6_move_18 rfl ?_
      obtain ⟨a25, ga25, h⟩ := ob h
      refine ct_getP (q := 22) hB dX6_move_19 fl_RX6_52 rfl ga25 rfl ?_
      obtain ⟨a26, ga26, h⟩ := ob h
      refine ct_getP (q := 25) hB dX6_move_22 fl_RX6_87 rfl ga26 rfl ?_
      refine ct_iload_1 (q := 26) dX6_move_25 rfl ?_
      obtain ⟨a27, ga27, h⟩ := ob h
      refine ct_aald (q := 27) rfl hB dX6_move_26 ga27 rfl ?_
      refine ct_astore_3 (q := 28) dX6_move_27 (by decide) rfl rfl ?_
      refine ct_iload_2 (q := 29) dX6_move_28 rfl ?_
      refine ct_bipush (v := 100) (q := 31) dX6_move_29 (by decide) rfl ?_
      refine ct_idiv (q := 32) dX6_move_31 (by decide) rfl ?_
      refine ct_istore_4 (q := 34) dX6_move_32 (by decide) rfl rfl ?_
      refine ct_iload_2 (q := 35) dX6_move_34 rfl ?_
      refine ct_bipush (v := 100) (q := 37) dX6_move_35 (by decide) rfl ?_
      refine ct_irem (q := 38) dX6_move_37 (by decide) rfl ?_
      refine ct_istore_5 (q := 40) dX6_move_38 (by decide) rfl rfl ?_
      refine ct_aload_3 (q := 41) dX6_move_40 rfl ?_
      refine ct_iload_4 (q := 43) dX6_move_41 rfl ?_
      refine ct_iload_5 (q := 45) dX6_move_43 rfl ?_
      obtain ⟨r28, gr28, h⟩ := ob h
      obtain ⟨er28, gr28⟩ := cV_spec gr28
      refine ct_cVi2 (q := 48) hB dX6_move_45 lk_RX6_132 (by decide) (ctX0_wayTo hB gr28) er28 (by decide) rfl (Nat.le_of_ble_eq_true rfl) rfl ?_
      refine ct_istore_6 (q := 50) dX6_move_48 (by decide) rfl rfl ?_
      refine ct_aload_3 (q := 51) dX6_move_50 rfl ?_
      refine ct_iload_4 (q := 53) dX6_move_51 rfl ?_
      obtain ⟨M29, gM29, h⟩ := ob h
      refine ct_putI (q := 56) hB dX6_move_53 fl_RX6_96 rfl rfl (Or.inl rfl) gM29 rfl ?_
      refine ct_aload_3 (q := 57) dX6_move_56 rfl ?_
      refine ct_iload_5 (q := 59) dX6_move_57 rfl ?_
      obtain ⟨M30, gM30, h⟩ := ob h
      refine ct_putI (q := 62) hB dX6_move_59 fl_RX6_99 rfl rfl (Or.inl rfl) gM30 rfl ?_
      refine ct_iload_6 (q := 64) dX6_move_62 rfl ?_
      exact ct_iret dX6_move_64 rfl ⟨Nat.le_refl 0, Nat.le_refl 0⟩ (poI_of h)
    · replace h := it_t h z24
      refine ct_ldc (q := 17) dX6_move_15 wd_318 rfl ?_
      exact ct_iret dX6_move_17 rfl ⟨Nat.le_refl 0, Nat.le_refl 0⟩ (poI_of h)

def fX6_isPair (a0 : Nat) (x1 : Int32) (x2 : Int32) (M : ctM) : Option (Int32 × ctM) :=
  (cV kdC 6 a0 (fX6_isFlame a0 x1 M)).bind fun r21 =>
  if r21.1 = 0 then
    some (0, r21.2)
  else
    (cV kdC 6 a0 (fX6_isFlame a0 x2 r21.2)).bind fun r23 =>
    if r23.1 = 0 then
      some (0, r23.2)
    else
      if x1 = x2 then
        some (0, r23.2)
      else
        some (1, r23.2)

set_option maxHeartbeats 4000000 in
set_option maxRecDepth 20000 in
theorem ctX6_isPair {B : ctB} {n : Nat} (hB : ctOk B kdC lnC n) {a0 : Nat} {x1 : Int32} {x2 : Int32} {M : ctM} {r : Int32 × ctM} (h : fX6_isPair a0 x1 x2 M = some r) : ctC B mX6_isPair (2, 0, 0) [.ref a0, .int x1, .int x2] n M (poI r n) := by
  refine ctC_of (by decide) (Nat.le_of_ble_eq_true rfl) ?_
  show ctV B mX6_isPair (2, 0, 0) (poI r n) 0 [some (.ref a0), some (.int x1), some (.int x2)] [] (0, 0) n M
  unfold fX6_isPair at h
  refine ct_aload_0 (q := 1) dX6_isPair_0 rfl ?_
  refine ct_iload_1 (q := 2) dX6_isPair_1 rfl ?_
  obtain ⟨r21, gr21, h⟩ := ob h
  obtain ⟨er21, gr21⟩ := cV_spec gr21
  refine ct_cVi1 (q := 5) hB dX6_isPair_2 lk_RX6_84 (by decide) (ctX6_isFlame hB gr21) er21 (by decide) rfl (Nat.le_of_ble_eq_true rfl) rfl ?_
  refine ct_if_eq (q := 8) (tgt := 25) dX6_isPair_5 (by decide) rfl (fun z22 => ?_) (fun z22 => ?_)
  · replace h := it_t h z22
    refine ct_iconst (v := 0) (q := 26) dX6_isPair_25 (by decide) rfl ?_
    exact ct_zret dX6_isPair_26 rfl (by decide) ⟨Nat.le_refl 0, Nat.le_refl 0⟩ (poI_of h)
  · replace h := it_f h z22
    refine ct_aload_0 (q := 9) dX6_isPair_8 rfl ?_
    refine ct_iload_2 (q := 10) dX6_isPair_9 rfl ?_
    obtain ⟨r23, gr23, h⟩ := ob h
    obtain ⟨er23, gr23⟩ := cV_spec gr23
    refine ct_cVi1 (q := 13) hB dX6_isPair_10 lk_RX6_84 (by decide) (ctX6_isFlame hB gr23) er23 (by decide) rfl (Nat.le_of_ble_eq_true rfl) rfl ?_
    refine ct_if_eq (q := 16) (tgt := 25) dX6_isPair_13 (by decide) rfl (fun z24 => ?_) (fun z24 => ?_)
    · replace h := it_t h z24
      refine ct_iconst (v := 0) (q := 26) dX6_isPair_25 (by decide) rfl ?_
      exact ct_zret dX6_isPair_26 rfl (by decide) ⟨Nat.le_refl 0, Nat.le_refl 0⟩ (poI_of h)
    · replace h := it_f h z24
      refine ct_iload_1 (q := 17) dX6_isPair_16 rfl ?_
      refine ct_iload_2 (q := 18) dX6_isPair_17 rfl ?_
      refine ct_icmp_eq (q := 21) (tgt := 25) dX6_isPair_18 (by decide) rfl (fun z25 => ?_) (fun z25 => ?_)
      · replace h := it_t h z25
        refine ct_iconst (v := 0) (q := 26) dX6_isPair_25 (by decide) rfl ?_
        exact ct_zret dX6_isPair_26 rfl (by decide) ⟨Nat.le_refl 0, Nat.le_refl 0⟩ (poI_of h)
      · replace h := it_f h z25
        refine ct_iconst (v := 1) (q := 22) dX6_isPair_21 (by decide) rfl ?_
        refine ct_goto (q := 26) dX6_isPair_22 (by decide) ?_
        exact ct_zret dX6_isPair_26 rfl (by decide) ⟨Nat.le_refl 0, Nat.le_refl 0⟩ (poI_of h)

def fX6_glass_b56 (x4 : Int32) (as0 : Nat) (xs1 : Int32) (xs2 : Int32) (xs3 : Int32) (M : ctM) : Option (Int32 × ctM) :=
  (cV kdC 2 as0 (fX2_putGlass as0 xs1 xs2 xs3 M)).bind fun r21 =>
  some (x4, r21)

set_option maxHeartbeats 4000000 in
set_option maxRecDepth 20000 in
theorem vX6_glass_b56 {B : ctB} {n : Nat} (hB : ctOk B kdC lnC n) : ∀ (x4 : Int32) (as0 : Nat) (xs1 : Int32) (xs2 : Int32) (xs3 : Int32) (M : ctM) (r : Int32 × ctM), fX6_glass_b56 x4 as0 xs1 xs2 xs3 M = some r → ctV B mX6_glass (3, 0, 0) (poI r n) 56 [none, none, none, none, some (.int x4)] [.int xs3, .int xs2, .int xs1, .ref as0] (0, 0) n M := by
  intro x4 as0 xs1 xs2 xs3 M r h
  unfold fX6_glass_b56 at h
  obtain ⟨r21, gr21, h⟩ := ob h
  obtain ⟨er21, gr21⟩ := cV_spec gr21
  refine ct_cVv3 (q := 59) hB dX6_glass_56 lk_RX6_143 (by decide) (ctX2_putGlass hB gr21) er21 (by decide) rfl (Nat.le_of_ble_eq_true rfl) rfl ?_
  refine ct_iload_4 (q := 61) dX6_glass_59 rfl ?_
  exact ct_iret dX6_glass_61 rfl ⟨Nat.le_refl 0, Nat.le_refl 0⟩ (poI_of h)

def fX6_glass_b38 (a0 : Nat) (x1 : Int32) (x2 : Int32) (x3 : Int32) (xs0 : Int32) (M : ctM) : Option (Int32 × ctM) :=
  (gP kdC 6 1 a0 M).bind fun a21 =>
  if x3 = 1 then
    fX6_glass_b56 xs0 a21 x1 x2 1 M
  else
    fX6_glass_b56 xs0 a21 x1 x2 0 M

set_option maxHeartbeats 4000000 in
set_option maxRecDepth 20000 in
theorem vX6_glass_b38 {B : ctB} {n : Nat} (hB : ctOk B kdC lnC n) : ∀ (a0 : Nat) (x1 : Int32) (x2 : Int32) (x3 : Int32) (xs0 : Int32) (M : ctM) (r : Int32 × ctM), fX6_glass_b38 a0 x1 x2 x3 xs0 M = some r → ctV B mX6_glass (3, 0, 0) (poI r n) 38 [some (.ref a0), some (.int x1), some (.int x2), some (.int x3), none] [.int xs0] (0, 0) n M := by
  intro a0 x1 x2 x3 xs0 M r h
  unfold fX6_glass_b38 at h
  refine ct_istore_4 (q := 40) dX6_glass_38 (by decide) rfl rfl ?_
  refine ct_aload_0 (q := 41) dX6_glass_40 rfl ?_
  obtain ⟨a21, ga21, h⟩ := ob h
  refine ct_getP (q := 44) hB dX6_glass_41 fl_RX6_52 rfl ga21 rfl ?_
  refine ct_iload_1 (q := 45) dX6_glass_44 rfl ?_
  refine ct_iload_2 (q := 46) dX6_glass_45 rfl ?_
  refine ct_iload_3 (q := 47) dX6_glass_46 rfl ?_
  refine ct_iconst (v := 1) (q := 48) dX6_glass_47 (by decide) rfl ?_
  refine ct_icmp_ne (q := 51) (tgt := 55) dX6_glass_48 (by decide) rfl (fun z22 => ?_) (fun z22 => ?_)
  · replace h := it_f h z22
    refine ct_iconst (v := 0) (q := 56) dX6_glass_55 (by decide) rfl ?_
    exact ct_lessK (vX6_glass_b56 hB  xs0 a21 x1 x2 0 M r h) (And.intro rfl (trivial))
  · replace h := it_t h z22
    refine ct_iconst (v := 1) (q := 52) dX6_glass_51 (by decide) rfl ?_
    refine ct_goto (q := 56) dX6_glass_52 (by decide) ?_
    exact ct_lessK (vX6_glass_b56 hB  xs0 a21 x1 x2 1 M r h) (And.intro rfl (trivial))

def fX6_glass (a0 : Nat) (x1 : Int32) (x2 : Int32) (x3 : Int32) (M : ctM) : Option (Int32 × ctM) :=
  (cV kdC 6 a0 (fX6_isPair a0 x1 x2 M)).bind fun r21 =>
  if r21.1 = 0 then
    some ((-1000000001), r21.2)
  else
    (fX6_isWithin x3 0 1 r21.2).bind fun r23 =>
    if r23.1 = 0 then
      some ((-1000000001), r23.2)
    else
      (gP kdC 6 1 a0 r23.2).bind fun a25 =>
      (cV kdC 2 a25 (fX2_hasGlass a25 x1 x2 r23.2)).bind fun r26 =>
      if r26.1 = 0 then
        fX6_glass_b38 a0 x1 x2 x3 0 r26.2
      else
        fX6_glass_b38 a0 x1 x2 x3 1 r26.2

set_option maxHeartbeats 4000000 in
set_option maxRecDepth 20000 in
theorem ctX6_glass {B : ctB} {n : Nat} (hB : ctOk B kdC lnC n) {a0 : Nat} {x1 : Int32} {x2 : Int32} {x3 : Int32} {M : ctM} {r : Int32 × ctM} (h : fX6_glass a0 x1 x2 x3 M = some r) : ctC B mX6_glass (3, 0, 0) [.ref a0, .int x1, .int x2, .int x3] n M (poI r n) := by
  refine ctC_of (by decide) (Nat.le_of_ble_eq_true rfl) ?_
  show ctV B mX6_glass (3, 0, 0) (poI r n) 0 [some (.ref a0), some (.int x1), some (.int x2), some (.int x3), none] [] (0, 0) n M
  unfold fX6_glass at h
  refine ct_aload_0 (q := 1) dX6_glass_0 rfl ?_
  refine ct_iload_1 (q := 2) dX6_glass_1 rfl ?_
  refine ct_iload_2 (q := 3) dX6_glass_2 rfl ?_
  obtain ⟨r21, gr21, h⟩ := ob h
  obtain ⟨er21, gr21⟩ := cV_spec gr21
  refine ct_cVi2 (q := 6) hB dX6_glass_3 lk_RX6_136 (by decide) (ctX6_isPair hB gr21) er21 (by decide) rfl (Nat.le_of_ble_eq_true rfl) rfl ?_
  refine ct_if_eq (q := 9) (tgt := 18) dX6_glass_6 (by decide) rfl (fun z22 => ?_) (fun z22 => ?_)
  · replace h := it_t h z22
    refine ct_ldc (q := 20) dX6_glass_18 wd_318 rfl ?_
    exact ct_iret dX6_glass_20 rfl ⟨Nat.le_refl 0, Nat.le_refl 0⟩ (poI_of h)
  · replace h := it_f h z22
    refine ct_iload_3 (q := 10) dX6_glass_9 rfl ?_
    refine ct_iconst (v := 0) (q := 11) dX6_glass_10 (by decide) rfl ?_
    refine ct_iconst (v := 1) (q := 12) dX6_glass_11 (by decide) rfl ?_
    obtain ⟨r23, gr23, h⟩ := ob h
    refine ct_cSi3 (q := 15) dX6_glass_12 lk_RX6_71 (by decide) (ctX6_isWithin hB gr23) (Nat.le_of_ble_eq_true rfl) rfl ?_
    refine ct_if_ne (q := 18) (tgt := 21) dX6_glass_15 (by decide) rfl (fun z24 => ?_) (fun z24 => ?_)
    · replace h := it_f h z24
      refine ct_aload_0 (q := 22) dX6_glass_21 rfl ?_
      obtain ⟨a25, ga25, h⟩ := ob h
      refine ct_getP (q := 25) hB dX6_glass_22 fl_RX6_52 rfl ga25 rfl ?_
      refine ct_iload_1 (q := 26) dX6_glass_25 rfl ?_
      refine ct_iload_2 (q := 27) dX6_glass_26 rfl ?_
      obtain ⟨r26, gr26, h⟩ := ob h
      obtain ⟨er26, gr26⟩ := cV_spec gr26
      refine ct_cVi2 (q := 30) hB dX6_glass_27 lk_RX6_140 (by decide) (ctX2_hasGlass hB gr26) er26 (by decide) rfl (Nat.le_of_ble_eq_true rfl) rfl ?_
      refine ct_if_eq (q := 33) (tgt := 37) dX6_glass_30 (by decide) rfl (fun z27 => ?_) (fun z27 => ?_)
      · replace h := it_t h z27
        refine ct_iconst (v := 0) (q := 38) dX6_glass_37 (by decide) rfl ?_
        exact ct_lessK (vX6_glass_b38 hB  a0 x1 x2 x3 0 r26.2 r h) (And.intro rfl (And.intro rfl (And.intro rfl (And.intro rfl (trivial)))))
      · replace h := it_f h z27
        refine ct_iconst (v := 1) (q := 34) dX6_glass_33 (by decide) rfl ?_
        refine ct_goto (q := 38) dX6_glass_34 (by decide) ?_
        exact ct_lessK (vX6_glass_b38 hB  a0 x1 x2 x3 1 r26.2 r h) (And.intro rfl (And.intro rfl (And.intro rfl (And.intro rfl (trivial)))))
    · replace h := it_t h z24
      refine ct_ldc (q := 20) dX6_glass_18 wd_318 rfl ?_
      exact ct_iret dX6_glass_20 rfl ⟨Nat.le_refl 0, Nat.le_refl 0⟩ (poI_of h)

def fX6_reach_b43 (a0 : Nat) (x1 : Int32) (x2 : Int32) (xs0 : Int32) (M : ctM) : Option (Int32 × ctM) :=
  if x1 = 0 then
    (gP kdC 6 1 a0 M).bind fun a24 =>
    (pI kdC 2 6 a24 x2 M).bind fun M25 =>
    some (xs0, M25)
  else
    (gP kdC 6 1 a0 M).bind fun a22 =>
    (pI kdC 2 7 a22 x2 M).bind fun M23 =>
    some (xs0, M23)

set_option maxHeartbeats 4000000 in
set_option maxRecDepth 20000 in
theorem vX6_reach_b43 {B : ctB} {n : Nat} (hB : ctOk B kdC lnC n) : ∀ (a0 : Nat) (x1 : Int32) (x2 : Int32) (xs0 : Int32) (M : ctM) (r : Int32 × ctM), fX6_reach_b43 a0 x1 x2 xs0 M = some r → ctV B mX6_reach (1, 0, 0) (poI r n) 43 [some (.ref a0), some (.int x1), some (.int x2), none] [.int xs0] (0, 0) n M := by
  intro a0 x1 x2 xs0 M r h
  unfold fX6_reach_b43 at h
  refine ct_istore_3 (q := 44) dX6_reach_43 (by decide) rfl rfl ?_
  refine ct_iload_1 (q := 45) dX6_reach_44 rfl ?_
  refine ct_if_ne (q := 48) (tgt := 59) dX6_reach_45 (by decide) rfl (fun z21 => ?_) (fun z21 => ?_)
  · replace h := it_f h z21
    refine ct_aload_0 (q := 60) dX6_reach_59 rfl ?_
    obtain ⟨a22, ga22, h⟩ := ob h
    refine ct_getP (q := 63) hB dX6_reach_60 fl_RX6_52 rfl ga22 rfl ?_
    refine ct_iload_2 (q := 64) dX6_reach_63 rfl ?_
    obtain ⟨M23, gM23, h⟩ := ob h
    refine ct_putI (q := 67) hB dX6_reach_64 fl_RX6_150 rfl rfl (Or.inl rfl) gM23 rfl ?_
    refine ct_iload_3 (q := 68) dX6_reach_67 rfl ?_
    exact ct_iret dX6_reach_68 rfl ⟨Nat.le_refl 0, Nat.le_refl 0⟩ (poI_of h)
  · replace h := it_t h z21
    refine ct_aload_0 (q := 49) dX6_reach_48 rfl ?_
    obtain ⟨a24, ga24, h⟩ := ob h
    refine ct_getP (q := 52) hB dX6_reach_49 fl_RX6_52 rfl ga24 rfl ?_
    refine ct_iload_2 (q := 53) dX6_reach_52 rfl ?_
    obtain ⟨M25, gM25, h⟩ := ob h
    refine ct_putI (q := 56) hB dX6_reach_53 fl_RX6_147 rfl rfl (Or.inl rfl) gM25 rfl ?_
    refine ct_goto (q := 67) dX6_reach_56 (by decide) ?_
    refine ct_iload_3 (q := 68) dX6_reach_67 rfl ?_
    exact ct_iret dX6_reach_68 rfl ⟨Nat.le_refl 0, Nat.le_refl 0⟩ (poI_of h)

def fX6_reach (a0 : Nat) (x1 : Int32) (x2 : Int32) (M : ctM) : Option (Int32 × ctM) :=
  (fX6_isWithin x1 0 1 M).bind fun r21 =>
  if r21.1 = 0 then
    some ((-1000000001), r21.2)
  else
    (fX6_isWithin x2 0 59 r21.2).bind fun r23 =>
    if r23.1 = 0 then
      some ((-1000000001), r23.2)
    else
      if x1 = 0 then
        (gP kdC 6 1 a0 r23.2).bind fun a28 =>
        (gI kdC 2 6 a28 r23.2).bind fun x29 =>
        fX6_reach_b43 a0 x1 x2 x29 r23.2
      else
        (gP kdC 6 1 a0 r23.2).bind fun a26 =>
        (gI kdC 2 7 a26 r23.2).bind fun x27 =>
        fX6_reach_b43 a0 x1 x2 x27 r23.2

set_option maxHeartbeats 4000000 in
set_option maxRecDepth 20000 in
theorem ctX6_reach {B : ctB} {n : Nat} (hB : ctOk B kdC lnC n) {a0 : Nat} {x1 : Int32} {x2 : Int32} {M : ctM} {r : Int32 × ctM} (h : fX6_reach a0 x1 x2 M = some r) : ctC B mX6_reach (1, 0, 0) [.ref a0, .int x1, .int x2] n M (poI r n) := by
  refine ctC_of (by decide) (Nat.le_of_ble_eq_true rfl) ?_
  show ctV B mX6_reach (1, 0, 0) (poI r n) 0 [some (.ref a0), some (.int x1), some (.int x2), none] [] (0, 0) n M
  unfold fX6_reach at h
  refine ct_iload_1 (q := 1) dX6_reach_0 rfl ?_
  refine ct_iconst (v := 0) (q := 2) dX6_reach_1 (by decide) rfl ?_
  refine ct_iconst (v := 1) (q := 3) dX6_reach_2 (by decide) rfl ?_
  obtain ⟨r21, gr21, h⟩ := ob h
  refine ct_cSi3 (q := 6) dX6_reach_3 lk_RX6_71 (by decide) (ctX6_isWithin hB gr21) (Nat.le_of_ble_eq_true rfl) rfl ?_
  refine ct_if_eq (q := 9) (tgt := 19) dX6_reach_6 (by decide) rfl (fun z22 => ?_) (fun z22 => ?_)
  · replace h := it_t h z22
    refine ct_ldc (q := 21) dX6_reach_19 wd_318 rfl ?_
    exact ct_iret dX6_reach_21 rfl ⟨Nat.le_refl 0, Nat.le_refl 0⟩ (poI_of h)
  · replace h := it_f h z22
    refine ct_iload_2 (q := 10) dX6_reach_9 rfl ?_
    refine ct_iconst (v := 0) (q := 11) dX6_reach_10 (by decide) rfl ?_
    refine ct_bipush (v := 59) (q := 13) dX6_reach_11 (by decide) rfl ?_
    obtain ⟨r23, gr23, h⟩ := ob h
    refine ct_cSi3 (q := 16) dX6_reach_13 lk_RX6_71 (by decide) (ctX6_isWithin hB gr23) (Nat.le_of_ble_eq_true rfl) rfl ?_
    refine ct_if_ne (q := 19) (tgt := 22) dX6_reach_16 (by decide) rfl (fun z24 => ?_) (fun z24 => ?_)
    · replace h := it_f h z24
      refine ct_iload_1 (q := 23) dX6_reach_22 rfl ?_
      refine ct_if_ne (q := 26) (tgt := 36) dX6_reach_23 (by decide) rfl (fun z25 => ?_) (fun z25 => ?_)
      · replace h := it_f h z25
        refine ct_aload_0 (q := 37) dX6_reach_36 rfl ?_
        obtain ⟨a26, ga26, h⟩ := ob h
        refine ct_getP (q := 40) hB dX6_reach_37 fl_RX6_52 rfl ga26 rfl ?_
        obtain ⟨x27, gx27, h⟩ := ob h
        refine ct_getI (q := 43) hB dX6_reach_40 fl_RX6_150 rfl gx27 rfl ?_
        exact ct_lessK (vX6_reach_b43 hB  a0 x1 x2 x27 r23.2 r h) (And.intro rfl (And.intro rfl (And.intro rfl (trivial))))
      · replace h := it_t h z25
        refine ct_aload_0 (q := 27) dX6_reach_26 rfl ?_
        obtain ⟨a28, ga28, h⟩ := ob h
        refine ct_getP (q := 30) hB dX6_reach_27 fl_RX6_52 rfl ga28 rfl ?_
        obtain ⟨x29, gx29, h⟩ := ob h
        refine ct_getI (q := 33) hB dX6_reach_30 fl_RX6_147 rfl gx29 rfl ?_
        refine ct_goto (q := 43) dX6_reach_33 (by decide) ?_
        exact ct_lessK (vX6_reach_b43 hB  a0 x1 x2 x29 r23.2 r h) (And.intro rfl (And.intro rfl (And.intro rfl (trivial))))
    · replace h := it_t h z24
      refine ct_ldc (q := 21) dX6_reach_19 wd_318 rfl ?_
      exact ct_iret dX6_reach_21 rfl ⟨Nat.le_refl 0, Nat.le_refl 0⟩ (poI_of h)

def fX6_push (a0 : Nat) (x1 : Int32) (x2 : Int32) (M : ctM) : Option (Int32 × ctM) :=
  (cV kdC 6 a0 (fX6_isPair a0 x1 x2 M)).bind fun r21 =>
  if r21.1 = 0 then
    some ((-1000000001), r21.2)
  else
    (gP kdC 6 1 a0 r21.2).bind fun a23 =>
    (cV kdC 2 a23 (fX2_pushBy a23 x1 x2 r21.2)).bind fun r24 =>
    some (r24.1, r24.2)

set_option maxHeartbeats 4000000 in
set_option maxRecDepth 20000 in
theorem ctX6_push {B : ctB} {n : Nat} (hB : ctOk B kdC lnC n) {a0 : Nat} {x1 : Int32} {x2 : Int32} {M : ctM} {r : Int32 × ctM} (h : fX6_push a0 x1 x2 M = some r) : ctC B mX6_push (3, 0, 0) [.ref a0, .int x1, .int x2] n M (poI r n) := by
  refine ctC_of (by decide) (Nat.le_of_ble_eq_true rfl) ?_
  show ctV B mX6_push (3, 0, 0) (poI r n) 0 [some (.ref a0), some (.int x1), some (.int x2)] [] (0, 0) n M
  unfold fX6_push at h
  refine ct_aload_0 (q := 1) dX6_push_0 rfl ?_
  refine ct_iload_1 (q := 2) dX6_push_1 rfl ?_
  refine ct_iload_2 (q := 3) dX6_push_2 rfl ?_
  obtain ⟨r21, gr21, h⟩ := ob h
  obtain ⟨er21, gr21⟩ := cV_spec gr21
  refine ct_cVi2 (q := 6) hB dX6_push_3 lk_RX6_136 (by decide) (ctX6_isPair hB gr21) er21 (by decide) rfl (Nat.le_of_ble_eq_true rfl) rfl ?_
  refine ct_if_eq (q := 9) (tgt := 21) dX6_push_6 (by decide) rfl (fun z22 => ?_) (fun z22 => ?_)
  · replace h := it_t h z22
    refine ct_ldc (q := 23) dX6_push_21 wd_318 rfl ?_
    exact ct_iret dX6_push_23 rfl ⟨Nat.le_refl 0, Nat.le_refl 0⟩ (poI_of h)
  · replace h := it_f h z22
    refine ct_aload_0 (q := 10) dX6_push_9 rfl ?_
    obtain ⟨a23, ga23, h⟩ := ob h
    refine ct_getP (q := 13) hB dX6_push_10 fl_RX6_52 rfl ga23 rfl ?_
    refine ct_iload_1 (q := 14) dX6_push_13 rfl ?_
    refine ct_iload_2 (q := 15) dX6_push_14 rfl ?_
    obtain ⟨r24, gr24, h⟩ := ob h
    obtain ⟨er24, gr24⟩ := cV_spec gr24
    refine ct_cVi2 (q := 18) hB dX6_push_15 lk_RX6_153 (by decide) (ctX2_pushBy hB gr24) er24 (by decide) rfl (Nat.le_of_ble_eq_true rfl) rfl ?_
    refine ct_goto (q := 23) dX6_push_18 (by decide) ?_
    exact ct_iret dX6_push_23 rfl ⟨Nat.le_refl 0, Nat.le_refl 0⟩ (poI_of h)

def fX6_deal_h30 : Nat → Nat → Int32 → Int32 → ctM → Option (Int32 × ctM)
  | 0, _, _, _, _ => none
  | N + 1, a0, x2, x3, M =>
    if x2 ≤ x3 then
      some (x2, M)
    else
      (gP kdC 6 1 a0 M).bind fun a22 =>
      (cV kdC 2 a22 (fX2_drawOne a22 M)).bind fun r23 =>
      fX6_deal_h30 N a0 x2 (x3 + 1) r23

set_option maxHeartbeats 4000000 in
set_option maxRecDepth 20000 in
theorem vX6_deal_h30 {B : ctB} {n : Nat} (hB : ctOk B kdC lnC n) : ∀ (N : Nat) (a0 : Nat) (x2 : Int32) (x3 : Int32) (M : ctM) (r : Int32 × ctM), fX6_deal_h30 N a0 x2 x3 M = some r → ctV B mX6_deal (3, 0, 0) (poI r n) 30 [some (.ref a0), none, some (.int x2), some (.int x3)] [] (0, 0) n M := by
  intro N
  induction N with
  | zero => intro a0 x2 x3 M r h; exact absurd h (by simp [fX6_deal_h30])
  | succ N ih =>
    intro a0 x2 x3 M r h
    rw [fX6_deal_h30] at h
    refine ct_iload_3 (q := 31) dX6_deal_30 rfl ?_
    refine ct_iload_2 (q := 32) dX6_deal_31 rfl ?_
    refine ct_icmp_ge (q := 35) (tgt := 48) dX6_deal_32 (by decide) rfl (fun z21 => ?_) (fun z21 => ?_)
    · replace h := it_t h z21
      refine ct_iload_2 (q := 49) dX6_deal_48 rfl ?_
      exact ct_iret dX6_deal_49 rfl ⟨Nat.le_refl 0, Nat.le_refl 0⟩ (poI_of h)
    · replace h := it_f h z21
      refine ct_aload_0 (q := 36) dX6_deal_35 rfl ?_
      obtain ⟨a22, ga22, h⟩ := ob h
      refine ct_getP (q := 39) hB dX6_deal_36 fl_RX6_52 rfl ga22 rfl ?_
      obtain ⟨r23, gr23, h⟩ := ob h
      obtain ⟨er23, gr23⟩ := cV_spec gr23
      refine ct_cVv0 (q := 42) hB dX6_deal_39 lk_RX6_161 (by decide) (ctX2_drawOne hB gr23) er23 (by decide) rfl (Nat.le_of_ble_eq_true rfl) rfl ?_
      refine ct_iinc_3 (q := 45) (v := x3 + 1) dX6_deal_42 (by first | rfl | decide) (by decide) rfl rfl ?_
      refine ct_goto (q := 30) dX6_deal_45 (by decide) ?_
      exact ct_lessK (ih a0 x2 (x3 + 1) r23 r h) (And.intro rfl (And.intro rfl (And.intro rfl (trivial))))

def fX6_deal (a0 : Nat) (x1 : Int32) (M : ctM) : Option (Int32 × ctM) :=
  (fX6_isWithin x1 1 8 M).bind fun r21 =>
  if r21.1 = 0 then
    some ((-1000000001), r21.2)
  else
    (gP kdC 6 1 a0 r21.2).bind fun a23 =>
    (gI kdC 2 5 a23 r21.2).bind fun x24 =>
    fX6_deal_h30 4000 a0 (if (8 - x24) < x1 then (8 - x24) else x1) 0 r21.2

set_option maxHeartbeats 4000000 in
set_option maxRecDepth 20000 in
theorem ctX6_deal {B : ctB} {n : Nat} (hB : ctOk B kdC lnC n) {a0 : Nat} {x1 : Int32} {M : ctM} {r : Int32 × ctM} (h : fX6_deal a0 x1 M = some r) : ctC B mX6_deal (3, 0, 0) [.ref a0, .int x1] n M (poI r n) := by
  refine ctC_of (by decide) (Nat.le_of_ble_eq_true rfl) ?_
  show ctV B mX6_deal (3, 0, 0) (poI r n) 0 [some (.ref a0), some (.int x1), none, none] [] (0, 0) n M
  unfold fX6_deal at h
  refine ct_iload_1 (q := 1) dX6_deal_0 rfl ?_
  refine ct_iconst (v := 1) (q := 2) dX6_deal_1 (by decide) rfl ?_
  refine ct_bipush (v := 8) (q := 4) dX6_deal_2 (by decide) rfl ?_
  obtain ⟨r21, gr21, h⟩ := ob h
  refine ct_cSi3 (q := 7) dX6_deal_4 lk_RX6_71 (by decide) (ctX6_isWithin hB gr21) (Nat.le_of_ble_eq_true rfl) rfl ?_
  refine ct_if_ne (q := 10) (tgt := 13) dX6_deal_7 (by decide) rfl (fun z22 => ?_) (fun z22 => ?_)
  · replace h := it_f h z22
    refine ct_iload_1 (q := 14) dX6_deal_13 rfl ?_
    refine ct_bipush (v := 8) (q := 16) dX6_deal_14 (by decide) rfl ?_
    refine ct_aload_0 (q := 17) dX6_deal_16 rfl ?_
    obtain ⟨a23, ga23, h⟩ := ob h
    refine ct_getP (q := 20) hB dX6_deal_17 fl_RX6_52 rfl ga23 rfl ?_
    obtain ⟨x24, gx24, h⟩ := ob h
    refine ct_getI (q := 23) hB dX6_deal_20 fl_RX6_76 rfl gx24 rfl ?_
    refine ct_isub (q := 24) dX6_deal_23 rfl ?_
    refine ct_min (q := 27) dX6_deal_24 ma_RX6_156 (by decide) (Nat.le_of_ble_eq_true rfl) ⟨Nat.le_refl 0, Nat.le_refl 0⟩ rfl ?_
    refine ct_istore_2 (q := 28) dX6_deal_27 (by decide) rfl rfl ?_
    refine ct_iconst (v := 0) (q := 29) dX6_deal_28 (by decide) rfl ?_
    refine ct_istore_3 (q := 30) dX6_deal_29 (by decide) rfl rfl ?_
    exact ct_lessK (vX6_deal_h30 hB  4000 a0 (if (8 - x24) < x1 then (8 - x24) else x1) 0 r21.2 r h) (And.intro rfl (And.intro rfl (And.intro rfl (trivial))))
  · replace h := it_t h z22
    refine ct_ldc (q := 12) dX6_deal_10 wd_318 rfl ?_
    exact ct_iret dX6_deal_12 rfl ⟨Nat.le_refl 0, Nat.le_refl 0⟩ (poI_of h)

def fX6_seed (a0 : Nat) (x1 : Int32) (M : ctM) : Option (Int32 × ctM) :=
  (gP kdC 6 1 a0 M).bind fun a21 =>
  (gI kdC 2 9 a21 M).bind fun x22 =>
  (gP kdC 6 1 a0 M).bind fun a23 =>
  (pI kdC 2 9 a23 x1 M).bind fun M24 =>
  some (x22, M24)

set_option maxHeartbeats 4000000 in
set_option maxRecDepth 20000 in
theorem ctX6_seed {B : ctB} {n : Nat} (hB : ctOk B kdC lnC n) {a0 : Nat} {x1 : Int32} {M : ctM} {r : Int32 × ctM} (h : fX6_seed a0 x1 M = some r) : ctC B mX6_seed (0, 0, 0) [.ref a0, .int x1] n M (poI r n) := by
  refine ctC_of (by decide) (Nat.le_of_ble_eq_true rfl) ?_
  show ctV B mX6_seed (0, 0, 0) (poI r n) 0 [some (.ref a0), some (.int x1), none] [] (0, 0) n M
  unfold fX6_seed at h
  refine ct_aload_0 (q := 1) dX6_seed_0 rfl ?_
  obtain ⟨a21, ga21, h⟩ := ob h
  refine ct_getP (q := 4) hB dX6_seed_1 fl_RX6_52 rfl ga21 rfl ?_
  obtain ⟨x22, gx22, h⟩ := ob h
  refine ct_getI (q := 7) hB dX6_seed_4 fl_RX6_164 rfl gx22 rfl ?_
  refine ct_istore_2 (q := 8) dX6_seed_7 (by decide) rfl rfl ?_
  refine ct_aload_0 (q := 9) dX6_seed_8 rfl ?_
  obtain ⟨a23, ga23, h⟩ := ob h
  refine ct_getP (q := 12) hB dX6_seed_9 fl_RX6_52 rfl ga23 rfl ?_
  refine ct_iload_1 (q := 13) dX6_seed_12 rfl ?_
  obtain ⟨M24, gM24, h⟩ := ob h
  refine ct_putI (q := 16) hB dX6_seed_13 fl_RX6_164 rfl rfl (Or.inl rfl) gM24 rfl ?_
  refine ct_iload_2 (q := 17) dX6_seed_16 rfl ?_
  exact ct_iret dX6_seed_17 rfl ⟨Nat.le_refl 0, Nat.le_refl 0⟩ (poI_of h)

def fX6_run_h17 : Nat → Nat → Int32 → Int32 → Int32 → ctM → Option (Int32 × ctM)
  | 0, _, _, _, _, _ => none
  | N + 1, a0, x1, x2, x3, M =>
    if x1 ≤ x3 then
      some (x2, M)
    else
      (gP kdC 6 1 a0 M).bind fun a22 =>
      (cV kdC 2 a22 (fX2_goBy a22 M)).bind fun r23 =>
      fX6_run_h17 N a0 x1 (x2 + r23.1) (x3 + 1) r23.2

set_option maxHeartbeats 4000000 in
set_option maxRecDepth 20000 in
theorem vX6_run_h17 {B : ctB} {n : Nat} (hB : ctOk B kdC lnC n) : ∀ (N : Nat) (a0 : Nat) (x1 : Int32) (x2 : Int32) (x3 : Int32) (M : ctM) (r : Int32 × ctM), fX6_run_h17 N a0 x1 x2 x3 M = some r → ctV B mX6_run (6, 0, 0) (poI r n) 17 [some (.ref a0), some (.int x1), some (.int x2), some (.int x3)] [] (0, 0) n M := by
  intro N
  induction N with
  | zero => intro a0 x1 x2 x3 M r h; exact absurd h (by simp [fX6_run_h17])
  | succ N ih =>
    intro a0 x1 x2 x3 M r h
    rw [fX6_run_h17] at h
    refine ct_iload_3 (q := 18) dX6_run_17 rfl ?_
    refine ct_iload_1 (q := 19) dX6_run_18 rfl ?_
    refine ct_icmp_ge (q := 22) (tgt := 38) dX6_run_19 (by decide) rfl (fun z21 => ?_) (fun z21 => ?_)
    · replace h := it_t h z21
      refine ct_iload_2 (q := 39) dX6_run_38 rfl ?_
      exact ct_iret dX6_run_39 rfl ⟨Nat.le_refl 0, Nat.le_refl 0⟩ (poI_of h)
    · replace h := it_f h z21
      refine ct_iload_2 (q := 23) dX6_run_22 rfl ?_
      refine ct_aload_0 (q := 24) dX6_run_23 rfl ?_
      obtain ⟨a22, ga22, h⟩ := ob h
      refine ct_getP (q := 27) hB dX6_run_24 fl_RX6_52 rfl ga22 rfl ?_
      obtain ⟨r23, gr23, h⟩ := ob h
      obtain ⟨er23, gr23⟩ := cV_spec gr23
      refine ct_cVi0 (q := 30) hB dX6_run_27 lk_RX6_167 (by decide) (ctX2_goBy hB gr23) er23 (by decide) rfl (Nat.le_of_ble_eq_true rfl) rfl ?_
      refine ct_iadd (q := 31) dX6_run_30 rfl ?_
      refine ct_istore_2 (q := 32) dX6_run_31 (by decide) rfl rfl ?_
      refine ct_iinc_3 (q := 35) (v := x3 + 1) dX6_run_32 (by first | rfl | decide) (by decide) rfl rfl ?_
      refine ct_goto (q := 17) dX6_run_35 (by decide) ?_
      exact ct_lessK (ih a0 x1 (x2 + r23.1) (x3 + 1) r23.2 r h) (And.intro rfl (And.intro rfl (And.intro rfl (And.intro rfl (trivial)))))

def fX6_run (a0 : Nat) (x1 : Int32) (M : ctM) : Option (Int32 × ctM) :=
  (fX6_isWithin x1 1 60 M).bind fun r21 =>
  if r21.1 = 0 then
    some ((-1000000001), r21.2)
  else
    fX6_run_h17 4000 a0 x1 0 0 r21.2

set_option maxHeartbeats 4000000 in
set_option maxRecDepth 20000 in
theorem ctX6_run {B : ctB} {n : Nat} (hB : ctOk B kdC lnC n) {a0 : Nat} {x1 : Int32} {M : ctM} {r : Int32 × ctM} (h : fX6_run a0 x1 M = some r) : ctC B mX6_run (6, 0, 0) [.ref a0, .int x1] n M (poI r n) := by
  refine ctC_of (by decide) (Nat.le_of_ble_eq_true rfl) ?_
  show ctV B mX6_run (6, 0, 0) (poI r n) 0 [some (.ref a0), some (.int x1), none, none] [] (0, 0) n M
  unfold fX6_run at h
  refine ct_iload_1 (q := 1) dX6_run_0 rfl ?_
  refine ct_iconst (v := 1) (q := 2) dX6_run_1 (by decide) rfl ?_
  refine ct_bipush (v := 60) (q := 4) dX6_run_2 (by decide) rfl ?_
  obtain ⟨r21, gr21, h⟩ := ob h
  refine ct_cSi3 (q := 7) dX6_run_4 lk_RX6_71 (by decide) (ctX6_isWithin hB gr21) (Nat.le_of_ble_eq_true rfl) rfl ?_
  refine ct_if_ne (q := 10) (tgt := 13) dX6_run_7 (by decide) rfl (fun z22 => ?_) (fun z22 => ?_)
  · replace h := it_f h z22
    refine ct_iconst (v := 0) (q := 14) dX6_run_13 (by decide) rfl ?_
    refine ct_istore_2 (q := 15) dX6_run_14 (by decide) rfl rfl ?_
    refine ct_iconst (v := 0) (q := 16) dX6_run_15 (by decide) rfl ?_
    refine ct_istore_3 (q := 17) dX6_run_16 (by decide) rfl rfl ?_
    exact ct_lessK (vX6_run_h17 hB  4000 a0 x1 0 0 r21.2 r h) (And.intro rfl (And.intro rfl (And.intro rfl (And.intro rfl (trivial)))))
  · replace h := it_t h z22
    refine ct_ldc (q := 12) dX6_run_10 wd_318 rfl ?_
    exact ct_iret dX6_run_12 rfl ⟨Nat.le_refl 0, Nat.le_refl 0⟩ (poI_of h)

def fX6_spread (a0 : Nat) (M : ctM) : Option (Int32 × ctM) :=
  (gP kdC 6 1 a0 M).bind fun a21 =>
  (cV kdC 2 a21 (fX2_arc a21 M)).bind fun r22 =>
  some (r22.1, r22.2)

set_option maxHeartbeats 4000000 in
set_option maxRecDepth 20000 in
theorem ctX6_spread {B : ctB} {n : Nat} (hB : ctOk B kdC lnC n) {a0 : Nat} {M : ctM} {r : Int32 × ctM} (h : fX6_spread a0 M = some r) : ctC B mX6_spread (3, 0, 0) [.ref a0] n M (poI r n) := by
  refine ctC_of (by decide) (Nat.le_of_ble_eq_true rfl) ?_
  show ctV B mX6_spread (3, 0, 0) (poI r n) 0 [some (.ref a0)] [] (0, 0) n M
  unfold fX6_spread at h
  refine ct_aload_0 (q := 1) dX6_spread_0 rfl ?_
  obtain ⟨a21, ga21, h⟩ := ob h
  refine ct_getP (q := 4) hB dX6_spread_1 fl_RX6_52 rfl ga21 rfl ?_
  obtain ⟨r22, gr22, h⟩ := ob h
  obtain ⟨er22, gr22⟩ := cV_spec gr22
  refine ct_cVi0 (q := 7) hB dX6_spread_4 lk_RX6_170 (by decide) (ctX2_arc hB gr22) er22 (by decide) rfl (Nat.le_of_ble_eq_true rfl) rfl ?_
  exact ct_iret dX6_spread_7 rfl ⟨Nat.le_refl 0, Nat.le_refl 0⟩ (poI_of h)

def fX6_groups (a0 : Nat) (x1 : Int32) (M : ctM) : Option (Int32 × ctM) :=
  (fX6_isPhase x1 M).bind fun r21 =>
  if r21.1 = 0 then
    some ((-1000000001), r21.2)
  else
    (gP kdC 6 1 a0 r21.2).bind fun a23 =>
    (cV kdC 2 a23 (fX2_gapsAbove a23 x1 r21.2)).bind fun r24 =>
    some (r24.1, r24.2)

set_option maxHeartbeats 4000000 in
set_option maxRecDepth 20000 in
theorem ctX6_groups {B : ctB} {n : Nat} (hB : ctOk B kdC lnC n) {a0 : Nat} {x1 : Int32} {M : ctM} {r : Int32 × ctM} (h : fX6_groups a0 x1 M = some r) : ctC B mX6_groups (3, 0, 0) [.ref a0, .int x1] n M (poI r n) := by
  refine ctC_of (by decide) (Nat.le_of_ble_eq_true rfl) ?_
  show ctV B mX6_groups (3, 0, 0) (poI r n) 0 [some (.ref a0), some (.int x1)] [] (0, 0) n M
  unfold fX6_groups at h
  refine ct_iload_1 (q := 1) dX6_groups_0 rfl ?_
  obtain ⟨r21, gr21, h⟩ := ob h
  refine ct_cSi1 (q := 4) dX6_groups_1 lk_RX6_129 (by decide) (ctX6_isPhase hB gr21) (Nat.le_of_ble_eq_true rfl) rfl ?_
  refine ct_if_eq (q := 7) (tgt := 18) dX6_groups_4 (by decide) rfl (fun z22 => ?_) (fun z22 => ?_)
  · replace h := it_t h z22
    refine ct_ldc (q := 20) dX6_groups_18 wd_318 rfl ?_
    exact ct_iret dX6_groups_20 rfl ⟨Nat.le_refl 0, Nat.le_refl 0⟩ (poI_of h)
  · replace h := it_f h z22
    refine ct_aload_0 (q := 8) dX6_groups_7 rfl ?_
    obtain ⟨a23, ga23, h⟩ := ob h
    refine ct_getP (q := 11) hB dX6_groups_8 fl_RX6_52 rfl ga23 rfl ?_
    refine ct_iload_1 (q := 12) dX6_groups_11 rfl ?_
    obtain ⟨r24, gr24, h⟩ := ob h
    obtain ⟨er24, gr24⟩ := cV_spec gr24
    refine ct_cVi1 (q := 15) hB dX6_groups_12 lk_RX6_173 (by decide) (ctX2_gapsAbove hB gr24) er24 (by decide) rfl (Nat.le_of_ble_eq_true rfl) rfl ?_
    refine ct_goto (q := 20) dX6_groups_15 (by decide) ?_
    exact ct_iret dX6_groups_20 rfl ⟨Nat.le_refl 0, Nat.le_refl 0⟩ (poI_of h)

def fX6_soon_h23 : Nat → Nat → Int32 → Int32 → ctM → Option (Int32 × ctM)
  | 0, _, _, _, _ => none
  | N + 1, a0, x1, x2, M =>
    if 200 < x2 then
      some ((-1000000005), M)
    else
      (gP kdC 6 2 a0 M).bind fun a22 =>
      (cV kdC 2 a22 (fX2_agrees a22 x1 M)).bind fun r23 =>
      if r23.1 = 0 then
        (gP kdC 6 2 a0 r23.2).bind fun a25 =>
        (cV kdC 2 a25 (fX2_goBy a25 r23.2)).bind fun r26 =>
        fX6_soon_h23 N a0 x1 (x2 + 1) r26.2
      else
        some (x2, r23.2)

set_option maxHeartbeats 4000000 in
set_option maxRecDepth 20000 in
theorem vX6_soon_h23 {B : ctB} {n : Nat} (hB : ctOk B kdC lnC n) : ∀ (N : Nat) (a0 : Nat) (x1 : Int32) (x2 : Int32) (M : ctM) (r : Int32 × ctM), fX6_soon_h23 N a0 x1 x2 M = some r → ctV B mX6_soon (6, 0, 0) (poI r n) 23 [some (.ref a0), some (.int x1), some (.int x2)] [] (0, 0) n M := by
  intro N
  induction N with
  | zero => intro a0 x1 x2 M r h; exact absurd h (by simp [fX6_soon_h23])
  | succ N ih =>
    intro a0 x1 x2 M r h
    rw [fX6_soon_h23] at h
    refine ct_iload_2 (q := 24) dX6_soon_23 rfl ?_
    refine ct_sipush (v := 200) (q := 27) dX6_soon_24 (by decide) rfl ?_
    refine ct_icmp_gt (q := 30) (tgt := 57) dX6_soon_27 (by decide) rfl (fun z21 => ?_) (fun z21 => ?_)
    · replace h := it_t h z21
      refine ct_ldc (q := 59) dX6_soon_57 wd_535 rfl ?_
      exact ct_iret dX6_soon_59 rfl ⟨Nat.le_refl 0, Nat.le_refl 0⟩ (poI_of h)
    · replace h := it_f h z21
      refine ct_aload_0 (q := 31) dX6_soon_30 rfl ?_
      obtain ⟨a22, ga22, h⟩ := ob h
      refine ct_getP (q := 34) hB dX6_soon_31 fl_RX6_56 rfl ga22 rfl ?_
      refine ct_iload_1 (q := 35) dX6_soon_34 rfl ?_
      obtain ⟨r23, gr23, h⟩ := ob h
      obtain ⟨er23, gr23⟩ := cV_spec gr23
      refine ct_cVi1 (q := 38) hB dX6_soon_35 lk_RX6_180 (by decide) (ctX2_agrees hB gr23) er23 (by decide) rfl (Nat.le_of_ble_eq_true rfl) rfl ?_
      refine ct_if_eq (q := 41) (tgt := 43) dX6_soon_38 (by decide) rfl (fun z24 => ?_) (fun z24 => ?_)
      · replace h := it_t h z24
        refine ct_aload_0 (q := 44) dX6_soon_43 rfl ?_
        obtain ⟨a25, ga25, h⟩ := ob h
        refine ct_getP (q := 47) hB dX6_soon_44 fl_RX6_56 rfl ga25 rfl ?_
        obtain ⟨r26, gr26, h⟩ := ob h
        obtain ⟨er26, gr26⟩ := cV_spec gr26
        refine ct_cVi0 (q := 50) hB dX6_soon_47 lk_RX6_167 (by decide) (ctX2_goBy hB gr26) er26 (by decide) rfl (Nat.le_of_ble_eq_true rfl) rfl ?_
        refine ct_pop (q := 51) dX6_soon_50 rfl rfl ?_
        refine ct_iinc_2 (q := 54) (v := x2 + 1) dX6_soon_51 (by first | rfl | decide) (by decide) rfl rfl ?_
        refine ct_goto (q := 23) dX6_soon_54 (by decide) ?_
        exact ct_lessK (ih a0 x1 (x2 + 1) r26.2 r h) (And.intro rfl (And.intro rfl (And.intro rfl (trivial))))
      · replace h := it_f h z24
        refine ct_iload_2 (q := 42) dX6_soon_41 rfl ?_
        exact ct_iret dX6_soon_42 rfl ⟨Nat.le_refl 0, Nat.le_refl 0⟩ (poI_of h)

def fX6_soon (a0 : Nat) (x1 : Int32) (M : ctM) : Option (Int32 × ctM) :=
  (fX6_isPhase x1 M).bind fun r21 =>
  if r21.1 = 0 then
    some ((-1000000001), r21.2)
  else
    (gP kdC 6 2 a0 r21.2).bind fun a23 =>
    (gP kdC 6 1 a0 r21.2).bind fun a24 =>
    (cV kdC 2 a23 (fX2_become a23 a24 r21.2)).bind fun r25 =>
    fX6_soon_h23 4000 a0 x1 0 r25

set_option maxHeartbeats 4000000 in
set_option maxRecDepth 20000 in
theorem ctX6_soon {B : ctB} {n : Nat} (hB : ctOk B kdC lnC n) {a0 : Nat} {x1 : Int32} {M : ctM} {r : Int32 × ctM} (h : fX6_soon a0 x1 M = some r) : ctC B mX6_soon (6, 0, 0) [.ref a0, .int x1] n M (poI r n) := by
  refine ctC_of (by decide) (Nat.le_of_ble_eq_true rfl) ?_
  show ctV B mX6_soon (6, 0, 0) (poI r n) 0 [some (.ref a0), some (.int x1), none] [] (0, 0) n M
  unfold fX6_soon at h
  refine ct_iload_1 (q := 1) dX6_soon_0 rfl ?_
  obtain ⟨r21, gr21, h⟩ := ob h
  refine ct_cSi1 (q := 4) dX6_soon_1 lk_RX6_129 (by decide) (ctX6_isPhase hB gr21) (Nat.le_of_ble_eq_true rfl) rfl ?_
  refine ct_if_ne (q := 7) (tgt := 10) dX6_soon_4 (by decide) rfl (fun z22 => ?_) (fun z22 => ?_)
  · replace h := it_f h z22
    refine ct_aload_0 (q := 11) dX6_soon_10 rfl ?_
    obtain ⟨a23, ga23, h⟩ := ob h
    refine ct_getP (q := 14) hB dX6_soon_11 fl_RX6_56 rfl ga23 rfl ?_
    refine ct_aload_0 (q := 15) dX6_soon_14 rfl ?_
    obtain ⟨a24, ga24, h⟩ := ob h
    refine ct_getP (q := 18) hB dX6_soon_15 fl_RX6_52 rfl ga24 rfl ?_
    obtain ⟨r25, gr25, h⟩ := ob h
    obtain ⟨er25, gr25⟩ := cV_spec gr25
    refine ct_cVv1 (q := 21) hB dX6_soon_18 lk_RX6_176 (by decide) (ctX2_become hB gr25) er25 (by decide) rfl (Nat.le_of_ble_eq_true rfl) rfl ?_
    refine ct_iconst (v := 0) (q := 22) dX6_soon_21 (by decide) rfl ?_
    refine ct_istore_2 (q := 23) dX6_soon_22 (by decide) rfl rfl ?_
    exact ct_lessK (vX6_soon_h23 hB  4000 a0 x1 0 r25 r h) (And.intro rfl (And.intro rfl (And.intro rfl (trivial))))
  · replace h := it_t h z22
    refine ct_ldc (q := 9) dX6_soon_7 wd_318 rfl ?_
    exact ct_iret dX6_soon_9 rfl ⟨Nat.le_refl 0, Nat.le_refl 0⟩ (poI_of h)

def fX6_period_h13 : Nat → Nat → Int32 → ctM → Option (Int32 × ctM)
  | 0, _, _, _ => none
  | N + 1, a0, x1, M =>
    if 300 < x1 then
      some ((-1000000005), M)
    else
      (gP kdC 6 2 a0 M).bind fun a22 =>
      (cV kdC 2 a22 (fX2_goBy a22 M)).bind fun r23 =>
      (gP kdC 6 2 a0 r23.2).bind fun a24 =>
      (gP kdC 6 1 a0 r23.2).bind fun a25 =>
      (cV kdC 2 a24 (fX2_beatsAs a24 a25 r23.2)).bind fun r26 =>
      if r26.1 = 0 then
        fX6_period_h13 N a0 (x1 + 1) r26.2
      else
        some (x1, r26.2)

set_option maxHeartbeats 4000000 in
set_option maxRecDepth 20000 in
theorem vX6_period_h13 {B : ctB} {n : Nat} (hB : ctOk B kdC lnC n) : ∀ (N : Nat) (a0 : Nat) (x1 : Int32) (M : ctM) (r : Int32 × ctM), fX6_period_h13 N a0 x1 M = some r → ctV B mX6_period (6, 0, 0) (poI r n) 13 [some (.ref a0), some (.int x1)] [] (0, 0) n M := by
  intro N
  induction N with
  | zero => intro a0 x1 M r h; exact absurd h (by simp [fX6_period_h13])
  | succ N ih =>
    intro a0 x1 M r h
    rw [fX6_period_h13] at h
    refine ct_iload_1 (q := 14) dX6_period_13 rfl ?_
    refine ct_sipush (v := 300) (q := 17) dX6_period_14 (by decide) rfl ?_
    refine ct_icmp_gt (q := 20) (tgt := 50) dX6_period_17 (by decide) rfl (fun z21 => ?_) (fun z21 => ?_)
    · replace h := it_t h z21
      refine ct_ldc (q := 52) dX6_period_50 wd_535 rfl ?_
      exact ct_iret dX6_period_52 rfl ⟨Nat.le_refl 0, Nat.le_refl 0⟩ (poI_of h)
    · replace h := it_f h z21
      refine ct_aload_0 (q := 21) dX6_period_20 rfl ?_
      obtain ⟨a22, ga22, h⟩ := ob h
      refine ct_getP (q := 24) hB dX6_period_21 fl_RX6_56 rfl ga22 rfl ?_
      obtain ⟨r23, gr23, h⟩ := ob h
      obtain ⟨er23, gr23⟩ := cV_spec gr23
      refine ct_cVi0 (q := 27) hB dX6_period_24 lk_RX6_167 (by decide) (ctX2_goBy hB gr23) er23 (by decide) rfl (Nat.le_of_ble_eq_true rfl) rfl ?_
      refine ct_pop (q := 28) dX6_period_27 rfl rfl ?_
      refine ct_aload_0 (q := 29) dX6_period_28 rfl ?_
      obtain ⟨a24, ga24, h⟩ := ob h
      refine ct_getP (q := 32) hB dX6_period_29 fl_RX6_56 rfl ga24 rfl ?_
      refine ct_aload_0 (q := 33) dX6_period_32 rfl ?_
      obtain ⟨a25, ga25, h⟩ := ob h
      refine ct_getP (q := 36) hB dX6_period_33 fl_RX6_52 rfl ga25 rfl ?_
      obtain ⟨r26, gr26, h⟩ := ob h
      obtain ⟨er26, gr26⟩ := cV_spec gr26
      refine ct_cVi1 (q := 39) hB dX6_period_36 lk_RX6_184 (by decide) (ctX2_beatsAs hB gr26) er26 (by decide) rfl (Nat.le_of_ble_eq_true rfl) rfl ?_
      refine ct_if_eq (q := 42) (tgt := 44) dX6_period_39 (by decide) rfl (fun z27 => ?_) (fun z27 => ?_)
      · replace h := it_t h z27
        refine ct_iinc_1 (q := 47) (v := x1 + 1) dX6_period_44 (by first | rfl | decide) (by decide) rfl rfl ?_
        refine ct_goto (q := 13) dX6_period_47 (by decide) ?_
        exact ct_lessK (ih a0 (x1 + 1) r26.2 r h) (And.intro rfl (And.intro rfl (trivial)))
      · replace h := it_f h z27
        refine ct_iload_1 (q := 43) dX6_period_42 rfl ?_
        exact ct_iret dX6_period_43 rfl ⟨Nat.le_refl 0, Nat.le_refl 0⟩ (poI_of h)

def fX6_period (a0 : Nat) (M : ctM) : Option (Int32 × ctM) :=
  (gP kdC 6 2 a0 M).bind fun a21 =>
  (gP kdC 6 1 a0 M).bind fun a22 =>
  (cV kdC 2 a21 (fX2_become a21 a22 M)).bind fun r23 =>
  fX6_period_h13 4000 a0 1 r23

set_option maxHeartbeats 4000000 in
set_option maxRecDepth 20000 in
theorem ctX6_period {B : ctB} {n : Nat} (hB : ctOk B kdC lnC n) {a0 : Nat} {M : ctM} {r : Int32 × ctM} (h : fX6_period a0 M = some r) : ctC B mX6_period (6, 0, 0) [.ref a0] n M (poI r n) := by
  refine ctC_of (by decide) (Nat.le_of_ble_eq_true rfl) ?_
  show ctV B mX6_period (6, 0, 0) (poI r n) 0 [some (.ref a0), none] [] (0, 0) n M
  unfold fX6_period at h
  refine ct_aload_0 (q := 1) dX6_period_0 rfl ?_
  obtain ⟨a21, ga21, h⟩ := ob h
  refine ct_getP (q := 4) hB dX6_period_1 fl_RX6_56 rfl ga21 rfl ?_
  refine ct_aload_0 (q := 5) dX6_period_4 rfl ?_
  obtain ⟨a22, ga22, h⟩ := ob h
  refine ct_getP (q := 8) hB dX6_period_5 fl_RX6_52 rfl ga22 rfl ?_
  obtain ⟨r23, gr23, h⟩ := ob h
  obtain ⟨er23, gr23⟩ := cV_spec gr23
  refine ct_cVv1 (q := 11) hB dX6_period_8 lk_RX6_176 (by decide) (ctX2_become hB gr23) er23 (by decide) rfl (Nat.le_of_ble_eq_true rfl) rfl ?_
  refine ct_iconst (v := 1) (q := 12) dX6_period_11 (by decide) rfl ?_
  refine ct_istore_1 (q := 13) dX6_period_12 (by decide) rfl rfl ?_
  exact ct_lessK (vX6_period_h13 hB  4000 a0 1 r23 r h) (And.intro rfl (And.intro rfl (trivial)))

def fX6_film_h34 : Nat → Nat → Int32 → Int32 → Int32 → ctM → Option (Int32 × ctM)
  | 0, _, _, _, _, _ => none
  | N + 1, a0, x1, x2, x3, M =>
    if x2 ≤ x3 then
      (gP kdC 6 2 a0 M).bind fun a22 =>
      (gP kdC 2 1 a22 M).bind fun a23 =>
      (aP kdC lnC 11 a23 x1 M).bind fun a24 =>
      (gI kdC 0 4 a24 M).bind fun x25 =>
      (gP kdC 6 1 a0 M).bind fun a26 =>
      (gP kdC 2 1 a26 M).bind fun a27 =>
      (aP kdC lnC 11 a27 x1 M).bind fun a28 =>
      (gI kdC 0 4 a28 M).bind fun x29 =>
      (fX6_ahead x25 x29 M).bind fun r30 =>
      some (r30.1, r30.2)
    else
      (gP kdC 6 2 a0 M).bind fun a31 =>
      (cV kdC 2 a31 (fX2_goBy a31 M)).bind fun r32 =>
      fX6_film_h34 N a0 x1 x2 (x3 + 1) r32.2

set_option maxHeartbeats 4000000 in
set_option maxRecDepth 20000 in
theorem vX6_film_h34 {B : ctB} {n : Nat} (hB : ctOk B kdC lnC n) : ∀ (N : Nat) (a0 : Nat) (x1 : Int32) (x2 : Int32) (x3 : Int32) (M : ctM) (r : Int32 × ctM), fX6_film_h34 N a0 x1 x2 x3 M = some r → ctV B mX6_film (6, 0, 0) (poI r n) 34 [some (.ref a0), some (.int x1), some (.int x2), some (.int x3)] [] (0, 0) n M := by
  intro N
  induction N with
  | zero => intro a0 x1 x2 x3 M r h; exact absurd h (by simp [fX6_film_h34])
  | succ N ih =>
    intro a0 x1 x2 x3 M r h
    rw [fX6_film_h34] at h
    refine ct_iload_3 (q := 35) dX6_film_34 rfl ?_
    refine ct_iload_2 (q := 36) dX6_film_35 rfl ?_
    refine ct_icmp_ge (q := 39) (tgt := 53) dX6_film_36 (by decide) rfl (fun z21 => ?_) (fun z21 => ?_)
    · replace h := it_t h z21
      refine ct_aload_0 (q := 54) dX6_film_53 rfl ?_
      obtain ⟨a22, ga22, h⟩ := ob h
      refine ct_getP (q := 57) hB dX6_film_54 fl_RX6_56 rfl ga22 rfl ?_
      obtain ⟨a23, ga23, h⟩ := ob h
      refine ct_getP (q := 60) hB dX6_film_57 fl_RX6_87 rfl ga23 rfl ?_
      refine ct_iload_1 (q := 61) dX6_film_60 rfl ?_
      obtain ⟨a24, ga24, h⟩ := ob h
      refine ct_aald (q := 62) rfl hB dX6_film_61 ga24 rfl ?_
      obtain ⟨x25, gx25, h⟩ := ob h
      refine ct_getI (q := 65) hB dX6_film_62 fl_RX6_105 rfl gx25 rfl ?_
      refine ct_aload_0 (q := 66) dX6_film_65 rfl ?_
      obtain ⟨a26, ga26, h⟩ := ob h
      refine ct_getP (q := 69) hB dX6_film_66 fl_RX6_52 rfl ga26 rfl ?_
      obtain ⟨a27, ga27, h⟩ := ob h
      refine ct_getP (q := 72) hB dX6_film_69 fl_RX6_87 rfl ga27 rfl ?_
      refine ct_iload_1 (q := 73) dX6_film_72 rfl ?_
      obtain ⟨a28, ga28, h⟩ := ob h
      refine ct_aald (q := 74) rfl hB dX6_film_73 ga28 rfl ?_
      obtain ⟨x29, gx29, h⟩ := ob h
      refine ct_getI (q := 77) hB dX6_film_74 fl_RX6_105 rfl gx29 rfl ?_
      obtain ⟨r30, gr30, h⟩ := ob h
      refine ct_cSi2 (q := 80) dX6_film_77 lk_RX6_188 (by decide) (ctX6_ahead hB gr30) (Nat.le_of_ble_eq_true rfl) rfl ?_
      exact ct_iret dX6_film_80 rfl ⟨Nat.le_refl 0, Nat.le_refl 0⟩ (poI_of h)
    · replace h := it_f h z21
      refine ct_aload_0 (q := 40) dX6_film_39 rfl ?_
      obtain ⟨a31, ga31, h⟩ := ob h
      refine ct_getP (q := 43) hB dX6_film_40 fl_RX6_56 rfl ga31 rfl ?_
      obtain ⟨r32, gr32, h⟩ := ob h
      obtain ⟨er32, gr32⟩ := cV_spec gr32
      refine ct_cVi0 (q := 46) hB dX6_film_43 lk_RX6_167 (by decide) (ctX2_goBy hB gr32) er32 (by decide) rfl (Nat.le_of_ble_eq_true rfl) rfl ?_
      refine ct_pop (q := 47) dX6_film_46 rfl rfl ?_
      refine ct_iinc_3 (q := 50) (v := x3 + 1) dX6_film_47 (by first | rfl | decide) (by decide) rfl rfl ?_
      refine ct_goto (q := 34) dX6_film_50 (by decide) ?_
      exact ct_lessK (ih a0 x1 x2 (x3 + 1) r32.2 r h) (And.intro rfl (And.intro rfl (And.intro rfl (And.intro rfl (trivial)))))

def fX6_film (a0 : Nat) (x1 : Int32) (x2 : Int32) (M : ctM) : Option (Int32 × ctM) :=
  (cV kdC 6 a0 (fX6_isFlame a0 x1 M)).bind fun r21 =>
  if r21.1 = 0 then
    some ((-1000000001), r21.2)
  else
    (fX6_isWithin x2 1 60 r21.2).bind fun r23 =>
    if r23.1 = 0 then
      some ((-1000000001), r23.2)
    else
      (gP kdC 6 2 a0 r23.2).bind fun a25 =>
      (gP kdC 6 1 a0 r23.2).bind fun a26 =>
      (cV kdC 2 a25 (fX2_become a25 a26 r23.2)).bind fun r27 =>
      fX6_film_h34 4000 a0 x1 x2 0 r27

set_option maxHeartbeats 4000000 in
set_option maxRecDepth 20000 in
theorem ctX6_film {B : ctB} {n : Nat} (hB : ctOk B kdC lnC n) {a0 : Nat} {x1 : Int32} {x2 : Int32} {M : ctM} {r : Int32 × ctM} (h : fX6_film a0 x1 x2 M = some r) : ctC B mX6_film (6, 0, 0) [.ref a0, .int x1, .int x2] n M (poI r n) := by
  refine ctC_of (by decide) (Nat.le_of_ble_eq_true rfl) ?_
  show ctV B mX6_film (6, 0, 0) (poI r n) 0 [some (.ref a0), some (.int x1), some (.int x2), none] [] (0, 0) n M
  unfold fX6_film at h
  refine ct_aload_0 (q := 1) dX6_film_0 rfl ?_
  refine ct_iload_1 (q := 2) dX6_film_1 rfl ?_
  obtain ⟨r21, gr21, h⟩ := ob h
  obtain ⟨er21, gr21⟩ := cV_spec gr21
  refine ct_cVi1 (q := 5) hB dX6_film_2 lk_RX6_84 (by decide) (ctX6_isFlame hB gr21) er21 (by decide) rfl (Nat.le_of_ble_eq_true rfl) rfl ?_
  refine ct_if_eq (q := 8) (tgt := 18) dX6_film_5 (by decide) rfl (fun z22 => ?_) (fun z22 => ?_)
  · replace h := it_t h z22
    refine ct_ldc (q := 20) dX6_film_18 wd_318 rfl ?_
    exact ct_iret dX6_film_20 rfl ⟨Nat.le_refl 0, Nat.le_refl 0⟩ (poI_of h)
  · replace h := it_f h z22
    refine ct_iload_2 (q := 9) dX6_film_8 rfl ?_
    refine ct_iconst (v := 1) (q := 10) dX6_film_9 (by decide) rfl ?_
    refine ct_bipush (v := 60) (q := 12) dX6_film_10 (by decide) rfl ?_
    obtain ⟨r23, gr23, h⟩ := ob h
    refine ct_cSi3 (q := 15) dX6_film_12 lk_RX6_71 (by decide) (ctX6_isWithin hB gr23) (Nat.le_of_ble_eq_true rfl) rfl ?_
    refine ct_if_ne (q := 18) (tgt := 21) dX6_film_15 (by decide) rfl (fun z24 => ?_) (fun z24 => ?_)
    · replace h := it_f h z24
      refine ct_aload_0 (q := 22) dX6_film_21 rfl ?_
      obtain ⟨a25, ga25, h⟩ := ob h
      refine ct_getP (q := 25) hB dX6_film_22 fl_RX6_56 rfl ga25 rfl ?_
      refine ct_aload_0 (q := 26) dX6_film_25 rfl ?_
      obtain ⟨a26, ga26, h⟩ := ob h
      refine ct_getP (q := 29) hB dX6_film_26 fl_RX6_52 rfl ga26 rfl ?_
      obtain ⟨r27, gr27, h⟩ := ob h
      obtain ⟨er27, gr27⟩ := cV_spec gr27
      refine ct_cVv1 (q := 32) hB dX6_film_29 lk_RX6_176 (by decide) (ctX2_become hB gr27) er27 (by decide) rfl (Nat.le_of_ble_eq_true rfl) rfl ?_
      refine ct_iconst (v := 0) (q := 33) dX6_film_32 (by decide) rfl ?_
      refine ct_istore_3 (q := 34) dX6_film_33 (by decide) rfl rfl ?_
      exact ct_lessK (vX6_film_h34 hB  4000 a0 x1 x2 0 r27 r h) (And.intro rfl (And.intro rfl (And.intro rfl (And.intro rfl (trivial)))))
    · replace h := it_t h z24
      refine ct_ldc (q := 20) dX6_film_18 wd_318 rfl ?_
      exact ct_iret dX6_film_20 rfl ⟨Nat.le_refl 0, Nat.le_refl 0⟩ (poI_of h)

def fX6_basin_b150 (k50 : Nat → Int32 → Int32 → Int32 → Int32 → Int32 → ctM → Option (Int32 × ctM)) (a0 : Nat) (x1 : Int32) (x2 : Int32) (x3 : Int32) (x5 : Int32) (xs0 : Int32) (xs1 : Int32) (M : ctM) : Option (Int32 × ctM) :=
  k50 a0 x1 x2 x3 (xs0 + xs1) (x5 + 1) M

set_option maxHeartbeats 4000000 in
set_option maxRecDepth 20000 in
theorem vX6_basin_b150 {B : ctB} {n : Nat} (hB : ctOk B kdC lnC n) {k50 : Nat → Int32 → Int32 → Int32 → Int32 → Int32 → ctM → Option (Int32 × ctM)} (hk50 : ∀ (a0 : Nat) (x1 : Int32) (x2 : Int32) (x3 : Int32) (x4 : Int32) (x5 : Int32) (M : ctM) (r : Int32 × ctM), k50 a0 x1 x2 x3 x4 x5 M = some r → ctV B mX6_basin (6, 0, 0) (poI r n) 50 [some (.ref a0), some (.int x1), some (.int x2), some (.int x3), some (.int x4), some (.int x5), none] [] (0, 0) n M) : ∀ (a0 : Nat) (x1 : Int32) (x2 : Int32) (x3 : Int32) (x5 : Int32) (xs0 : Int32) (xs1 : Int32) (M : ctM) (r : Int32 × ctM), fX6_basin_b150 k50 a0 x1 x2 x3 x5 xs0 xs1 M = some r → ctV B mX6_basin (6, 0, 0) (poI r n) 150 [some (.ref a0), some (.int x1), some (.int x2), some (.int x3), none, some (.int x5), none] [.int xs1, .int xs0] (0, 0) n M := by
  intro a0 x1 x2 x3 x5 xs0 xs1 M r h
  unfold fX6_basin_b150 at h
  refine ct_iadd (q := 151) dX6_basin_150 rfl ?_
  refine ct_istore_4 (q := 153) dX6_basin_151 (by decide) rfl rfl ?_
  refine ct_iinc_5 (q := 156) (v := x5 + 1) dX6_basin_153 (by first | rfl | decide) (by decide) rfl rfl ?_
  refine ct_goto (q := 50) dX6_basin_156 (by decide) ?_
  exact ct_lessK (hk50 a0 x1 x2 x3 (xs0 + xs1) (x5 + 1) M r h) (And.intro rfl (And.intro rfl (And.intro rfl (And.intro rfl (And.intro rfl (And.intro rfl (trivial)))))))

def fX6_basin_h111 (k50 : Nat → Int32 → Int32 → Int32 → Int32 → Int32 → ctM → Option (Int32 × ctM)) : Nat → Nat → Int32 → Int32 → Int32 → Int32 → Int32 → Int32 → ctM → Option (Int32 × ctM)
  | 0, _, _, _, _, _, _, _, _ => none
  | N + 1, a0, x1, x2, x3, x4, x5, x6, M =>
    if 30 ≤ x6 then
      (gP kdC 6 2 a0 M).bind fun a22 =>
      (cV kdC 2 a22 (fX2_agrees a22 x1 M)).bind fun r23 =>
      if r23.1 = 0 then
        fX6_basin_b150 k50 a0 x1 x2 x3 x5 x4 0 r23.2
      else
        fX6_basin_b150 k50 a0 x1 x2 x3 x5 x4 1 r23.2
    else
      (gP kdC 6 2 a0 M).bind fun a25 =>
      (cV kdC 2 a25 (fX2_goBy a25 M)).bind fun r26 =>
      fX6_basin_h111 k50 N a0 x1 x2 x3 x4 x5 (x6 + 1) r26.2

set_option maxHeartbeats 4000000 in
set_option maxRecDepth 20000 in
theorem vX6_basin_h111 {B : ctB} {n : Nat} (hB : ctOk B kdC lnC n) {k50 : Nat → Int32 → Int32 → Int32 → Int32 → Int32 → ctM → Option (Int32 × ctM)} (hk50 : ∀ (a0 : Nat) (x1 : Int32) (x2 : Int32) (x3 : Int32) (x4 : Int32) (x5 : Int32) (M : ctM) (r : Int32 × ctM), k50 a0 x1 x2 x3 x4 x5 M = some r → ctV B mX6_basin (6, 0, 0) (poI r n) 50 [some (.ref a0), some (.int x1), some (.int x2), some (.int x3), some (.int x4), some (.int x5), none] [] (0, 0) n M) : ∀ (N : Nat) (a0 : Nat) (x1 : Int32) (x2 : Int32) (x3 : Int32) (x4 : Int32) (x5 : Int32) (x6 : Int32) (M : ctM) (r : Int32 × ctM), fX6_basin_h111 k50 N a0 x1 x2 x3 x4 x5 x6 M = some r → ctV B mX6_basin (6, 0, 0) (poI r n) 111 [some (.ref a0), some (.int x1), some (.int x2), some (.int x3), some (.int x4), some (.int x5), some (.int x6)] [] (0, 0) n M := by
  intro N
  induction N with
  | zero => intro a0 x1 x2 x3 x4 x5 x6 M r h; exact absurd h (by simp [fX6_basin_h111])
  | succ N ih =>
    intro a0 x1 x2 x3 x4 x5 x6 M r h
    rw [fX6_basin_h111] at h
    refine ct_iload_6 (q := 113) dX6_basin_111 rfl ?_
    refine ct_bipush (v := 30) (q := 115) dX6_basin_113 (by decide) rfl ?_
    refine ct_icmp_ge (q := 118) (tgt := 132) dX6_basin_115 (by decide) rfl (fun z21 => ?_) (fun z21 => ?_)
    · replace h := it_t h z21
      refine ct_iload_4 (q := 134) dX6_basin_132 rfl ?_
      refine ct_aload_0 (q := 135) dX6_basin_134 rfl ?_
      obtain ⟨a22, ga22, h⟩ := ob h
      refine ct_getP (q := 138) hB dX6_basin_135 fl_RX6_56 rfl ga22 rfl ?_
      refine ct_iload_1 (q := 139) dX6_basin_138 rfl ?_
      obtain ⟨r23, gr23, h⟩ := ob h
      obtain ⟨er23, gr23⟩ := cV_spec gr23
      refine ct_cVi1 (q := 142) hB dX6_basin_139 lk_RX6_180 (by decide) (ctX2_agrees hB gr23) er23 (by decide) rfl (Nat.le_of_ble_eq_true rfl) rfl ?_
      refine ct_if_eq (q := 145) (tgt := 149) dX6_basin_142 (by decide) rfl (fun z24 => ?_) (fun z24 => ?_)
      · replace h := it_t h z24
        refine ct_iconst (v := 0) (q := 150) dX6_basin_149 (by decide) rfl ?_
        exact ct_lessK (vX6_basin_b150 hB hk50 a0 x1 x2 x3 x5 x4 0 r23.2 r h) (And.intro rfl (And.intro rfl (And.intro rfl (And.intro rfl (And.intro rfl (trivial))))))
      · replace h := it_f h z24
        refine ct_iconst (v := 1) (q := 146) dX6_basin_145 (by decide) rfl ?_
        refine ct_goto (q := 150) dX6_basin_146 (by decide) ?_
        exact ct_lessK (vX6_basin_b150 hB hk50 a0 x1 x2 x3 x5 x4 1 r23.2 r h) (And.intro rfl (And.intro rfl (And.intro rfl (And.intro rfl (And.intro rfl (trivial))))))
    · replace h := it_f h z21
      refine ct_aload_0 (q := 119) dX6_basin_118 rfl ?_
      obtain ⟨a25, ga25, h⟩ := ob h
      refine ct_getP (q := 122) hB dX6_basin_119 fl_RX6_56 rfl ga25 rfl ?_
      obtain ⟨r26, gr26, h⟩ := ob h
      obtain ⟨er26, gr26⟩ := cV_spec gr26
      refine ct_cVi0 (q := 125) hB dX6_basin_122 lk_RX6_167 (by decide) (ctX2_goBy hB gr26) er26 (by decide) rfl (Nat.le_of_ble_eq_true rfl) rfl ?_
      refine ct_pop (q := 126) dX6_basin_125 rfl rfl ?_
      refine ct_iinc_6 (q := 129) (v := x6 + 1) dX6_basin_126 (by first | rfl | decide) (by decide) rfl rfl ?_
      refine ct_goto (q := 111) dX6_basin_129 (by decide) ?_
      exact ct_lessK (ih a0 x1 x2 x3 x4 x5 (x6 + 1) r26.2 r h) (And.intro rfl (And.intro rfl (And.intro rfl (And.intro rfl (And.intro rfl (And.intro rfl (And.intro rfl (trivial))))))))

def fX6_basin_h50 : Nat → Nat → Int32 → Int32 → Int32 → Int32 → Int32 → ctM → Option (Int32 × ctM)
  | 0, _, _, _, _, _, _, _ => none
  | N + 1, a0, x1, x2, x3, x4, x5, M =>
    if 36 ≤ x5 then
      some (x4, M)
    else
      (gP kdC 6 2 a0 M).bind fun a22 =>
      (gP kdC 6 1 a0 M).bind fun a23 =>
      (cV kdC 2 a22 (fX2_become a22 a23 M)).bind fun r24 =>
      (gP kdC 6 2 a0 r24).bind fun a25 =>
      (gP kdC 2 1 a25 r24).bind fun a26 =>
      (aP kdC lnC 11 a26 x2 r24).bind fun a27 =>
      (pI kdC 0 4 a27 (20 * (x5 / 6)) r24).bind fun M28 =>
      (gP kdC 6 2 a0 M28).bind fun a29 =>
      (gP kdC 2 1 a29 M28).bind fun a30 =>
      (aP kdC lnC 11 a30 x3 M28).bind fun a31 =>
      (pI kdC 0 4 a31 (20 * (x5 % 6)) M28).bind fun M32 =>
      fX6_basin_h111 (fX6_basin_h50 N) 4000 a0 x1 x2 x3 x4 x5 0 M32

set_option maxHeartbeats 4000000 in
set_option maxRecDepth 20000 in
theorem vX6_basin_h50 {B : ctB} {n : Nat} (hB : ctOk B kdC lnC n) : ∀ (N : Nat) (a0 : Nat) (x1 : Int32) (x2 : Int32) (x3 : Int32) (x4 : Int32) (x5 : Int32) (M : ctM) (r : Int32 × ctM), fX6_basin_h50 N a0 x1 x2 x3 x4 x5 M = some r → ctV B mX6_basin (6, 0, 0) (poI r n) 50 [some (.ref a0), some (.int x1), some (.int x2), some (.int x3), some (.int x4), some (.int x5), none] [] (0, 0) n M := by
  intro N
  induction N with
  | zero => intro a0 x1 x2 x3 x4 x5 M r h; exact absurd h (by simp [fX6_basin_h50])
  | succ N ih =>
    intro a0 x1 x2 x3 x4 x5 M r h
    rw [fX6_basin_h50] at h
    refine ct_iload_5 (q := 52) dX6_basin_50 rfl ?_
    refine ct_bipush (v := 36) (q := 54) dX6_basin_52 (by decide) rfl ?_
    refine ct_icmp_ge (q := 57) (tgt := 159) dX6_basin_54 (by decide) rfl (fun z21 => ?_) (fun z21 => ?_)
    · replace h := it_t h z21
      refine ct_iload_4 (q := 161) dX6_basin_159 rfl ?_
      exact ct_iret dX6_basin_161 rfl ⟨Nat.le_refl 0, Nat.le_refl 0⟩ (poI_of h)
    · replace h := it_f h z21
      refine ct_aload_0 (q := 58) dX6_basin_57 rfl ?_
      obtain ⟨a22, ga22, h⟩ := ob h
      refine ct_getP (q := 61) hB dX6_basin_58 fl_RX6_56 rfl ga22 rfl ?_
      refine ct_aload_0 (q := 62) dX6_basin_61 rfl ?_
      obtain ⟨a23, ga23, h⟩ := ob h
      refine ct_getP (q := 65) hB dX6_basin_62 fl_RX6_52 rfl ga23 rfl ?_
      obtain ⟨r24, gr24, h⟩ := ob h
      obtain ⟨er24, gr24⟩ := cV_spec gr24
      refine ct_cVv1 (q := 68) hB dX6_basin_65 lk_RX6_176 (by decide) (ctX2_become hB gr24) er24 (by decide) rfl (Nat.le_of_ble_eq_true rfl) rfl ?_
      refine ct_aload_0 (q := 69) dX6_basin_68 rfl ?_
      obtain ⟨a25, ga25, h⟩ := ob h
      refine ct_getP (q := 72) hB dX6_basin_69 fl_RX6_56 rfl ga25 rfl ?_
      obtain ⟨a26, ga26, h⟩ := ob h
      refine ct_getP (q := 75) hB dX6_basin_72 fl_RX6_87 rfl ga26 rfl ?_
      refine ct_iload_2 (q := 76) dX6_basin_75 rfl ?_
      obtain ⟨a27, ga27, h⟩ := ob h
      refine ct_aald (q := 77) rfl hB dX6_basin_76 ga27 rfl ?_
      refine ct_bipush (v := 20) (q := 79) dX6_basin_77 (by decide) rfl ?_
      refine ct_iload_5 (q := 81) dX6_basin_79 rfl ?_
      refine ct_bipush (v := 6) (q := 83) dX6_basin_81 (by decide) rfl ?_
      refine ct_idiv (q := 84) dX6_basin_83 (by decide) rfl ?_
      refine ct_imul (q := 85) dX6_basin_84 rfl ?_
      obtain ⟨M28, gM28, h⟩ := ob h
      refine ct_putI (q := 88) hB dX6_basin_85 fl_RX6_105 rfl rfl (Or.inl rfl) gM28 rfl ?_
      refine ct_aload_0 (q := 89) dX6_basin_88 rfl ?_
      obtain ⟨a29, ga29, h⟩ := ob h
      refine ct_getP (q := 92) hB dX6_basin_89 fl_RX6_56 rfl ga29 rfl ?_
      obtain ⟨a30, ga30, h⟩ := ob h
      refine ct_getP (q := 95) hB dX6_basin_92 fl_RX6_87 rfl ga30 rfl ?_
      refine ct_iload_3 (q := 96) dX6_basin_95 rfl ?_
      obtain ⟨a31, ga31, h⟩ := ob h
      refine ct_aald (q := 97) rfl hB dX6_basin_96 ga31 rfl ?_
      refine ct_bipush (v := 20) (q := 99) dX6_basin_97 (by decide) rfl ?_
      refine ct_iload_5 (q := 101) dX6_basin_99 rfl ?_
      refine ct_bipush (v := 6) (q := 103) dX6_basin_101 (by decide) rfl ?_
      refine ct_irem (q := 104) dX6_basin_103 (by decide) rfl ?_
      refine ct_imul (q := 105) dX6_basin_104 rfl ?_
      obtain ⟨M32, gM32, h⟩ := ob h
      refine ct_putI (q := 108) hB dX6_basin_105 fl_RX6_105 rfl rfl (Or.inl rfl) gM32 rfl ?_
      refine ct_iconst (v := 0) (q := 109) dX6_basin_108 (by decide) rfl ?_
      refine ct_istore_6 (q := 111) dX6_basin_109 (by decide) rfl rfl ?_
      exact ct_lessK (vX6_basin_h111 hB ih 4000 a0 x1 x2 x3 x4 x5 0 M32 r h) (And.intro rfl (And.intro rfl (And.intro rfl (And.intro rfl (And.intro rfl (And.intro rfl (And.intro rfl (trivial))))))))

def fX6_basin (a0 : Nat) (x1 : Int32) (M : ctM) : Option (Int32 × ctM) :=
  (fX6_isPhase x1 M).bind fun r21 =>
  if r21.1 = 0 then
    some ((-1000000001), r21.2)
  else
    (gP kdC 6 1 a0 r21.2).bind fun a23 =>
    (cV kdC 2 a23 (fX2_litFrom a23 0 r21.2)).bind fun r24 =>
    (gP kdC 6 1 a0 r24.2).bind fun a25 =>
    (cV kdC 2 a25 (fX2_litFrom a25 (r24.1 + 1) r24.2)).bind fun r26 =>
    (gP kdC 6 1 a0 r26.2).bind fun a27 =>
    (gI kdC 2 5 a27 r26.2).bind fun x28 =>
    if r26.1 < x28 then
      fX6_basin_h50 4000 a0 x1 r24.1 r26.1 0 0 r26.2
    else
      some ((-1000000002), r26.2)

set_option maxHeartbeats 4000000 in
set_option maxRecDepth 20000 in
theorem ctX6_basin {B : ctB} {n : Nat} (hB : ctOk B kdC lnC n) {a0 : Nat} {x1 : Int32} {M : ctM} {r : Int32 × ctM} (h : fX6_basin a0 x1 M = some r) : ctC B mX6_basin (6, 0, 0) [.ref a0, .int x1] n M (poI r n) := by
  refine ctC_of (by decide) (Nat.le_of_ble_eq_true rfl) ?_
  show ctV B mX6_basin (6, 0, 0) (poI r n) 0 [some (.ref a0), some (.int x1), none, none, none, none, none] [] (0, 0) n M
  unfold fX6_basin at h
  refine ct_iload_1 (q := 1) dX6_basin_0 rfl ?_
  obtain ⟨r21, gr21, h⟩ := ob h
  refine ct_cSi1 (q := 4) dX6_basin_1 lk_RX6_129 (by decide) (ctX6_isPhase hB gr21) (Nat.le_of_ble_eq_true rfl) rfl ?_
  refine ct_if_ne (q := 7) (tgt := 10) dX6_basin_4 (by decide) rfl (fun z22 => ?_) (fun z22 => ?_)
  · replace h := it_f h z22
    refine ct_aload_0 (q := 11) dX6_basin_10 rfl ?_
    obtain ⟨a23, ga23, h⟩ := ob h
    refine ct_getP (q := 14) hB dX6_basin_11 fl_RX6_52 rfl ga23 rfl ?_
    refine ct_iconst (v := 0) (q := 15) dX6_basin_14 (by decide) rfl ?_
    obtain ⟨r24, gr24, h⟩ := ob h
    obtain ⟨er24, gr24⟩ := cV_spec gr24
    refine ct_cVi1 (q := 18) hB dX6_basin_15 lk_RX6_191 (by decide) (ctX2_litFrom hB gr24) er24 (by decide) rfl (Nat.le_of_ble_eq_true rfl) rfl ?_
    refine ct_istore_2 (q := 19) dX6_basin_18 (by decide) rfl rfl ?_
    refine ct_aload_0 (q := 20) dX6_basin_19 rfl ?_
    obtain ⟨a25, ga25, h⟩ := ob h
    refine ct_getP (q := 23) hB dX6_basin_20 fl_RX6_52 rfl ga25 rfl ?_
    refine ct_iload_2 (q := 24) dX6_basin_23 rfl ?_
    refine ct_iconst (v := 1) (q := 25) dX6_basin_24 (by decide) rfl ?_
    refine ct_iadd (q := 26) dX6_basin_25 rfl ?_
    obtain ⟨r26, gr26, h⟩ := ob h
    obtain ⟨er26, gr26⟩ := cV_spec gr26
    refine ct_cVi1 (q := 29) hB dX6_basin_26 lk_RX6_191 (by decide) (ctX2_litFrom hB gr26) er26 (by decide) rfl (Nat.le_of_ble_eq_true rfl) rfl ?_
    refine ct_istore_3 (q := 30) dX6_basin_29 (by decide) rfl rfl ?_
    refine ct_iload_3 (q := 31) dX6_basin_30 rfl ?_
    refine ct_aload_0 (q := 32) dX6_basin_31 rfl ?_
    obtain ⟨a27, ga27, h⟩ := ob h
    refine ct_getP (q := 35) hB dX6_basin_32 fl_RX6_52 rfl ga27 rfl ?_
    obtain ⟨x28, gx28, h⟩ := ob h
    refine ct_getI (q := 38) hB dX6_basin_35 fl_RX6_76 rfl gx28 rfl ?_
    refine ct_icmp_lt (q := 41) (tgt := 44) dX6_basin_38 (by decide) rfl (fun z29 => ?_) (fun z29 => ?_)
    · replace h := it_t h z29
      refine ct_iconst (v := 0) (q := 45) dX6_basin_44 (by decide) rfl ?_
      refine ct_istore_4 (q := 47) dX6_basin_45 (by decide) rfl rfl ?_
      refine ct_iconst (v := 0) (q := 48) dX6_basin_47 (by decide) rfl ?_
      refine ct_istore_5 (q := 50) dX6_basin_48 (by decide) rfl rfl ?_
      exact ct_lessK (vX6_basin_h50 hB  4000 a0 x1 r24.1 r26.1 0 0 r26.2 r h) (And.intro rfl (And.intro rfl (And.intro rfl (And.intro rfl (And.intro rfl (And.intro rfl (trivial)))))))
    · replace h := it_f h z29
      refine ct_ldc (q := 43) dX6_basin_41 wd_557 rfl ?_
      exact ct_iret dX6_basin_43 rfl ⟨Nat.le_refl 0, Nat.le_refl 0⟩ (poI_of h)
  · replace h := it_t h z22
    refine ct_ldc (q := 9) dX6_basin_7 wd_318 rfl ?_
    exact ct_iret dX6_basin_9 rfl ⟨Nat.le_refl 0, Nat.le_refl 0⟩ (poI_of h)

def fX6_arcFrom_h40 : Nat → Nat → Int32 → ctM → Option (Int32 × ctM)
  | 0, _, _, _ => none
  | N + 1, a0, x4, M =>
    if 10 ≤ x4 then
      (gP kdC 6 2 a0 M).bind fun a22 =>
      (cV kdC 2 a22 (fX2_arc a22 M)).bind fun r23 =>
      if r23.1 = (-1000000005) then
        some (120, r23.2)
      else
        some (r23.1, r23.2)
    else
      (gP kdC 6 2 a0 M).bind fun a25 =>
      (cV kdC 2 a25 (fX2_goBy a25 M)).bind fun r26 =>
      fX6_arcFrom_h40 N a0 (x4 + 1) r26.2

set_option maxHeartbeats 4000000 in
set_option maxRecDepth 20000 in
theorem vX6_arcFrom_h40 {B : ctB} {n : Nat} (hB : ctOk B kdC lnC n) : ∀ (N : Nat) (a0 : Nat) (x4 : Int32) (M : ctM) (r : Int32 × ctM), fX6_arcFrom_h40 N a0 x4 M = some r → ctV B mX6_arcFrom (6, 0, 0) (poI r n) 40 [some (.ref a0), none, none, none, some (.int x4)] [] (0, 0) n M := by
  intro N
  induction N with
  | zero => intro a0 x4 M r h; exact absurd h (by simp [fX6_arcFrom_h40])
  | succ N ih =>
    intro a0 x4 M r h
    rw [fX6_arcFrom_h40] at h
    refine ct_iload_4 (q := 42) dX6_arcFrom_40 rfl ?_
    refine ct_bipush (v := 10) (q := 44) dX6_arcFrom_42 (by decide) rfl ?_
    refine ct_icmp_ge (q := 47) (tgt := 61) dX6_arcFrom_44 (by decide) rfl (fun z21 => ?_) (fun z21 => ?_)
    · replace h := it_t h z21
      refine ct_aload_0 (q := 62) dX6_arcFrom_61 rfl ?_
      obtain ⟨a22, ga22, h⟩ := ob h
      refine ct_getP (q := 65) hB dX6_arcFrom_62 fl_RX6_56 rfl ga22 rfl ?_
      obtain ⟨r23, gr23, h⟩ := ob h
      obtain ⟨er23, gr23⟩ := cV_spec gr23
      refine ct_cVi0 (q := 68) hB dX6_arcFrom_65 lk_RX6_170 (by decide) (ctX2_arc hB gr23) er23 (by decide) rfl (Nat.le_of_ble_eq_true rfl) rfl ?_
      refine ct_istore_4 (q := 70) dX6_arcFrom_68 (by decide) rfl rfl ?_
      refine ct_iload_4 (q := 72) dX6_arcFrom_70 rfl ?_
      refine ct_ldc (q := 74) dX6_arcFrom_72 wd_535 rfl ?_
      refine ct_icmp_ne (q := 77) (tgt := 82) dX6_arcFrom_74 (by decide) rfl (fun z24 => ?_) (fun z24 => ?_)
      · replace h := it_f h z24
        refine ct_iload_4 (q := 84) dX6_arcFrom_82 rfl ?_
        exact ct_iret dX6_arcFrom_84 rfl ⟨Nat.le_refl 0, Nat.le_refl 0⟩ (poI_of h)
      · replace h := it_t h z24
        refine ct_bipush (v := 120) (q := 79) dX6_arcFrom_77 (by decide) rfl ?_
        refine ct_goto (q := 84) dX6_arcFrom_79 (by decide) ?_
        exact ct_iret dX6_arcFrom_84 rfl ⟨Nat.le_refl 0, Nat.le_refl 0⟩ (poI_of h)
    · replace h := it_f h z21
      refine ct_aload_0 (q := 48) dX6_arcFrom_47 rfl ?_
      obtain ⟨a25, ga25, h⟩ := ob h
      refine ct_getP (q := 51) hB dX6_arcFrom_48 fl_RX6_56 rfl ga25 rfl ?_
      obtain ⟨r26, gr26, h⟩ := ob h
      obtain ⟨er26, gr26⟩ := cV_spec gr26
      refine ct_cVi0 (q := 54) hB dX6_arcFrom_51 lk_RX6_167 (by decide) (ctX2_goBy hB gr26) er26 (by decide) rfl (Nat.le_of_ble_eq_true rfl) rfl ?_
      refine ct_pop (q := 55) dX6_arcFrom_54 rfl rfl ?_
      refine ct_iinc_4 (q := 58) (v := x4 + 1) dX6_arcFrom_55 (by first | rfl | decide) (by decide) rfl rfl ?_
      refine ct_goto (q := 40) dX6_arcFrom_58 (by decide) ?_
      exact ct_lessK (ih a0 (x4 + 1) r26.2 r h) (And.intro rfl (And.intro rfl (trivial)))

def fX6_arcFrom (a0 : Nat) (x1 : Int32) (x2 : Int32) (x3 : Int32) (M : ctM) : Option (Int32 × ctM) :=
  (gP kdC 6 2 a0 M).bind fun a21 =>
  (gP kdC 6 1 a0 M).bind fun a22 =>
  (cV kdC 2 a21 (fX2_become a21 a22 M)).bind fun r23 =>
  (gP kdC 6 2 a0 r23).bind fun a24 =>
  (gP kdC 2 1 a24 r23).bind fun a25 =>
  (aP kdC lnC 11 a25 x1 r23).bind fun a26 =>
  (pI kdC 0 1 a26 x2 r23).bind fun M27 =>
  (gP kdC 6 2 a0 M27).bind fun a28 =>
  (gP kdC 2 1 a28 M27).bind fun a29 =>
  (aP kdC lnC 11 a29 x1 M27).bind fun a30 =>
  (pI kdC 0 2 a30 x3 M27).bind fun M31 =>
  fX6_arcFrom_h40 4000 a0 0 M31

set_option maxHeartbeats 4000000 in
set_option maxRecDepth 20000 in
theorem ctX6_arcFrom {B : ctB} {n : Nat} (hB : ctOk B kdC lnC n) {a0 : Nat} {x1 : Int32} {x2 : Int32} {x3 : Int32} {M : ctM} {r : Int32 × ctM} (h : fX6_arcFrom a0 x1 x2 x3 M = some r) : ctC B mX6_arcFrom (6, 0, 0) [.ref a0, .int x1, .int x2, .int x3] n M (poI r n) := by
  refine ctC_of (by decide) (Nat.le_of_ble_eq_true rfl) ?_
  show ctV B mX6_arcFrom (6, 0, 0) (poI r n) 0 [some (.ref a0), some (.int x1), some (.int x2), some (.int x3), none] [] (0, 0) n M
  unfold fX6_arcFrom at h
  refine ct_aload_0 (q := 1) dX6_arcFrom_0 rfl ?_
  obtain ⟨a21, ga21, h⟩ := ob h
  refine ct_getP (q := 4) hB dX6_arcFrom_1 fl_RX6_56 rfl ga21 rfl ?_
  refine ct_aload_0 (q := 5) dX6_arcFrom_4 rfl ?_
  obtain ⟨a22, ga22, h⟩ := ob h
  refine ct_getP (q := 8) hB dX6_arcFrom_5 fl_RX6_52 rfl ga22 rfl ?_
  obtain ⟨r23, gr23, h⟩ := ob h
  obtain ⟨er23, gr23⟩ := cV_spec gr23
  refine ct_cVv1 (q := 11) hB dX6_arcFrom_8 lk_RX6_176 (by decide) (ctX2_become hB gr23) er23 (by decide) rfl (Nat.le_of_ble_eq_true rfl) rfl ?_
  refine ct_aload_0 (q := 12) dX6_arcFrom_11 rfl ?_
  obtain ⟨a24, ga24, h⟩ := ob h
  refine ct_getP (q := 15) hB dX6_arcFrom_12 fl_RX6_56 rfl ga24 rfl ?_
  obtain ⟨a25, ga25, h⟩ := ob h
  refine ct_getP (q := 18) hB dX6_arcFrom_15 fl_RX6_87 rfl ga25 rfl ?_
  refine ct_iload_1 (q := 19) dX6_arcFrom_18 rfl ?_
  obtain ⟨a26, ga26, h⟩ := ob h
  refine ct_aald (q := 20) rfl hB dX6_arcFrom_19 ga26 rfl ?_
  refine ct_iload_2 (q := 21) dX6_arcFrom_20 rfl ?_
  obtain ⟨M27, gM27, h⟩ := ob h
  refine ct_putI (q := 24) hB dX6_arcFrom_21 fl_RX6_96 rfl rfl (Or.inl rfl) gM27 rfl ?_
  refine ct_aload_0 (q := 25) dX6_arcFrom_24 rfl ?_
  obtain ⟨a28, ga28, h⟩ := ob h
  refine ct_getP (q := 28) hB dX6_arcFrom_25 fl_RX6_56 rfl ga28 rfl ?_
  obtain ⟨a29, ga29, h⟩ := ob h
  refine ct_getP (q := 31) hB dX6_arcFrom_28 fl_RX6_87 rfl ga29 rfl ?_
  refine ct_iload_1 (q := 32) dX6_arcFrom_31 rfl ?_
  obtain ⟨a30, ga30, h⟩ := ob h
  refine ct_aald (q := 33) rfl hB dX6_arcFrom_32 ga30 rfl ?_
  refine ct_iload_3 (q := 34) dX6_arcFrom_33 rfl ?_
  obtain ⟨M31, gM31, h⟩ := ob h
  refine ct_putI (q := 37) hB dX6_arcFrom_34 fl_RX6_99 rfl rfl (Or.inl rfl) gM31 rfl ?_
  refine ct_iconst (v := 0) (q := 38) dX6_arcFrom_37 (by decide) rfl ?_
  refine ct_istore_4 (q := 40) dX6_arcFrom_38 (by decide) rfl rfl ?_
  exact ct_lessK (vX6_arcFrom_h40 hB  4000 a0 0 M31 r h) (And.intro rfl (And.intro rfl (trivial)))

def fX6_quiet_b123 (k46 : Nat → Int32 → Int32 → Nat → Int32 → Int32 → Int32 → ctM → Option (Int32 × ctM)) (k65 : Nat → Int32 → Int32 → Nat → Int32 → Int32 → Int32 → Int32 → ctM → Option (Int32 × ctM)) (a0 : Nat) (x1 : Int32) (x2 : Int32) (a3 : Nat) (x4 : Int32) (x5 : Int32) (x6 : Int32) (x7 : Int32) (M : ctM) : Option (Int32 × ctM) :=
  k65 a0 x1 x2 a3 x4 x5 x6 (x7 + 1) M

set_option maxHeartbeats 4000000 in
set_option maxRecDepth 20000 in
theorem vX6_quiet_b123 {B : ctB} {n : Nat} (hB : ctOk B kdC lnC n) {k46 : Nat → Int32 → Int32 → Nat → Int32 → Int32 → Int32 → ctM → Option (Int32 × ctM)} {k65 : Nat → Int32 → Int32 → Nat → Int32 → Int32 → Int32 → Int32 → ctM → Option (Int32 × ctM)} (hk46 : ∀ (a0 : Nat) (x1 : Int32) (x2 : Int32) (a3 : Nat) (x4 : Int32) (x5 : Int32) (x6 : Int32) (M : ctM) (r : Int32 × ctM), k46 a0 x1 x2 a3 x4 x5 x6 M = some r → ctV B mX6_quiet (7, 0, 0) (poI r n) 46 [some (.ref a0), some (.int x1), some (.int x2), some (.ref a3), some (.int x4), some (.int x5), some (.int x6), none, none] [] (0, 0) n M) (hk65 : ∀ (a0 : Nat) (x1 : Int32) (x2 : Int32) (a3 : Nat) (x4 : Int32) (x5 : Int32) (x6 : Int32) (x7 : Int32) (M : ctM) (r : Int32 × ctM), k65 a0 x1 x2 a3 x4 x5 x6 x7 M = some r → ctV B mX6_quiet (7, 0, 0) (poI r n) 65 [some (.ref a0), some (.int x1), some (.int x2), some (.ref a3), some (.int x4), some (.int x5), some (.int x6), some (.int x7), none] [] (0, 0) n M) : ∀ (a0 : Nat) (x1 : Int32) (x2 : Int32) (a3 : Nat) (x4 : Int32) (x5 : Int32) (x6 : Int32) (x7 : Int32) (M : ctM) (r : Int32 × ctM), fX6_quiet_b123 k46 k65 a0 x1 x2 a3 x4 x5 x6 x7 M = some r → ctV B mX6_quiet (7, 0, 0) (poI r n) 123 [some (.ref a0), some (.int x1), some (.int x2), some (.ref a3), some (.int x4), some (.int x5), some (.int x6), some (.int x7), none] [] (0, 0) n M := by
  intro a0 x1 x2 a3 x4 x5 x6 x7 M r h
  unfold fX6_quiet_b123 at h
  refine ct_iinc_7 (q := 126) (v := x7 + 1) dX6_quiet_123 (by first | rfl | decide) (by decide) rfl rfl ?_
  refine ct_goto (q := 65) dX6_quiet_126 (by decide) ?_
  exact ct_lessK (hk65 a0 x1 x2 a3 x4 x5 x6 (x7 + 1) M r h) (And.intro rfl (And.intro rfl (And.intro rfl (And.intro rfl (And.intro rfl (And.intro rfl (And.intro rfl (And.intro rfl (trivial)))))))))

def fX6_quiet_b100 (k46 : Nat → Int32 → Int32 → Nat → Int32 → Int32 → Int32 → ctM → Option (Int32 × ctM)) (k65 : Nat → Int32 → Int32 → Nat → Int32 → Int32 → Int32 → Int32 → ctM → Option (Int32 × ctM)) (a0 : Nat) (x1 : Int32) (x2 : Int32) (a3 : Nat) (x4 : Int32) (x5 : Int32) (x6 : Int32) (x7 : Int32) (xs0 : Int32) (M : ctM) : Option (Int32 × ctM) :=
  if x4 ≤ xs0 then
    fX6_quiet_b123 k46 k65 a0 x1 x2 a3 x4 x5 x6 x7 M
  else
    fX6_quiet_b123 k46 k65 a0 x1 x2 a3 xs0 ((100 * x6) + x7) x6 x7 M

set_option maxHeartbeats 4000000 in
set_option maxRecDepth 20000 in
theorem vX6_quiet_b100 {B : ctB} {n : Nat} (hB : ctOk B kdC lnC n) {k46 : Nat → Int32 → Int32 → Nat → Int32 → Int32 → Int32 → ctM → Option (Int32 × ctM)} {k65 : Nat → Int32 → Int32 → Nat → Int32 → Int32 → Int32 → Int32 → ctM → Option (Int32 × ctM)} (hk46 : ∀ (a0 : Nat) (x1 : Int32) (x2 : Int32) (a3 : Nat) (x4 : Int32) (x5 : Int32) (x6 : Int32) (M : ctM) (r : Int32 × ctM), k46 a0 x1 x2 a3 x4 x5 x6 M = some r → ctV B mX6_quiet (7, 0, 0) (poI r n) 46 [some (.ref a0), some (.int x1), some (.int x2), some (.ref a3), some (.int x4), some (.int x5), some (.int x6), none, none] [] (0, 0) n M) (hk65 : ∀ (a0 : Nat) (x1 : Int32) (x2 : Int32) (a3 : Nat) (x4 : Int32) (x5 : Int32) (x6 : Int32) (x7 : Int32) (M : ctM) (r : Int32 × ctM), k65 a0 x1 x2 a3 x4 x5 x6 x7 M = some r → ctV B mX6_quiet (7, 0, 0) (poI r n) 65 [some (.ref a0), some (.int x1), some (.int x2), some (.ref a3), some (.int x4), some (.int x5), some (.int x6), some (.int x7), none] [] (0, 0) n M) : ∀ (a0 : Nat) (x1 : Int32) (x2 : Int32) (a3 : Nat) (x4 : Int32) (x5 : Int32) (x6 : Int32) (x7 : Int32) (xs0 : Int32) (M : ctM) (r : Int32 × ctM), fX6_quiet_b100 k46 k65 a0 x1 x2 a3 x4 x5 x6 x7 xs0 M = some r → ctV B mX6_quiet (7, 0, 0) (poI r n) 100 [some (.ref a0), some (.int x1), some (.int x2), some (.ref a3), some (.int x4), some (.int x5), some (.int x6), some (.int x7), none] [.int xs0] (0, 0) n M := by
  intro a0 x1 x2 a3 x4 x5 x6 x7 xs0 M r h
  unfold fX6_quiet_b100 at h
  refine ct_istore_8 (q := 102) dX6_quiet_100 (by decide) rfl rfl ?_
  refine ct_iload_8 (q := 104) dX6_quiet_102 rfl ?_
  refine ct_iload_4 (q := 106) dX6_quiet_104 rfl ?_
  refine ct_icmp_ge (q := 109) (tgt := 123) dX6_quiet_106 (by decide) rfl (fun z21 => ?_) (fun z21 => ?_)
  · replace h := it_t h z21
    exact ct_lessK (vX6_quiet_b123 hB hk46 hk65 a0 x1 x2 a3 x4 x5 x6 x7 M r h) (And.intro rfl (And.intro rfl (And.intro rfl (And.intro rfl (And.intro rfl (And.intro rfl (And.intro rfl (And.intro rfl (trivial)))))))))
  · replace h := it_f h z21
    refine ct_iload_8 (q := 111) dX6_quiet_109 rfl ?_
    refine ct_istore_4 (q := 113) dX6_quiet_111 (by decide) rfl rfl ?_
    refine ct_bipush (v := 100) (q := 115) dX6_quiet_113 (by decide) rfl ?_
    refine ct_iload_6 (q := 117) dX6_quiet_115 rfl ?_
    refine ct_imul (q := 118) dX6_quiet_117 rfl ?_
    refine ct_iload_7 (q := 120) dX6_quiet_118 rfl ?_
    refine ct_iadd (q := 121) dX6_quiet_120 rfl ?_
    refine ct_istore_5 (q := 123) dX6_quiet_121 (by decide) rfl rfl ?_
    exact ct_lessK (vX6_quiet_b123 hB hk46 hk65 a0 x1 x2 a3 xs0 ((100 * x6) + x7) x6 x7 M r h) (And.intro rfl (And.intro rfl (And.intro rfl (And.intro rfl (And.intro rfl (And.intro rfl (And.intro rfl (And.intro rfl (trivial)))))))))

def fX6_quiet_h65 (k46 : Nat → Int32 → Int32 → Nat → Int32 → Int32 → Int32 → ctM → Option (Int32 × ctM)) : Nat → Nat → Int32 → Int32 → Nat → Int32 → Int32 → Int32 → Int32 → ctM → Option (Int32 × ctM)
  | 0, _, _, _, _, _, _, _, _, _ => none
  | N + 1, a0, x1, x2, a3, x4, x5, x6, x7, M =>
    (gI kdC 0 2 a3 M).bind fun x21 =>
    if (x21 + 3) < x7 then
      k46 a0 x1 x2 a3 x4 x5 (x6 + 1) M
    else
      (fX6_isOnBoard x6 x7 M).bind fun r23 =>
      if r23.1 = 0 then
        fX6_quiet_b100 k46 (fX6_quiet_h65 k46 N) a0 x1 x2 a3 x4 x5 x6 x7 121 r23.2
      else
        (cV kdC 6 a0 (fX6_arcFrom a0 x1 x6 x7 r23.2)).bind fun r25 =>
        fX6_quiet_b100 k46 (fX6_quiet_h65 k46 N) a0 x1 x2 a3 x4 x5 x6 x7 r25.1 r25.2

set_option maxHeartbeats 4000000 in
set_option maxRecDepth 20000 in
theorem vX6_quiet_h65 {B : ctB} {n : Nat} (hB : ctOk B kdC lnC n) {k46 : Nat → Int32 → Int32 → Nat → Int32 → Int32 → Int32 → ctM → Option (Int32 × ctM)} (hk46 : ∀ (a0 : Nat) (x1 : Int32) (x2 : Int32) (a3 : Nat) (x4 : Int32) (x5 : Int32) (x6 : Int32) (M : ctM) (r : Int32 × ctM), k46 a0 x1 x2 a3 x4 x5 x6 M = some r → ctV B mX6_quiet (7, 0, 0) (poI r n) 46 [some (.ref a0), some (.int x1), some (.int x2), some (.ref a3), some (.int x4), some (.int x5), some (.int x6), none, none] [] (0, 0) n M) : ∀ (N : Nat) (a0 : Nat) (x1 : Int32) (x2 : Int32) (a3 : Nat) (x4 : Int32) (x5 : Int32) (x6 : Int32) (x7 : Int32) (M : ctM) (r : Int32 × ctM), fX6_quiet_h65 k46 N a0 x1 x2 a3 x4 x5 x6 x7 M = some r → ctV B mX6_quiet (7, 0, 0) (poI r n) 65 [some (.ref a0), some (.int x1), some (.int x2), some (.ref a3), some (.int x4), some (.int x5), some (.int x6), some (.int x7), none] [] (0, 0) n M := by
  intro N
  induction N with
  | zero => intro a0 x1 x2 a3 x4 x5 x6 x7 M r h; exact absurd h (by simp [fX6_quiet_h65])
  | succ N ih =>
    intro a0 x1 x2 a3 x4 x5 x6 x7 M r h
    rw [fX6_quiet_h65] at h
    refine ct_iload_7 (q := 67) dX6_quiet_65 rfl ?_
    refine ct_aload_3 (q := 68) dX6_quiet_67 rfl ?_
    obtain ⟨x21, gx21, h⟩ := ob h
    refine ct_getI (q := 71) hB dX6_quiet_68 fl_RX6_99 rfl gx21 rfl ?_
    refine ct_iconst (v := 3) (q := 72) dX6_quiet_71 (by decide) rfl ?_
    refine ct_iadd (q := 73) dX6_quiet_72 rfl ?_
    refine ct_icmp_gt (q := 76) (tgt := 129) dX6_quiet_73 (by decide) rfl (fun z22 => ?_) (fun z22 => ?_)
    · replace h := it_t h z22
      refine ct_iinc_6 (q := 132) (v := x6 + 1) dX6_quiet_129 (by first | rfl | decide) (by decide) rfl rfl ?_
      refine ct_goto (q := 46) dX6_quiet_132 (by decide) ?_
      exact ct_lessK (hk46 a0 x1 x2 a3 x4 x5 (x6 + 1) M r h) (And.intro rfl (And.intro rfl (And.intro rfl (And.intro rfl (And.intro rfl (And.intro rfl (And.intro rfl (trivial))))))))
    · replace h := it_f h z22
      refine ct_iload_6 (q := 78) dX6_quiet_76 rfl ?_
      refine ct_iload_7 (q := 80) dX6_quiet_78 rfl ?_
      obtain ⟨r23, gr23, h⟩ := ob h
      refine ct_cSi2 (q := 83) dX6_quiet_80 lk_RX6_195 (by decide) (ctX6_isOnBoard hB gr23) (Nat.le_of_ble_eq_true rfl) rfl ?_
      refine ct_if_eq (q := 86) (tgt := 98) dX6_quiet_83 (by decide) rfl (fun z24 => ?_) (fun z24 => ?_)
      · replace h := it_t h z24
        refine ct_bipush (v := 121) (q := 100) dX6_quiet_98 (by decide) rfl ?_
        exact ct_lessK (vX6_quiet_b100 hB hk46 ih a0 x1 x2 a3 x4 x5 x6 x7 121 r23.2 r h) (And.intro rfl (And.intro rfl (And.intro rfl (And.intro rfl (And.intro rfl (And.intro rfl (And.intro rfl (And.intro rfl (trivial)))))))))
      · replace h := it_f h z24
        refine ct_aload_0 (q := 87) dX6_quiet_86 rfl ?_
        refine ct_iload_1 (q := 88) dX6_quiet_87 rfl ?_
        refine ct_iload_6 (q := 90) dX6_quiet_88 rfl ?_
        refine ct_iload_7 (q := 92) dX6_quiet_90 rfl ?_
        obtain ⟨r25, gr25, h⟩ := ob h
        obtain ⟨er25, gr25⟩ := cV_spec gr25
        refine ct_cVi3 (q := 95) hB dX6_quiet_92 lk_RX6_198 (by decide) (ctX6_arcFrom hB gr25) er25 (by decide) rfl (Nat.le_of_ble_eq_true rfl) rfl ?_
        refine ct_goto (q := 100) dX6_quiet_95 (by decide) ?_
        exact ct_lessK (vX6_quiet_b100 hB hk46 ih a0 x1 x2 a3 x4 x5 x6 x7 r25.1 r25.2 r h) (And.intro rfl (And.intro rfl (And.intro rfl (And.intro rfl (And.intro rfl (And.intro rfl (And.intro rfl (And.intro rfl (trivial)))))))))

def fX6_quiet_h46 : Nat → Nat → Int32 → Int32 → Nat → Int32 → Int32 → Int32 → ctM → Option (Int32 × ctM)
  | 0, _, _, _, _, _, _, _, _ => none
  | N + 1, a0, x1, x2, a3, x4, x5, x6, M =>
    (gI kdC 0 1 a3 M).bind fun x21 =>
    if (x21 + 3) < x6 then
      if x2 = 1 then
        some (x5, M)
      else
        if x4 < 120 then
          some (x4, M)
        else
          some ((-1000000005), M)
    else
      (gI kdC 0 2 a3 M).bind fun x25 =>
      fX6_quiet_h65 (fX6_quiet_h46 N) 4000 a0 x1 x2 a3 x4 x5 x6 (x25 - 3) M

set_option maxHeartbeats 4000000 in
set_option maxRecDepth 20000 in
theorem vX6_quiet_h46 {B : ctB} {n : Nat} (hB : ctOk B kdC lnC n) : ∀ (N : Nat) (a0 : Nat) (x1 : Int32) (x2 : Int32) (a3 : Nat) (x4 : Int32) (x5 : Int32) (x6 : Int32) (M : ctM) (r : Int32 × ctM), fX6_quiet_h46 N a0 x1 x2 a3 x4 x5 x6 M = some r → ctV B mX6_quiet (7, 0, 0) (poI r n) 46 [some (.ref a0), some (.int x1), some (.int x2), some (.ref a3), some (.int x4), some (.int x5), some (.int x6), none, none] [] (0, 0) n M := by
  intro N
  induction N with
  | zero => intro a0 x1 x2 a3 x4 x5 x6 M r h; exact absurd h (by simp [fX6_quiet_h46])
  | succ N ih =>
    intro a0 x1 x2 a3 x4 x5 x6 M r h
    rw [fX6_quiet_h46] at h
    refine ct_iload_6 (q := 48) dX6_quiet_46 rfl ?_
    refine ct_aload_3 (q := 49) dX6_quiet_48 rfl ?_
    obtain ⟨x21, gx21, h⟩ := ob h
    refine ct_getI (q := 52) hB dX6_quiet_49 fl_RX6_96 rfl gx21 rfl ?_
    refine ct_iconst (v := 3) (q := 53) dX6_quiet_52 (by decide) rfl ?_
    refine ct_iadd (q := 54) dX6_quiet_53 rfl ?_
    refine ct_icmp_gt (q := 57) (tgt := 135) dX6_quiet_54 (by decide) rfl (fun z22 => ?_) (fun z22 => ?_)
    · replace h := it_t h z22
      refine ct_iload_2 (q := 136) dX6_quiet_135 rfl ?_
      refine ct_iconst (v := 1) (q := 137) dX6_quiet_136 (by decide) rfl ?_
      refine ct_icmp_ne (q := 140) (tgt := 143) dX6_quiet_137 (by decide) rfl (fun z23 => ?_) (fun z23 => ?_)
      · replace h := it_f h z23
        refine ct_iload_4 (q := 145) dX6_quiet_143 rfl ?_
        refine ct_bipush (v := 120) (q := 147) dX6_quiet_145 (by decide) rfl ?_
        refine ct_icmp_lt (q := 150) (tgt := 155) dX6_quiet_147 (by decide) rfl (fun z24 => ?_) (fun z24 => ?_)
        · replace h := it_t h z24
          refine ct_iload_4 (q := 157) dX6_quiet_155 rfl ?_
          exact ct_iret dX6_quiet_157 rfl ⟨Nat.le_refl 0, Nat.le_refl 0⟩ (poI_of h)
        · replace h := it_f h z24
          refine ct_ldc (q := 152) dX6_quiet_150 wd_535 rfl ?_
          refine ct_goto (q := 157) dX6_quiet_152 (by decide) ?_
          exact ct_iret dX6_quiet_157 rfl ⟨Nat.le_refl 0, Nat.le_refl 0⟩ (poI_of h)
      · replace h := it_t h z23
        refine ct_iload_5 (q := 142) dX6_quiet_140 rfl ?_
        exact ct_iret dX6_quiet_142 rfl ⟨Nat.le_refl 0, Nat.le_refl 0⟩ (poI_of h)
    · replace h := it_f h z22
      refine ct_aload_3 (q := 58) dX6_quiet_57 rfl ?_
      obtain ⟨x25, gx25, h⟩ := ob h
      refine ct_getI (q := 61) hB dX6_quiet_58 fl_RX6_99 rfl gx25 rfl ?_
      refine ct_iconst (v := 3) (q := 62) dX6_quiet_61 (by decide) rfl ?_
      refine ct_isub (q := 63) dX6_quiet_62 rfl ?_
      refine ct_istore_7 (q := 65) dX6_quiet_63 (by decide) rfl rfl ?_
      exact ct_lessK (vX6_quiet_h65 hB ih 4000 a0 x1 x2 a3 x4 x5 x6 (x25 - 3) M r h) (And.intro rfl (And.intro rfl (And.intro rfl (And.intro rfl (And.intro rfl (And.intro rfl (And.intro rfl (And.intro rfl (trivial)))))))))

def fX6_quiet (a0 : Nat) (x1 : Int32) (x2 : Int32) (M : ctM) : Option (Int32 × ctM) :=
  (cV kdC 6 a0 (fX6_isFlame a0 x1 M)).bind fun r21 =>
  if r21.1 = 0 then
    some ((-1000000001), r21.2)
  else
    (fX6_isWithin x2 0 1 r21.2).bind fun r23 =>
    if r23.1 = 0 then
      some ((-1000000001), r23.2)
    else
      (gP kdC 6 1 a0 r23.2).bind fun a25 =>
      (gP kdC 2 1 a25 r23.2).bind fun a26 =>
      (aP kdC lnC 11 a26 x1 r23.2).bind fun a27 =>
      (gI kdC 0 1 a27 r23.2).bind fun x28 =>
      fX6_quiet_h46 4000 a0 x1 x2 a27 121 (-1000000005) (x28 - 3) r23.2

set_option maxHeartbeats 4000000 in
set_option maxRecDepth 20000 in
theorem ctX6_quiet {B : ctB} {n : Nat} (hB : ctOk B kdC lnC n) {a0 : Nat} {x1 : Int32} {x2 : Int32} {M : ctM} {r : Int32 × ctM} (h : fX6_quiet a0 x1 x2 M = some r) : ctC B mX6_quiet (7, 0, 0) [.ref a0, .int x1, .int x2] n M (poI r n) := by
  refine ctC_of (by decide) (Nat.le_of_ble_eq_true rfl) ?_
  show ctV B mX6_quiet (7, 0, 0) (poI r n) 0 [some (.ref a0), some (.int x1), some (.int x2), none, none, none, none, none, none] [] (0, 0) n M
  unfold fX6_quiet at h
  refine ct_aload_0 (q := 1) dX6_quiet_0 rfl ?_
  refine ct_iload_1 (q := 2) dX6_quiet_1 rfl ?_
  obtain ⟨r21, gr21, h⟩ := ob h
  obtain ⟨er21, gr21⟩ := cV_spec gr21
  refine ct_cVi1 (q := 5) hB dX6_quiet_2 lk_RX6_84 (by decide) (ctX6_isFlame hB gr21) er21 (by decide) rfl (Nat.le_of_ble_eq_true rfl) rfl ?_
  refine ct_if_eq (q := 8) (tgt := 17) dX6_quiet_5 (by decide) rfl (fun z22 => ?_) (fun z22 => ?_)
  · replace h := it_t h z22
    refine ct_ldc (q := 19) dX6_quiet_17 wd_318 rfl ?_
    exact ct_iret dX6_quiet_19 rfl ⟨Nat.le_refl 0, Nat.le_refl 0⟩ (poI_of h)
  · replace h := it_f h z22
    refine ct_iload_2 (q := 9) dX6_quiet_8 rfl ?_
    refine ct_iconst (v := 0) (q := 10) dX6_quiet_9 (by decide) rfl ?_
    refine ct_iconst (v := 1) (q := 11) dX6_quiet_10 (by decide) rfl ?_
    obtain ⟨r23, gr23, h⟩ := ob h
    refine ct_cSi3 (q := 14) dX6_quiet_11 lk_RX6_71 (by decide) (ctX6_isWithin hB gr23) (Nat.le_of_ble_eq_true rfl) rfl ?_
    refine ct_if_ne (q := 17) (tgt := 20) dX6_quiet_14 (by decide) rfl (fun z24 => ?_) (fun z24 => ?_)
    · replace h := it_f h z24
      refine ct_aload_0 (q := 21) dX6_quiet_20 rfl ?_
      obtain ⟨a25, ga25, h⟩ := ob h
      refine ct_getP (q := 24) hB dX6_quiet_21 fl_RX6_52 rfl ga25 rfl ?_
      obtain ⟨a26, ga26, h⟩ := ob h
      refine ct_getP (q := 27) hB dX6_quiet_24 fl_RX6_87 rfl ga26 rfl ?_
      refine ct_iload_1 (q := 28) dX6_quiet_27 rfl ?_
      obtain ⟨a27, ga27, h⟩ := ob h
      refine ct_aald (q := 29) rfl hB dX6_quiet_28 ga27 rfl ?_
      refine ct_astore_3 (q := 30) dX6_quiet_29 (by decide) rfl rfl ?_
      refine ct_bipush (v := 121) (q := 32) dX6_quiet_30 (by decide) rfl ?_
      refine ct_istore_4 (q := 34) dX6_quiet_32 (by decide) rfl rfl ?_
      refine ct_ldc (q := 36) dX6_quiet_34 wd_535 rfl ?_
      refine ct_istore_5 (q := 38) dX6_quiet_36 (by decide) rfl rfl ?_
      refine ct_aload_3 (q := 39) dX6_quiet_38 rfl ?_
      obtain ⟨x28, gx28, h⟩ := ob h
      refine ct_getI (q := 42) hB dX6_quiet_39 fl_RX6_96 rfl gx28 rfl ?_
      refine ct_iconst (v := 3) (q := 43) dX6_quiet_42 (by decide) rfl ?_
      refine ct_isub (q := 44) dX6_quiet_43 rfl ?_
      refine ct_istore_6 (q := 46) dX6_quiet_44 (by decide) rfl rfl ?_
      exact ct_lessK (vX6_quiet_h46 hB  4000 a0 x1 x2 a27 121 (-1000000005) (x28 - 3) r23.2 r h) (And.intro rfl (And.intro rfl (And.intro rfl (And.intro rfl (And.intro rfl (And.intro rfl (And.intro rfl (trivial))))))))
    · replace h := it_t h z24
      refine ct_ldc (q := 19) dX6_quiet_17 wd_318 rfl ?_
      exact ct_iret dX6_quiet_19 rfl ⟨Nat.le_refl 0, Nat.le_refl 0⟩ (poI_of h)

def fX6_hitsWith_b71 (k25 : Nat → Nat → Int32 → Int32 → Int32 → ctM → Option (Int32 × ctM)) (a0 : Nat) (a2 : Nat) (x3 : Int32) (x5 : Int32) (xs0 : Int32) (xs1 : Int32) (M : ctM) : Option (Int32 × ctM) :=
  k25 a0 a2 x3 (xs0 + xs1) (x5 + 1) M

set_option maxHeartbeats 4000000 in
set_option maxRecDepth 20000 in
theorem vX6_hitsWith_b71 {B : ctB} {n : Nat} (hB : ctOk B kdC lnC n) {k25 : Nat → Nat → Int32 → Int32 → Int32 → ctM → Option (Int32 × ctM)} (hk25 : ∀ (a0 : Nat) (a2 : Nat) (x3 : Int32) (x4 : Int32) (x5 : Int32) (M : ctM) (r : Int32 × ctM), k25 a0 a2 x3 x4 x5 M = some r → ctV B mX6_hitsWith (6, 0, 0) (poI r n) 25 [some (.ref a0), none, some (.ref a2), some (.int x3), some (.int x4), some (.int x5)] [] (0, 0) n M) : ∀ (a0 : Nat) (a2 : Nat) (x3 : Int32) (x5 : Int32) (xs0 : Int32) (xs1 : Int32) (M : ctM) (r : Int32 × ctM), fX6_hitsWith_b71 k25 a0 a2 x3 x5 xs0 xs1 M = some r → ctV B mX6_hitsWith (6, 0, 0) (poI r n) 71 [some (.ref a0), none, some (.ref a2), some (.int x3), none, some (.int x5)] [.int xs1, .int xs0] (0, 0) n M := by
  intro a0 a2 x3 x5 xs0 xs1 M r h
  unfold fX6_hitsWith_b71 at h
  refine ct_iadd (q := 72) dX6_hitsWith_71 rfl ?_
  refine ct_istore_4 (q := 74) dX6_hitsWith_72 (by decide) rfl rfl ?_
  refine ct_iinc_5 (q := 77) (v := x5 + 1) dX6_hitsWith_74 (by first | rfl | decide) (by decide) rfl rfl ?_
  refine ct_goto (q := 25) dX6_hitsWith_77 (by decide) ?_
  exact ct_lessK (hk25 a0 a2 x3 (xs0 + xs1) (x5 + 1) M r h) (And.intro rfl (And.intro rfl (And.intro rfl (And.intro rfl (And.intro rfl (trivial))))))

def fX6_hitsWith_h25 : Nat → Nat → Nat → Int32 → Int32 → Int32 → ctM → Option (Int32 × ctM)
  | 0, _, _, _, _, _, _ => none
  | N + 1, a0, a2, x3, x4, x5, M =>
    (gI kdC 3 1 a2 M).bind fun x21 =>
    if x21 ≤ x5 then
      some (x4, M)
    else
      (gP kdC 6 2 a0 M).bind fun a23 =>
      (cV kdC 2 a23 (fX2_goBy a23 M)).bind fun r24 =>
      (gP kdC 3 2 a2 r24.2).bind fun a25 =>
      (aI kdC lnC 9 a25 x5 r24.2).bind fun x26 =>
      (gP kdC 6 2 a0 r24.2).bind fun a27 =>
      (gP kdC 2 1 a27 r24.2).bind fun a28 =>
      (aP kdC lnC 11 a28 x3 r24.2).bind fun a29 =>
      (gI kdC 0 4 a29 r24.2).bind fun x30 =>
      if x26 = x30 then
        fX6_hitsWith_b71 (fX6_hitsWith_h25 N) a0 a2 x3 x5 x4 1 r24.2
      else
        fX6_hitsWith_b71 (fX6_hitsWith_h25 N) a0 a2 x3 x5 x4 0 r24.2

set_option maxHeartbeats 4000000 in
set_option maxRecDepth 20000 in
theorem vX6_hitsWith_h25 {B : ctB} {n : Nat} (hB : ctOk B kdC lnC n) : ∀ (N : Nat) (a0 : Nat) (a2 : Nat) (x3 : Int32) (x4 : Int32) (x5 : Int32) (M : ctM) (r : Int32 × ctM), fX6_hitsWith_h25 N a0 a2 x3 x4 x5 M = some r → ctV B mX6_hitsWith (6, 0, 0) (poI r n) 25 [some (.ref a0), none, some (.ref a2), some (.int x3), some (.int x4), some (.int x5)] [] (0, 0) n M := by
  intro N
  induction N with
  | zero => intro a0 a2 x3 x4 x5 M r h; exact absurd h (by simp [fX6_hitsWith_h25])
  | succ N ih =>
    intro a0 a2 x3 x4 x5 M r h
    rw [fX6_hitsWith_h25] at h
    refine ct_iload_5 (q := 27) dX6_hitsWith_25 rfl ?_
    refine ct_aload_2 (q := 28) dX6_hitsWith_27 rfl ?_
    obtain ⟨x21, gx21, h⟩ := ob h
    refine ct_getI (q := 31) hB dX6_hitsWith_28 fl_RX6_214 rfl gx21 rfl ?_
    refine ct_icmp_ge (q := 34) (tgt := 80) dX6_hitsWith_31 (by decide) rfl (fun z22 => ?_) (fun z22 => ?_)
    · replace h := it_t h z22
      refine ct_iload_4 (q := 82) dX6_hitsWith_80 rfl ?_
      exact ct_iret dX6_hitsWith_82 rfl ⟨Nat.le_refl 0, Nat.le_refl 0⟩ (poI_of h)
    · replace h := it_f h z22
      refine ct_aload_0 (q := 35) dX6_hitsWith_34 rfl ?_
      obtain ⟨a23, ga23, h⟩ := ob h
      refine ct_getP (q := 38) hB dX6_hitsWith_35 fl_RX6_56 rfl ga23 rfl ?_
      obtain ⟨r24, gr24, h⟩ := ob h
      obtain ⟨er24, gr24⟩ := cV_spec gr24
      refine ct_cVi0 (q := 41) hB dX6_hitsWith_38 lk_RX6_167 (by decide) (ctX2_goBy hB gr24) er24 (by decide) rfl (Nat.le_of_ble_eq_true rfl) rfl ?_
      refine ct_pop (q := 42) dX6_hitsWith_41 rfl rfl ?_
      refine ct_iload_4 (q := 44) dX6_hitsWith_42 rfl ?_
      refine ct_aload_2 (q := 45) dX6_hitsWith_44 rfl ?_
      obtain ⟨a25, ga25, h⟩ := ob h
      refine ct_getP (q := 48) hB dX6_hitsWith_45 fl_RX6_217 rfl ga25 rfl ?_
      refine ct_iload_5 (q := 50) dX6_hitsWith_48 rfl ?_
      obtain ⟨x26, gx26, h⟩ := ob h
      refine ct_iald (q := 51) hB dX6_hitsWith_50 gx26 rfl ?_
      refine ct_aload_0 (q := 52) dX6_hitsWith_51 rfl ?_
      obtain ⟨a27, ga27, h⟩ := ob h
      refine ct_getP (q := 55) hB dX6_hitsWith_52 fl_RX6_56 rfl ga27 rfl ?_
      obtain ⟨a28, ga28, h⟩ := ob h
      refine ct_getP (q := 58) hB dX6_hitsWith_55 fl_RX6_87 rfl ga28 rfl ?_
      refine ct_iload_3 (q := 59) dX6_hitsWith_58 rfl ?_
      obtain ⟨a29, ga29, h⟩ := ob h
      refine ct_aald (q := 60) rfl hB dX6_hitsWith_59 ga29 rfl ?_
      obtain ⟨x30, gx30, h⟩ := ob h
      refine ct_getI (q := 63) hB dX6_hitsWith_60 fl_RX6_105 rfl gx30 rfl ?_
      refine ct_icmp_ne (q := 66) (tgt := 70) dX6_hitsWith_63 (by decide) rfl (fun z31 => ?_) (fun z31 => ?_)
      · replace h := it_f h z31
        refine ct_iconst (v := 0) (q := 71) dX6_hitsWith_70 (by decide) rfl ?_
        exact ct_lessK (vX6_hitsWith_b71 hB ih a0 a2 x3 x5 x4 0 r24.2 r h) (And.intro rfl (And.intro rfl (And.intro rfl (And.intro rfl (trivial)))))
      · replace h := it_t h z31
        refine ct_iconst (v := 1) (q := 67) dX6_hitsWith_66 (by decide) rfl ?_
        refine ct_goto (q := 71) dX6_hitsWith_67 (by decide) ?_
        exact ct_lessK (vX6_hitsWith_b71 hB ih a0 a2 x3 x5 x4 1 r24.2 r h) (And.intro rfl (And.intro rfl (And.intro rfl (And.intro rfl (trivial)))))

def fX6_hitsWith (a0 : Nat) (x1 : Int32) (a2 : Nat) (x3 : Int32) (M : ctM) : Option (Int32 × ctM) :=
  (gP kdC 6 2 a0 M).bind fun a21 =>
  (gP kdC 6 1 a0 M).bind fun a22 =>
  (cV kdC 2 a21 (fX2_become a21 a22 M)).bind fun r23 =>
  (gP kdC 6 2 a0 r23).bind fun a24 =>
  (pI kdC 2 6 a24 x1 r23).bind fun M25 =>
  fX6_hitsWith_h25 4000 a0 a2 x3 0 0 M25

set_option maxHeartbeats 4000000 in
set_option maxRecDepth 20000 in
theorem ctX6_hitsWith {B : ctB} {n : Nat} (hB : ctOk B kdC lnC n) {a0 : Nat} {x1 : Int32} {a2 : Nat} {x3 : Int32} {M : ctM} {r : Int32 × ctM} (h : fX6_hitsWith a0 x1 a2 x3 M = some r) : ctC B mX6_hitsWith (6, 0, 0) [.ref a0, .int x1, .ref a2, .int x3] n M (poI r n) := by
  refine ctC_of (by decide) (Nat.le_of_ble_eq_true rfl) ?_
  show ctV B mX6_hitsWith (6, 0, 0) (poI r n) 0 [some (.ref a0), some (.int x1), some (.ref a2), some (.int x3), none, none] [] (0, 0) n M
  unfold fX6_hitsWith at h
  refine ct_aload_0 (q := 1) dX6_hitsWith_0 rfl ?_
  obtain ⟨a21, ga21, h⟩ := ob h
  refine ct_getP (q := 4) hB dX6_hitsWith_1 fl_RX6_56 rfl ga21 rfl ?_
  refine ct_aload_0 (q := 5) dX6_hitsWith_4 rfl ?_
  obtain ⟨a22, ga22, h⟩ := ob h
  refine ct_getP (q := 8) hB dX6_hitsWith_5 fl_RX6_52 rfl ga22 rfl ?_
  obtain ⟨r23, gr23, h⟩ := ob h
  obtain ⟨er23, gr23⟩ := cV_spec gr23
  refine ct_cVv1 (q := 11) hB dX6_hitsWith_8 lk_RX6_176 (by decide) (ctX2_become hB gr23) er23 (by decide) rfl (Nat.le_of_ble_eq_true rfl) rfl ?_
  refine ct_aload_0 (q := 12) dX6_hitsWith_11 rfl ?_
  obtain ⟨a24, ga24, h⟩ := ob h
  refine ct_getP (q := 15) hB dX6_hitsWith_12 fl_RX6_56 rfl ga24 rfl ?_
  refine ct_iload_1 (q := 16) dX6_hitsWith_15 rfl ?_
  obtain ⟨M25, gM25, h⟩ := ob h
  refine ct_putI (q := 19) hB dX6_hitsWith_16 fl_RX6_147 rfl rfl (Or.inl rfl) gM25 rfl ?_
  refine ct_iconst (v := 0) (q := 20) dX6_hitsWith_19 (by decide) rfl ?_
  refine ct_istore_4 (q := 22) dX6_hitsWith_20 (by decide) rfl rfl ?_
  refine ct_iconst (v := 0) (q := 23) dX6_hitsWith_22 (by decide) rfl ?_
  refine ct_istore_5 (q := 25) dX6_hitsWith_23 (by decide) rfl rfl ?_
  exact ct_lessK (vX6_hitsWith_h25 hB  4000 a0 a2 x3 0 0 M25 r h) (And.intro rfl (And.intro rfl (And.intro rfl (And.intro rfl (And.intro rfl (trivial))))))

def fX6_isSheet (x0 : Int32) (M : ctM) : Option (Int32 × ctM) :=
  (fX6_isWithin x0 0 3 M).bind fun r21 =>
  if r21.1 = 0 ∨ r21.1 = 1 then some (r21.1, r21.2) else none

set_option maxHeartbeats 4000000 in
set_option maxRecDepth 20000 in
theorem ctX6_isSheet {B : ctB} {n : Nat} (hB : ctOk B kdC lnC n) {x0 : Int32} {M : ctM} {r : Int32 × ctM} (h : fX6_isSheet x0 M = some r) : ctC B mX6_isSheet (1, 0, 0) [.int x0] n M (poI r n) := by
  refine ctC_of (by decide) (Nat.le_of_ble_eq_true rfl) ?_
  show ctV B mX6_isSheet (1, 0, 0) (poI r n) 0 [some (.int x0)] [] (0, 0) n M
  unfold fX6_isSheet at h
  refine ct_iload_0 (q := 1) dX6_isSheet_0 rfl ?_
  refine ct_iconst (v := 0) (q := 2) dX6_isSheet_1 (by decide) rfl ?_
  refine ct_iconst (v := 3) (q := 3) dX6_isSheet_2 (by decide) rfl ?_
  obtain ⟨r21, gr21, h⟩ := ob h
  refine ct_cSi3 (q := 6) dX6_isSheet_3 lk_RX6_71 (by decide) (ctX6_isWithin hB gr21) (Nat.le_of_ble_eq_true rfl) rfl ?_
  by_cases z22 : r21.1 = 0 ∨ r21.1 = 1
  · exact ct_zret dX6_isSheet_6 rfl z22 ⟨Nat.le_refl 0, Nat.le_refl 0⟩ (poI_of (it_t h z22))
  · exact absurd (it_f h z22) (by simp)

def fX6_learn_b76 (k44 : Nat → Int32 → Nat → Int32 → Int32 → Int32 → ctM → Option (Int32 × ctM)) (a0 : Nat) (x2 : Int32) (a3 : Nat) (x4 : Int32) (x5 : Int32) (x6 : Int32) (M : ctM) : Option (Int32 × ctM) :=
  k44 a0 x2 a3 x4 x5 (x6 + 1) M

set_option maxHeartbeats 4000000 in
set_option maxRecDepth 20000 in
theorem vX6_learn_b76 {B : ctB} {n : Nat} (hB : ctOk B kdC lnC n) {k44 : Nat → Int32 → Nat → Int32 → Int32 → Int32 → ctM → Option (Int32 × ctM)} (hk44 : ∀ (a0 : Nat) (x2 : Int32) (a3 : Nat) (x4 : Int32) (x5 : Int32) (x6 : Int32) (M : ctM) (r : Int32 × ctM), k44 a0 x2 a3 x4 x5 x6 M = some r → ctV B mX6_learn (7, 0, 0) (poI r n) 44 [some (.ref a0), none, some (.int x2), some (.ref a3), some (.int x4), some (.int x5), some (.int x6), none] [] (0, 0) n M) : ∀ (a0 : Nat) (x2 : Int32) (a3 : Nat) (x4 : Int32) (x5 : Int32) (x6 : Int32) (M : ctM) (r : Int32 × ctM), fX6_learn_b76 k44 a0 x2 a3 x4 x5 x6 M = some r → ctV B mX6_learn (7, 0, 0) (poI r n) 76 [some (.ref a0), none, some (.int x2), some (.ref a3), some (.int x4), some (.int x5), some (.int x6), none] [] (0, 0) n M := by
  intro a0 x2 a3 x4 x5 x6 M r h
  unfold fX6_learn_b76 at h
  refine ct_iinc_6 (q := 79) (v := x6 + 1) dX6_learn_76 (by first | rfl | decide) (by decide) rfl rfl ?_
  refine ct_goto (q := 44) dX6_learn_79 (by decide) ?_
  exact ct_lessK (hk44 a0 x2 a3 x4 x5 (x6 + 1) M r h) (And.intro rfl (And.intro rfl (And.intro rfl (And.intro rfl (And.intro rfl (And.intro rfl (trivial)))))))

def fX6_learn_h44 : Nat → Nat → Int32 → Nat → Int32 → Int32 → Int32 → ctM → Option (Int32 × ctM)
  | 0, _, _, _, _, _, _, _ => none
  | N + 1, a0, x2, a3, x4, x5, x6, M =>
    if 29 < x6 then
      some (x4, M)
    else
      (cV kdC 6 a0 (fX6_hitsWith a0 x6 a3 x2 M)).bind fun r22 =>
      if r22.1 ≤ x5 then
        fX6_learn_b76 (fX6_learn_h44 N) a0 x2 a3 x4 x5 x6 r22.2
      else
        fX6_learn_b76 (fX6_learn_h44 N) a0 x2 a3 x6 r22.1 x6 r22.2

set_option maxHeartbeats 4000000 in
set_option maxRecDepth 20000 in
theorem vX6_learn_h44 {B : ctB} {n : Nat} (hB : ctOk B kdC lnC n) : ∀ (N : Nat) (a0 : Nat) (x2 : Int32) (a3 : Nat) (x4 : Int32) (x5 : Int32) (x6 : Int32) (M : ctM) (r : Int32 × ctM), fX6_learn_h44 N a0 x2 a3 x4 x5 x6 M = some r → ctV B mX6_learn (7, 0, 0) (poI r n) 44 [some (.ref a0), none, some (.int x2), some (.ref a3), some (.int x4), some (.int x5), some (.int x6), none] [] (0, 0) n M := by
  intro N
  induction N with
  | zero => intro a0 x2 a3 x4 x5 x6 M r h; exact absurd h (by simp [fX6_learn_h44])
  | succ N ih =>
    intro a0 x2 a3 x4 x5 x6 M r h
    rw [fX6_learn_h44] at h
    refine ct_iload_6 (q := 46) dX6_learn_44 rfl ?_
    refine ct_bipush (v := 29) (q := 48) dX6_learn_46 (by decide) rfl ?_
    refine ct_icmp_gt (q := 51) (tgt := 82) dX6_learn_48 (by decide) rfl (fun z21 => ?_) (fun z21 => ?_)
    · replace h := it_t h z21
      refine ct_iload_4 (q := 84) dX6_learn_82 rfl ?_
      exact ct_iret dX6_learn_84 rfl ⟨Nat.le_refl 0, Nat.le_refl 0⟩ (poI_of h)
    · replace h := it_f h z21
      refine ct_aload_0 (q := 52) dX6_learn_51 rfl ?_
      refine ct_iload_6 (q := 54) dX6_learn_52 rfl ?_
      refine ct_aload_3 (q := 55) dX6_learn_54 rfl ?_
      refine ct_iload_2 (q := 56) dX6_learn_55 rfl ?_
      obtain ⟨r22, gr22, h⟩ := ob h
      obtain ⟨er22, gr22⟩ := cV_spec gr22
      refine ct_cVi3 (q := 59) hB dX6_learn_56 lk_RX6_210 (by decide) (ctX6_hitsWith hB gr22) er22 (by decide) rfl (Nat.le_of_ble_eq_true rfl) rfl ?_
      refine ct_istore_7 (q := 61) dX6_learn_59 (by decide) rfl rfl ?_
      refine ct_iload_7 (q := 63) dX6_learn_61 rfl ?_
      refine ct_iload_5 (q := 65) dX6_learn_63 rfl ?_
      refine ct_icmp_le (q := 68) (tgt := 76) dX6_learn_65 (by decide) rfl (fun z23 => ?_) (fun z23 => ?_)
      · replace h := it_t h z23
        exact ct_lessK (vX6_learn_b76 hB ih a0 x2 a3 x4 x5 x6 r22.2 r h) (And.intro rfl (And.intro rfl (And.intro rfl (And.intro rfl (And.intro rfl (And.intro rfl (trivial)))))))
      · replace h := it_f h z23
        refine ct_iload_7 (q := 70) dX6_learn_68 rfl ?_
        refine ct_istore_5 (q := 72) dX6_learn_70 (by decide) rfl rfl ?_
        refine ct_iload_6 (q := 74) dX6_learn_72 rfl ?_
        refine ct_istore_4 (q := 76) dX6_learn_74 (by decide) rfl rfl ?_
        exact ct_lessK (vX6_learn_b76 hB ih a0 x2 a3 x6 r22.1 x6 r22.2 r h) (And.intro rfl (And.intro rfl (And.intro rfl (And.intro rfl (And.intro rfl (And.intro rfl (trivial)))))))

def fX6_learn (a0 : Nat) (x1 : Int32) (x2 : Int32) (M : ctM) : Option (Int32 × ctM) :=
  (fX6_isSheet x1 M).bind fun r21 =>
  if r21.1 = 0 then
    some ((-1000000001), r21.2)
  else
    (cV kdC 6 a0 (fX6_isFlame a0 x2 r21.2)).bind fun r23 =>
    if r23.1 = 0 then
      some ((-1000000001), r23.2)
    else
      (gP kdC 6 5 a0 r23.2).bind fun a25 =>
      (aP kdC lnC 13 a25 x1 r23.2).bind fun a26 =>
      (cV kdC 3 a26 (fX3_isMissing a26 r23.2)).bind fun r27 =>
      if r27.1 = 0 then
        fX6_learn_h44 4000 a0 x2 a26 0 0 0 r27.2
      else
        some ((-1000000011), r27.2)

set_option maxHeartbeats 4000000 in
set_option maxRecDepth 20000 in
theorem ctX6_learn {B : ctB} {n : Nat} (hB : ctOk B kdC lnC n) {a0 : Nat} {x1 : Int32} {x2 : Int32} {M : ctM} {r : Int32 × ctM} (h : fX6_learn a0 x1 x2 M = some r) : ctC B mX6_learn (7, 0, 0) [.ref a0, .int x1, .int x2] n M (poI r n) := by
  refine ctC_of (by decide) (Nat.le_of_ble_eq_true rfl) ?_
  show ctV B mX6_learn (7, 0, 0) (poI r n) 0 [some (.ref a0), some (.int x1), some (.int x2), none, none, none, none, none] [] (0, 0) n M
  unfold fX6_learn at h
  refine ct_iload_1 (q := 1) dX6_learn_0 rfl ?_
  obtain ⟨r21, gr21, h⟩ := ob h
  refine ct_cSi1 (q := 4) dX6_learn_1 lk_RX6_202 (by decide) (ctX6_isSheet hB gr21) (Nat.le_of_ble_eq_true rfl) rfl ?_
  refine ct_if_eq (q := 7) (tgt := 15) dX6_learn_4 (by decide) rfl (fun z22 => ?_) (fun z22 => ?_)
  · replace h := it_t h z22
    refine ct_ldc (q := 17) dX6_learn_15 wd_318 rfl ?_
    exact ct_iret dX6_learn_17 rfl ⟨Nat.le_refl 0, Nat.le_refl 0⟩ (poI_of h)
  · replace h := it_f h z22
    refine ct_aload_0 (q := 8) dX6_learn_7 rfl ?_
    refine ct_iload_2 (q := 9) dX6_learn_8 rfl ?_
    obtain ⟨r23, gr23, h⟩ := ob h
    obtain ⟨er23, gr23⟩ := cV_spec gr23
    refine ct_cVi1 (q := 12) hB dX6_learn_9 lk_RX6_84 (by decide) (ctX6_isFlame hB gr23) er23 (by decide) rfl (Nat.le_of_ble_eq_true rfl) rfl ?_
    refine ct_if_ne (q := 15) (tgt := 18) dX6_learn_12 (by decide) rfl (fun z24 => ?_) (fun z24 => ?_)
    · replace h := it_f h z24
      refine ct_aload_0 (q := 19) dX6_learn_18 rfl ?_
      obtain ⟨a25, ga25, h⟩ := ob h
      refine ct_getP (q := 22) hB dX6_learn_19 fl_RX6_15 rfl ga25 rfl ?_
      refine ct_iload_1 (q := 23) dX6_learn_22 rfl ?_
      obtain ⟨a26, ga26, h⟩ := ob h
      refine ct_aald (q := 24) rfl hB dX6_learn_23 ga26 rfl ?_
      refine ct_astore_3 (q := 25) dX6_learn_24 (by decide) rfl rfl ?_
      refine ct_aload_3 (q := 26) dX6_learn_25 rfl ?_
      obtain ⟨r27, gr27, h⟩ := ob h
      obtain ⟨er27, gr27⟩ := cV_spec gr27
      refine ct_cVi0 (q := 29) hB dX6_learn_26 lk_RX6_205 (by decide) (ctX3_isMissing hB gr27) er27 (by decide) rfl (Nat.le_of_ble_eq_true rfl) rfl ?_
      refine ct_if_eq (q := 32) (tgt := 35) dX6_learn_29 (by decide) rfl (fun z28 => ?_) (fun z28 => ?_)
      · replace h := it_t h z28
        refine ct_iconst (v := 0) (q := 36) dX6_learn_35 (by decide) rfl ?_
        refine ct_istore_4 (q := 38) dX6_learn_36 (by decide) rfl rfl ?_
        refine ct_iconst (v := 0) (q := 39) dX6_learn_38 (by decide) rfl ?_
        refine ct_istore_5 (q := 41) dX6_learn_39 (by decide) rfl rfl ?_
        refine ct_iconst (v := 0) (q := 42) dX6_learn_41 (by decide) rfl ?_
        refine ct_istore_6 (q := 44) dX6_learn_42 (by decide) rfl rfl ?_
        exact ct_lessK (vX6_learn_h44 hB  4000 a0 x2 a26 0 0 0 r27.2 r h) (And.intro rfl (And.intro rfl (And.intro rfl (And.intro rfl (And.intro rfl (And.intro rfl (trivial)))))))
      · replace h := it_f h z28
        refine ct_ldc (q := 34) dX6_learn_32 wd_577 rfl ?_
        exact ct_iret dX6_learn_34 rfl ⟨Nat.le_refl 0, Nat.le_refl 0⟩ (poI_of h)
    · replace h := it_t h z24
      refine ct_ldc (q := 17) dX6_learn_15 wd_318 rfl ?_
      exact ct_iret dX6_learn_17 rfl ⟨Nat.le_refl 0, Nat.le_refl 0⟩ (poI_of h)

def fX6_feed (a0 : Nat) (x1 : Int32) (x2 : Int32) (x3 : Int32) (M : ctM) : Option (Int32 × ctM) :=
  (gP kdC 6 9 a0 M).bind fun a21 =>
  (gI kdC 5 1 a21 M).bind fun x22 =>
  if (x22 + 12) ≤ 96 then
    (gP kdC 6 9 a0 M).bind fun a24 =>
    (cV kdC 5 a24 (fX5_addFour a24 x1 M)).bind fun r25 =>
    (gP kdC 6 9 a0 r25).bind fun a26 =>
    (cV kdC 5 a26 (fX5_addFour a26 x2 r25)).bind fun r27 =>
    (gP kdC 6 9 a0 r27).bind fun a28 =>
    (cV kdC 5 a28 (fX5_addFour a28 x3 r27)).bind fun r29 =>
    (gP kdC 6 9 a0 r29).bind fun a30 =>
    (gI kdC 5 1 a30 r29).bind fun x31 =>
    some (x31, r29)
  else
    some ((-1000000003), M)

set_option maxHeartbeats 4000000 in
set_option maxRecDepth 20000 in
theorem ctX6_feed {B : ctB} {n : Nat} (hB : ctOk B kdC lnC n) {a0 : Nat} {x1 : Int32} {x2 : Int32} {x3 : Int32} {M : ctM} {r : Int32 × ctM} (h : fX6_feed a0 x1 x2 x3 M = some r) : ctC B mX6_feed (1, 0, 0) [.ref a0, .int x1, .int x2, .int x3] n M (poI r n) := by
  refine ctC_of (by decide) (Nat.le_of_ble_eq_true rfl) ?_
  show ctV B mX6_feed (1, 0, 0) (poI r n) 0 [some (.ref a0), some (.int x1), some (.int x2), some (.int x3)] [] (0, 0) n M
  unfold fX6_feed at h
  refine ct_aload_0 (q := 1) dX6_feed_0 rfl ?_
  obtain ⟨a21, ga21, h⟩ := ob h
  refine ct_getP (q := 4) hB dX6_feed_1 fl_RX6_36 rfl ga21 rfl ?_
  obtain ⟨x22, gx22, h⟩ := ob h
  refine ct_getI (q := 7) hB dX6_feed_4 fl_RX6_220 rfl gx22 rfl ?_
  refine ct_bipush (v := 12) (q := 9) dX6_feed_7 (by decide) rfl ?_
  refine ct_iadd (q := 10) dX6_feed_9 rfl ?_
  refine ct_bipush (v := 96) (q := 12) dX6_feed_10 (by decide) rfl ?_
  refine ct_icmp_le (q := 15) (tgt := 18) dX6_feed_12 (by decide) rfl (fun z23 => ?_) (fun z23 => ?_)
  · replace h := it_t h z23
    refine ct_aload_0 (q := 19) dX6_feed_18 rfl ?_
    obtain ⟨a24, ga24, h⟩ := ob h
    refine ct_getP (q := 22) hB dX6_feed_19 fl_RX6_36 rfl ga24 rfl ?_
    refine ct_iload_1 (q := 23) dX6_feed_22 rfl ?_
    obtain ⟨r25, gr25, h⟩ := ob h
    obtain ⟨er25, gr25⟩ := cV_spec gr25
    refine ct_cVv1 (q := 26) hB dX6_feed_23 lk_RX6_221 (by decide) (ctX5_addFour hB gr25) er25 (by decide) rfl (Nat.le_of_ble_eq_true rfl) rfl ?_
    refine ct_aload_0 (q := 27) dX6_feed_26 rfl ?_
    obtain ⟨a26, ga26, h⟩ := ob h
    refine ct_getP (q := 30) hB dX6_feed_27 fl_RX6_36 rfl ga26 rfl ?_
    refine ct_iload_2 (q := 31) dX6_feed_30 rfl ?_
    obtain ⟨r27, gr27, h⟩ := ob h
    obtain ⟨er27, gr27⟩ := cV_spec gr27
    refine ct_cVv1 (q := 34) hB dX6_feed_31 lk_RX6_221 (by decide) (ctX5_addFour hB gr27) er27 (by decide) rfl (Nat.le_of_ble_eq_true rfl) rfl ?_
    refine ct_aload_0 (q := 35) dX6_feed_34 rfl ?_
    obtain ⟨a28, ga28, h⟩ := ob h
    refine ct_getP (q := 38) hB dX6_feed_35 fl_RX6_36 rfl ga28 rfl ?_
    refine ct_iload_3 (q := 39) dX6_feed_38 rfl ?_
    obtain ⟨r29, gr29, h⟩ := ob h
    obtain ⟨er29, gr29⟩ := cV_spec gr29
    refine ct_cVv1 (q := 42) hB dX6_feed_39 lk_RX6_221 (by decide) (ctX5_addFour hB gr29) er29 (by decide) rfl (Nat.le_of_ble_eq_true rfl) rfl ?_
    refine ct_aload_0 (q := 43) dX6_feed_42 rfl ?_
    obtain ⟨a30, ga30, h⟩ := ob h
    refine ct_getP (q := 46) hB dX6_feed_43 fl_RX6_36 rfl ga30 rfl ?_
    obtain ⟨x31, gx31, h⟩ := ob h
    refine ct_getI (q := 49) hB dX6_feed_46 fl_RX6_220 rfl gx31 rfl ?_
    exact ct_iret dX6_feed_49 rfl ⟨Nat.le_refl 0, Nat.le_refl 0⟩ (poI_of h)
  · replace h := it_f h z23
    refine ct_ldc (q := 17) dX6_feed_15 wd_319 rfl ?_
    exact ct_iret dX6_feed_17 rfl ⟨Nat.le_refl 0, Nat.le_refl 0⟩ (poI_of h)

def fX6_trim (a0 : Nat) (x1 : Int32) (M : ctM) : Option (Int32 × ctM) :=
  (gP kdC 6 9 a0 M).bind fun a21 =>
  (gI kdC 5 1 a21 M).bind fun x22 =>
  (fX6_isWithin x1 0 x22 M).bind fun r23 =>
  if r23.1 = 0 then
    some ((-1000000001), r23.2)
  else
    (gP kdC 6 9 a0 r23.2).bind fun a25 =>
    (pI kdC 5 1 a25 x1 r23.2).bind fun M26 =>
    some (x1, M26)

set_option maxHeartbeats 4000000 in
set_option maxRecDepth 20000 in
theorem ctX6_trim {B : ctB} {n : Nat} (hB : ctOk B kdC lnC n) {a0 : Nat} {x1 : Int32} {M : ctM} {r : Int32 × ctM} (h : fX6_trim a0 x1 M = some r) : ctC B mX6_trim (1, 0, 0) [.ref a0, .int x1] n M (poI r n) := by
  refine ctC_of (by decide) (Nat.le_of_ble_eq_true rfl) ?_
  show ctV B mX6_trim (1, 0, 0) (poI r n) 0 [some (.ref a0), some (.int x1)] [] (0, 0) n M
  unfold fX6_trim at h
  refine ct_iload_1 (q := 1) dX6_trim_0 rfl ?_
  refine ct_iconst (v := 0) (q := 2) dX6_trim_1 (by decide) rfl ?_
  refine ct_aload_0 (q := 3) dX6_trim_2 rfl ?_
  obtain ⟨a21, ga21, h⟩ := ob h
  refine ct_getP (q := 6) hB dX6_trim_3 fl_RX6_36 rfl ga21 rfl ?_
  obtain ⟨x22, gx22, h⟩ := ob h
  refine ct_getI (q := 9) hB dX6_trim_6 fl_RX6_220 rfl gx22 rfl ?_
  obtain ⟨r23, gr23, h⟩ := ob h
  refine ct_cSi3 (q := 12) dX6_trim_9 lk_RX6_71 (by decide) (ctX6_isWithin hB gr23) (Nat.le_of_ble_eq_true rfl) rfl ?_
  refine ct_if_ne (q := 15) (tgt := 18) dX6_trim_12 (by decide) rfl (fun z24 => ?_) (fun z24 => ?_)
  · replace h := it_f h z24
    refine ct_aload_0 (q := 19) dX6_trim_18 rfl ?_
    obtain ⟨a25, ga25, h⟩ := ob h
    refine ct_getP (q := 22) hB dX6_trim_19 fl_RX6_36 rfl ga25 rfl ?_
    refine ct_iload_1 (q := 23) dX6_trim_22 rfl ?_
    obtain ⟨M26, gM26, h⟩ := ob h
    refine ct_putI (q := 26) hB dX6_trim_23 fl_RX6_220 rfl rfl (Or.inl rfl) gM26 rfl ?_
    refine ct_iload_1 (q := 27) dX6_trim_26 rfl ?_
    exact ct_iret dX6_trim_27 rfl ⟨Nat.le_refl 0, Nat.le_refl 0⟩ (poI_of h)
  · replace h := it_t h z24
    refine ct_ldc (q := 17) dX6_trim_15 wd_318 rfl ?_
    exact ct_iret dX6_trim_17 rfl ⟨Nat.le_refl 0, Nat.le_refl 0⟩ (poI_of h)

def fX6_text (a0 : Nat) (M : ctM) : Option (Int32 × ctM) :=
  (gP kdC 6 9 a0 M).bind fun a21 =>
  (cV kdC 5 a21 (fX5_faultOf a21 M)).bind fun r22 =>
  (gP kdC 6 9 a0 r22.2).bind fun a23 =>
  (pI kdC 5 1 a23 0 r22.2).bind fun M24 =>
  if r22.1 < 0 then
    (gP kdC 6 1 a0 M24).bind fun a26 =>
    (gI kdC 2 10 a26 M24).bind fun x27 =>
    if x27 < 14 then
      (gP kdC 6 9 a0 M24).bind fun a29 =>
      (gP kdC 5 6 a29 M24).bind fun a30 =>
      (gP kdC 6 9 a0 M24).bind fun a31 =>
      (gP kdC 6 0 a0 M24).bind fun a32 =>
      (aP kdC lnC 12 a32 x27 M24).bind fun a33 =>
      (pP kdC 5 6 a31 a33 M24).bind fun M34 =>
      (gP kdC 6 0 a0 M34).bind fun a35 =>
      (sP kdC lnC 12 1 a35 x27 a30 M34).bind fun M36 =>
      (gP kdC 6 1 a0 M36).bind fun a37 =>
      (gP kdC 2 4 a37 M36).bind fun a38 =>
      (gI kdC 1 0 a30 M36).bind fun x39 =>
      (sI kdC lnC 9 a38 x39 x27 M36).bind fun M40 =>
      (gP kdC 6 1 a0 M40).bind fun a41 =>
      (pI kdC 2 10 a41 (x27 + 1) M40).bind fun M42 =>
      some (x27, M42)
    else
      some ((-1000000003), M24)
  else
    some (((-100) - r22.1), M24)

set_option maxHeartbeats 4000000 in
set_option maxRecDepth 20000 in
theorem ctX6_text {B : ctB} {n : Nat} (hB : ctOk B kdC lnC n) {a0 : Nat} {M : ctM} {r : Int32 × ctM} (h : fX6_text a0 M = some r) : ctC B mX6_text (128, 0, 0) [.ref a0] n M (poI r n) := by
  refine ctC_of (by decide) (Nat.le_of_ble_eq_true rfl) ?_
  show ctV B mX6_text (128, 0, 0) (poI r n) 0 [some (.ref a0), none, none, none] [] (0, 0) n M
  unfold fX6_text at h
  refine ct_aload_0 (q := 1) dX6_text_0 rfl ?_
  obtain ⟨a21, ga21, h⟩ := ob h
  refine ct_getP (q := 4) hB dX6_text_1 fl_RX6_36 rfl ga21 rfl ?_
  obtain ⟨r22, gr22, h⟩ := ob h
  obtain ⟨er22, gr22⟩ := cV_spec gr22
  refine ct_cVi0 (q := 7) hB dX6_text_4 lk_RX6_225 (by decide) (ctX5_faultOf hB gr22) er22 (by decide) rfl (Nat.le_of_ble_eq_true rfl) rfl ?_
  refine ct_istore_1 (q := 8) dX6_text_7 (by decide) rfl rfl ?_
  refine ct_aload_0 (q := 9) dX6_text_8 rfl ?_
  obtain ⟨a23, ga23, h⟩ := ob h
  refine ct_getP (q := 12) hB dX6_text_9 fl_RX6_36 rfl ga23 rfl ?_
  refine ct_iconst (v := 0) (q := 13) dX6_text_12 (by decide) rfl ?_
  obtain ⟨M24, gM24, h⟩ := ob h
  refine ct_putI (q := 16) hB dX6_text_13 fl_RX6_220 rfl rfl (Or.inl rfl) gM24 rfl ?_
  refine ct_iload_1 (q := 17) dX6_text_16 rfl ?_
  refine ct_if_lt (q := 20) (tgt := 25) dX6_text_17 (by decide) rfl (fun z25 => ?_) (fun z25 => ?_)
  · replace h := it_t h z25
    refine ct_aload_0 (q := 26) dX6_text_25 rfl ?_
    obtain ⟨a26, ga26, h⟩ := ob h
    refine ct_getP (q := 29) hB dX6_text_26 fl_RX6_52 rfl ga26 rfl ?_
    obtain ⟨x27, gx27, h⟩ := ob h
    refine ct_getI (q := 32) hB dX6_text_29 fl_RX6_228 rfl gx27 rfl ?_
    refine ct_istore_2 (q := 33) dX6_text_32 (by decide) rfl rfl ?_
    refine ct_iload_2 (q := 34) dX6_text_33 rfl ?_
    refine ct_bipush (v := 14) (q := 36) dX6_text_34 (by decide) rfl ?_
    refine ct_icmp_lt (q := 39) (tgt := 42) dX6_text_36 (by decide) rfl (fun z28 => ?_) (fun z28 => ?_)
    · replace h := it_t h z28
      refine ct_aload_0 (q := 43) dX6_text_42 rfl ?_
      obtain ⟨a29, ga29, h⟩ := ob h
      refine ct_getP (q := 46) hB dX6_text_43 fl_RX6_36 rfl ga29 rfl ?_
      obtain ⟨a30, ga30, h⟩ := ob h
      refine ct_getP (q := 49) hB dX6_text_46 fl_RX6_231 rfl ga30 rfl ?_
      refine ct_astore_3 (q := 50) dX6_text_49 (by decide) rfl rfl ?_
      refine ct_aload_0 (q := 51) dX6_text_50 rfl ?_
      obtain ⟨a31, ga31, h⟩ := ob h
      refine ct_getP (q := 54) hB dX6_text_51 fl_RX6_36 rfl ga31 rfl ?_
      refine ct_aload_0 (q := 55) dX6_text_54 rfl ?_
      obtain ⟨a32, ga32, h⟩ := ob h
      refine ct_getP (q := 58) hB dX6_text_55 fl_RX6_43 rfl ga32 rfl ?_
      refine ct_iload_2 (q := 59) dX6_text_58 rfl ?_
      obtain ⟨a33, ga33, h⟩ := ob h
      refine ct_aald (q := 60) rfl hB dX6_text_59 ga33 rfl ?_
      obtain ⟨M34, gM34, h⟩ := ob h
      refine ct_putP (q := 63) hB dX6_text_60 fl_RX6_231 rfl rfl gM34 rfl ?_
      refine ct_aload_0 (q := 64) dX6_text_63 rfl ?_
      obtain ⟨a35, ga35, h⟩ := ob h
      refine ct_getP (q := 67) hB dX6_text_64 fl_RX6_43 rfl ga35 rfl ?_
      refine ct_iload_2 (q := 68) dX6_text_67 rfl ?_
      refine ct_aload_3 (q := 69) dX6_text_68 rfl ?_
      obtain ⟨M36, gM36, h⟩ := ob h
      refine ct_aast (q := 70) rfl hB dX6_text_69 gM36 rfl ?_
      refine ct_aload_0 (q := 71) dX6_text_70 rfl ?_
      obtain ⟨a37, ga37, h⟩ := ob h
      refine ct_getP (q := 74) hB dX6_text_71 fl_RX6_52 rfl ga37 rfl ?_
      obtain ⟨a38, ga38, h⟩ := ob h
      refine ct_getP (q := 77) hB dX6_text_74 fl_RX6_235 rfl ga38 rfl ?_
      refine ct_aload_3 (q := 78) dX6_text_77 rfl ?_
      obtain ⟨x39, gx39, h⟩ := ob h
      refine ct_getI (q := 81) hB dX6_text_78 fl_RX6_238 rfl gx39 rfl ?_
      refine ct_iload_2 (q := 82) dX6_text_81 rfl ?_
      obtain ⟨M40, gM40, h⟩ := ob h
      refine ct_iast (q := 83) hB dX6_text_82 gM40 rfl ?_
      refine ct_aload_0 (q := 84) dX6_text_83 rfl ?_
      obtain ⟨a41, ga41, h⟩ := ob h
      refine ct_getP (q := 87) hB dX6_text_84 fl_RX6_52 rfl ga41 rfl ?_
      refine ct_iload_2 (q := 88) dX6_text_87 rfl ?_
      refine ct_iconst (v := 1) (q := 89) dX6_text_88 (by decide) rfl ?_
      refine ct_iadd (q := 90) dX6_text_89 rfl ?_
      obtain ⟨M42, gM42, h⟩ := ob h
      refine ct_putI (q := 93) hB dX6_text_90 fl_RX6_228 rfl rfl (Or.inl rfl) gM42 rfl ?_
      refine ct_iload_2 (q := 94) dX6_text_93 rfl ?_
      exact ct_iret dX6_text_94 rfl ⟨Nat.le_refl 0, Nat.le_refl 0⟩ (poI_of h)
    · replace h := it_f h z28
      refine ct_ldc (q := 41) dX6_text_39 wd_319 rfl ?_
      exact ct_iret dX6_text_41 rfl ⟨Nat.le_refl 0, Nat.le_refl 0⟩ (poI_of h)
  · replace h := it_f h z25
    refine ct_bipush (v := -100) (q := 22) dX6_text_20 (by decide) rfl ?_
    refine ct_iload_1 (q := 23) dX6_text_22 rfl ?_
    refine ct_isub (q := 24) dX6_text_23 rfl ?_
    exact ct_iret dX6_text_24 rfl ⟨Nat.le_refl 0, Nat.le_refl 0⟩ (poI_of h)

def fX6_textTold (a0 : Nat) (x1 : Int32) (x2 : Int32) (M : ctM) : Option (Int32 × ctM) :=
  (gP kdC 6 1 a0 M).bind fun a21 =>
  (gI kdC 2 10 a21 M).bind fun x22 =>
  (fX6_isWithin x1 0 (x22 - 1) M).bind fun r23 =>
  if r23.1 = 0 then
    some ((-1000000001), r23.2)
  else
    (fX6_isWithin x2 0 1 r23.2).bind fun r25 =>
    if r25.1 = 0 then
      some ((-1000000001), r25.2)
    else
      if x2 = 0 then
        (gP kdC 6 0 a0 r25.2).bind fun a31 =>
        (aP kdC lnC 12 a31 x1 r25.2).bind fun a32 =>
        (gI kdC 1 0 a32 r25.2).bind fun x33 =>
        some (x33, r25.2)
      else
        (gP kdC 6 0 a0 r25.2).bind fun a28 =>
        (aP kdC lnC 12 a28 x1 r25.2).bind fun a29 =>
        (gI kdC 1 1 a29 r25.2).bind fun x30 =>
        some (x30, r25.2)

set_option maxHeartbeats 4000000 in
set_option maxRecDepth 20000 in
theorem ctX6_textTold {B : ctB} {n : Nat} (hB : ctOk B kdC lnC n) {a0 : Nat} {x1 : Int32} {x2 : Int32} {M : ctM} {r : Int32 × ctM} (h : fX6_textTold a0 x1 x2 M = some r) : ctC B mX6_textTold (1, 0, 0) [.ref a0, .int x1, .int x2] n M (poI r n) := by
  refine ctC_of (by decide) (Nat.le_of_ble_eq_true rfl) ?_
  show ctV B mX6_textTold (1, 0, 0) (poI r n) 0 [some (.ref a0), some (.int x1), some (.int x2)] [] (0, 0) n M
  unfold fX6_textTold at h
  refine ct_iload_1 (q := 1) dX6_textTold_0 rfl ?_
  refine ct_iconst (v := 0) (q := 2) dX6_textTold_1 (by decide) rfl ?_
  refine ct_aload_0 (q := 3) dX6_textTold_2 rfl ?_
  obtain ⟨a21, ga21, h⟩ := ob h
  refine ct_getP (q := 6) hB dX6_textTold_3 fl_RX6_52 rfl ga21 rfl ?_
  obtain ⟨x22, gx22, h⟩ := ob h
  refine ct_getI (q := 9) hB dX6_textTold_6 fl_RX6_228 rfl gx22 rfl ?_
  refine ct_iconst (v := 1) (q := 10) dX6_textTold_9 (by decide) rfl ?_
  refine ct_isub (q := 11) dX6_textTold_10 rfl ?_
  obtain ⟨r23, gr23, h⟩ := ob h
  refine ct_cSi3 (q := 14) dX6_textTold_11 lk_RX6_71 (by decide) (ctX6_isWithin hB gr23) (Nat.le_of_ble_eq_true rfl) rfl ?_
  refine ct_if_eq (q := 17) (tgt := 26) dX6_textTold_14 (by decide) rfl (fun z24 => ?_) (fun z24 => ?_)
  · replace h := it_t h z24
    refine ct_ldc (q := 28) dX6_textTold_26 wd_318 rfl ?_
    exact ct_iret dX6_textTold_28 rfl ⟨Nat.le_refl 0, Nat.le_refl 0⟩ (poI_of h)
  · replace h := it_f h z24
    refine ct_iload_2 (q := 18) dX6_textTold_17 rfl ?_
    refine ct_iconst (v := 0) (q := 19) dX6_textTold_18 (by decide) rfl ?_
    refine ct_iconst (v := 1) (q := 20) dX6_textTold_19 (by decide) rfl ?_
    obtain ⟨r25, gr25, h⟩ := ob h
    refine ct_cSi3 (q := 23) dX6_textTold_20 lk_RX6_71 (by decide) (ctX6_isWithin hB gr25) (Nat.le_of_ble_eq_true rfl) rfl ?_
    refine ct_if_ne (q := 26) (tgt := 29) dX6_textTold_23 (by decide) rfl (fun z26 => ?_) (fun z26 => ?_)
    · replace h := it_f h z26
      refine ct_iload_2 (q := 30) dX6_textTold_29 rfl ?_
      refine ct_if_ne (q := 33) (tgt := 45) dX6_textTold_30 (by decide) rfl (fun z27 => ?_) (fun z27 => ?_)
      · replace h := it_f h z27
        refine ct_aload_0 (q := 46) dX6_textTold_45 rfl ?_
        obtain ⟨a28, ga28, h⟩ := ob h
        refine ct_getP (q := 49) hB dX6_textTold_46 fl_RX6_43 rfl ga28 rfl ?_
        refine ct_iload_1 (q := 50) dX6_textTold_49 rfl ?_
        obtain ⟨a29, ga29, h⟩ := ob h
        refine ct_aald (q := 51) rfl hB dX6_textTold_50 ga29 rfl ?_
        obtain ⟨x30, gx30, h⟩ := ob h
        refine ct_getI (q := 54) hB dX6_textTold_51 fl_RX6_241 rfl gx30 rfl ?_
        exact ct_iret dX6_textTold_54 rfl ⟨Nat.le_refl 0, Nat.le_refl 0⟩ (poI_of h)
      · replace h := it_t h z27
        refine ct_aload_0 (q := 34) dX6_textTold_33 rfl ?_
        obtain ⟨a31, ga31, h⟩ := ob h
        refine ct_getP (q := 37) hB dX6_textTold_34 fl_RX6_43 rfl ga31 rfl ?_
        refine ct_iload_1 (q := 38) dX6_textTold_37 rfl ?_
        obtain ⟨a32, ga32, h⟩ := ob h
        refine ct_aald (q := 39) rfl hB dX6_textTold_38 ga32 rfl ?_
        obtain ⟨x33, gx33, h⟩ := ob h
        refine ct_getI (q := 42) hB dX6_textTold_39 fl_RX6_238 rfl gx33 rfl ?_
        refine ct_goto (q := 54) dX6_textTold_42 (by decide) ?_
        exact ct_iret dX6_textTold_54 rfl ⟨Nat.le_refl 0, Nat.le_refl 0⟩ (poI_of h)
    · replace h := it_t h z26
      refine ct_ldc (q := 28) dX6_textTold_26 wd_318 rfl ?_
      exact ct_iret dX6_textTold_28 rfl ⟨Nat.le_refl 0, Nat.le_refl 0⟩ (poI_of h)

def fX6_why (a0 : Nat) (x1 : Int32) (M : ctM) : Option (Int32 × ctM) :=
  (fX6_isWithin x1 0 2 M).bind fun r21 =>
  if r21.1 = 0 then
    some ((-1000000001), r21.2)
  else
    (gP kdC 6 1 a0 r21.2).bind fun a23 =>
    (gP kdC 2 4 a23 r21.2).bind fun a24 =>
    (aI kdC lnC 9 a24 x1 r21.2).bind fun x25 =>
    if 0 ≤ x25 then
      (gP kdC 6 1 a0 r21.2).bind fun a27 =>
      (gP kdC 2 4 a27 r21.2).bind fun a28 =>
      (aI kdC lnC 9 a28 x1 r21.2).bind fun x29 =>
      some (x29, r21.2)
    else
      some ((-1000000005), r21.2)

set_option maxHeartbeats 4000000 in
set_option maxRecDepth 20000 in
theorem ctX6_why {B : ctB} {n : Nat} (hB : ctOk B kdC lnC n) {a0 : Nat} {x1 : Int32} {M : ctM} {r : Int32 × ctM} (h : fX6_why a0 x1 M = some r) : ctC B mX6_why (1, 0, 0) [.ref a0, .int x1] n M (poI r n) := by
  refine ctC_of (by decide) (Nat.le_of_ble_eq_true rfl) ?_
  show ctV B mX6_why (1, 0, 0) (poI r n) 0 [some (.ref a0), some (.int x1)] [] (0, 0) n M
  unfold fX6_why at h
  refine ct_iload_1 (q := 1) dX6_why_0 rfl ?_
  refine ct_iconst (v := 0) (q := 2) dX6_why_1 (by decide) rfl ?_
  refine ct_iconst (v := 2) (q := 3) dX6_why_2 (by decide) rfl ?_
  obtain ⟨r21, gr21, h⟩ := ob h
  refine ct_cSi3 (q := 6) dX6_why_3 lk_RX6_71 (by decide) (ctX6_isWithin hB gr21) (Nat.le_of_ble_eq_true rfl) rfl ?_
  refine ct_if_ne (q := 9) (tgt := 12) dX6_why_6 (by decide) rfl (fun z22 => ?_) (fun z22 => ?_)
  · replace h := it_f h z22
    refine ct_aload_0 (q := 13) dX6_why_12 rfl ?_
    obtain ⟨a23, ga23, h⟩ := ob h
    refine ct_getP (q := 16) hB dX6_why_13 fl_RX6_52 rfl ga23 rfl ?_
    obtain ⟨a24, ga24, h⟩ := ob h
    refine ct_getP (q := 19) hB dX6_why_16 fl_RX6_235 rfl ga24 rfl ?_
    refine ct_iload_1 (q := 20) dX6_why_19 rfl ?_
    obtain ⟨x25, gx25, h⟩ := ob h
    refine ct_iald (q := 21) hB dX6_why_20 gx25 rfl ?_
    refine ct_if_ge (q := 24) (tgt := 29) dX6_why_21 (by decide) rfl (fun z26 => ?_) (fun z26 => ?_)
    · replace h := it_t h z26
      refine ct_aload_0 (q := 30) dX6_why_29 rfl ?_
      obtain ⟨a27, ga27, h⟩ := ob h
      refine ct_getP (q := 33) hB dX6_why_30 fl_RX6_52 rfl ga27 rfl ?_
      obtain ⟨a28, ga28, h⟩ := ob h
      refine ct_getP (q := 36) hB dX6_why_33 fl_RX6_235 rfl ga28 rfl ?_
      refine ct_iload_1 (q := 37) dX6_why_36 rfl ?_
      obtain ⟨x29, gx29, h⟩ := ob h
      refine ct_iald (q := 38) hB dX6_why_37 gx29 rfl ?_
      exact ct_iret dX6_why_38 rfl ⟨Nat.le_refl 0, Nat.le_refl 0⟩ (poI_of h)
    · replace h := it_f h z26
      refine ct_ldc (q := 26) dX6_why_24 wd_535 rfl ?_
      refine ct_goto (q := 38) dX6_why_26 (by decide) ?_
      exact ct_iret dX6_why_38 rfl ⟨Nat.le_refl 0, Nat.le_refl 0⟩ (poI_of h)
  · replace h := it_t h z22
    refine ct_ldc (q := 11) dX6_why_9 wd_318 rfl ?_
    exact ct_iret dX6_why_11 rfl ⟨Nat.le_refl 0, Nat.le_refl 0⟩ (poI_of h)

def fX6_sheet_b29 (a0 : Nat) (x1 : Int32) (x2 : Int32) (xs0 : Int32) (M : ctM) : Option (Int32 × ctM) :=
  if xs0 ≤ 24 then
    if 0 ≤ xs0 then
      (gP kdC 6 5 a0 M).bind fun a23 =>
      (aP kdC lnC 13 a23 x1 M).bind fun a24 =>
      (cV kdC 3 a24 (fX3_begin a24 x2 xs0 M)).bind fun r25 =>
      some (xs0, r25)
    else
      some ((-1000000014), M)
  else
    some ((-1000000001), M)

set_option maxHeartbeats 4000000 in
set_option maxRecDepth 20000 in
theorem vX6_sheet_b29 {B : ctB} {n : Nat} (hB : ctOk B kdC lnC n) : ∀ (a0 : Nat) (x1 : Int32) (x2 : Int32) (xs0 : Int32) (M : ctM) (r : Int32 × ctM), fX6_sheet_b29 a0 x1 x2 xs0 M = some r → ctV B mX6_sheet (2, 0, 0) (poI r n) 29 [some (.ref a0), some (.int x1), some (.int x2), none, none] [.int xs0] (0, 0) n M := by
  intro a0 x1 x2 xs0 M r h
  unfold fX6_sheet_b29 at h
  refine ct_istore_4 (q := 31) dX6_sheet_29 (by decide) rfl rfl ?_
  refine ct_iload_4 (q := 33) dX6_sheet_31 rfl ?_
  refine ct_bipush (v := 24) (q := 35) dX6_sheet_33 (by decide) rfl ?_
  refine ct_icmp_le (q := 38) (tgt := 41) dX6_sheet_35 (by decide) rfl (fun z21 => ?_) (fun z21 => ?_)
  · replace h := it_t h z21
    refine ct_iload_4 (q := 43) dX6_sheet_41 rfl ?_
    refine ct_if_ge (q := 46) (tgt := 49) dX6_sheet_43 (by decide) rfl (fun z22 => ?_) (fun z22 => ?_)
    · replace h := it_t h z22
      refine ct_aload_0 (q := 50) dX6_sheet_49 rfl ?_
      obtain ⟨a23, ga23, h⟩ := ob h
      refine ct_getP (q := 53) hB dX6_sheet_50 fl_RX6_15 rfl ga23 rfl ?_
      refine ct_iload_1 (q := 54) dX6_sheet_53 rfl ?_
      obtain ⟨a24, ga24, h⟩ := ob h
      refine ct_aald (q := 55) rfl hB dX6_sheet_54 ga24 rfl ?_
      refine ct_iload_2 (q := 56) dX6_sheet_55 rfl ?_
      refine ct_iload_4 (q := 58) dX6_sheet_56 rfl ?_
      obtain ⟨r25, gr25, h⟩ := ob h
      obtain ⟨er25, gr25⟩ := cV_spec gr25
      refine ct_cVv2 (q := 61) hB dX6_sheet_58 lk_RX6_245 (by decide) (ctX3_begin hB gr25) er25 (by decide) rfl (Nat.le_of_ble_eq_true rfl) rfl ?_
      refine ct_iload_4 (q := 63) dX6_sheet_61 rfl ?_
      exact ct_iret dX6_sheet_63 rfl ⟨Nat.le_refl 0, Nat.le_refl 0⟩ (poI_of h)
    · replace h := it_f h z22
      refine ct_ldc (q := 48) dX6_sheet_46 wd_713 rfl ?_
      exact ct_iret dX6_sheet_48 rfl ⟨Nat.le_refl 0, Nat.le_refl 0⟩ (poI_of h)
  · replace h := it_f h z21
    refine ct_ldc (q := 40) dX6_sheet_38 wd_318 rfl ?_
    exact ct_iret dX6_sheet_40 rfl ⟨Nat.le_refl 0, Nat.le_refl 0⟩ (poI_of h)

def fX6_sheet (a0 : Nat) (x1 : Int32) (x2 : Int32) (x3 : Int32) (M : ctM) : Option (Int32 × ctM) :=
  (fX6_isSheet x1 M).bind fun r21 =>
  if r21.1 = 0 then
    some ((-1000000001), r21.2)
  else
    (fX6_isWithin x2 (-1) 1 r21.2).bind fun r23 =>
    if r23.1 = 0 then
      some ((-1000000001), r23.2)
    else
      if x2 = (-1) then
        fX6_sheet_b29 a0 x1 x2 0 r23.2
      else
        fX6_sheet_b29 a0 x1 x2 x3 r23.2

set_option maxHeartbeats 4000000 in
set_option maxRecDepth 20000 in
theorem ctX6_sheet {B : ctB} {n : Nat} (hB : ctOk B kdC lnC n) {a0 : Nat} {x1 : Int32} {x2 : Int32} {x3 : Int32} {M : ctM} {r : Int32 × ctM} (h : fX6_sheet a0 x1 x2 x3 M = some r) : ctC B mX6_sheet (2, 0, 0) [.ref a0, .int x1, .int x2, .int x3] n M (poI r n) := by
  refine ctC_of (by decide) (Nat.le_of_ble_eq_true rfl) ?_
  show ctV B mX6_sheet (2, 0, 0) (poI r n) 0 [some (.ref a0), some (.int x1), some (.int x2), some (.int x3), none] [] (0, 0) n M
  unfold fX6_sheet at h
  refine ct_iload_1 (q := 1) dX6_sheet_0 rfl ?_
  obtain ⟨r21, gr21, h⟩ := ob h
  refine ct_cSi1 (q := 4) dX6_sheet_1 lk_RX6_202 (by decide) (ctX6_isSheet hB gr21) (Nat.le_of_ble_eq_true rfl) rfl ?_
  refine ct_if_eq (q := 7) (tgt := 16) dX6_sheet_4 (by decide) rfl (fun z22 => ?_) (fun z22 => ?_)
  · replace h := it_t h z22
    refine ct_ldc (q := 18) dX6_sheet_16 wd_318 rfl ?_
    exact ct_iret dX6_sheet_18 rfl ⟨Nat.le_refl 0, Nat.le_refl 0⟩ (poI_of h)
  · replace h := it_f h z22
    refine ct_iload_2 (q := 8) dX6_sheet_7 rfl ?_
    refine ct_iconst (v := -1) (q := 9) dX6_sheet_8 (by decide) rfl ?_
    refine ct_iconst (v := 1) (q := 10) dX6_sheet_9 (by decide) rfl ?_
    obtain ⟨r23, gr23, h⟩ := ob h
    refine ct_cSi3 (q := 13) dX6_sheet_10 lk_RX6_71 (by decide) (ctX6_isWithin hB gr23) (Nat.le_of_ble_eq_true rfl) rfl ?_
    refine ct_if_ne (q := 16) (tgt := 19) dX6_sheet_13 (by decide) rfl (fun z24 => ?_) (fun z24 => ?_)
    · replace h := it_f h z24
      refine ct_iload_2 (q := 20) dX6_sheet_19 rfl ?_
      refine ct_iconst (v := -1) (q := 21) dX6_sheet_20 (by decide) rfl ?_
      refine ct_icmp_ne (q := 24) (tgt := 28) dX6_sheet_21 (by decide) rfl (fun z25 => ?_) (fun z25 => ?_)
      · replace h := it_f h z25
        refine ct_iload_3 (q := 29) dX6_sheet_28 rfl ?_
        exact ct_lessK (vX6_sheet_b29 hB  a0 x1 x2 x3 r23.2 r h) (And.intro rfl (And.intro rfl (And.intro rfl (trivial))))
      · replace h := it_t h z25
        refine ct_iconst (v := 0) (q := 25) dX6_sheet_24 (by decide) rfl ?_
        refine ct_goto (q := 29) dX6_sheet_25 (by decide) ?_
        exact ct_lessK (vX6_sheet_b29 hB  a0 x1 x2 0 r23.2 r h) (And.intro rfl (And.intro rfl (And.intro rfl (trivial))))
    · replace h := it_t h z24
      refine ct_ldc (q := 18) dX6_sheet_16 wd_318 rfl ?_
      exact ct_iret dX6_sheet_18 rfl ⟨Nat.le_refl 0, Nat.le_refl 0⟩ (poI_of h)

def fX6_mark_b109 (as0 : Nat) (xs1 : Int32) (xs2 : Int32) (M : ctM) : Option (Int32 × ctM) :=
  (sI kdC lnC 9 as0 xs1 xs2 M).bind fun M21 =>
  some (1, M21)

set_option maxHeartbeats 4000000 in
set_option maxRecDepth 20000 in
theorem vX6_mark_b109 {B : ctB} {n : Nat} (hB : ctOk B kdC lnC n) : ∀ (as0 : Nat) (xs1 : Int32) (xs2 : Int32) (M : ctM) (r : Int32 × ctM), fX6_mark_b109 as0 xs1 xs2 M = some r → ctV B mX6_mark (2, 0, 0) (poI r n) 109 [none, none, none, none, none] [.int xs2, .int xs1, .ref as0] (0, 0) n M := by
  intro as0 xs1 xs2 M r h
  unfold fX6_mark_b109 at h
  obtain ⟨M21, gM21, h⟩ := ob h
  refine ct_iast (q := 110) hB dX6_mark_109 gM21 rfl ?_
  refine ct_iconst (v := 1) (q := 111) dX6_mark_110 (by decide) rfl ?_
  exact ct_iret dX6_mark_111 rfl ⟨Nat.le_refl 0, Nat.le_refl 0⟩ (poI_of h)

def fX6_mark_b89 (x2 : Int32) (x3 : Int32) (a4 : Nat) (M : ctM) : Option (Int32 × ctM) :=
  (gP kdC 3 2 a4 M).bind fun a21 =>
  (gI kdC 3 0 a4 M).bind fun x22 =>
  if x22 = 0 then
    fX6_mark_b109 a21 x2 ((x3 : Int32).toInt16.toInt32) M
  else
    fX6_mark_b109 a21 x2 x3 M

set_option maxHeartbeats 4000000 in
set_option maxRecDepth 20000 in
theorem vX6_mark_b89 {B : ctB} {n : Nat} (hB : ctOk B kdC lnC n) : ∀ (x2 : Int32) (x3 : Int32) (a4 : Nat) (M : ctM) (r : Int32 × ctM), fX6_mark_b89 x2 x3 a4 M = some r → ctV B mX6_mark (2, 0, 0) (poI r n) 89 [none, none, some (.int x2), some (.int x3), some (.ref a4)] [] (0, 0) n M := by
  intro x2 x3 a4 M r h
  unfold fX6_mark_b89 at h
  refine ct_aload_4 (q := 91) dX6_mark_89 rfl ?_
  obtain ⟨a21, ga21, h⟩ := ob h
  refine ct_getP (q := 94) hB dX6_mark_91 fl_RX6_217 rfl ga21 rfl ?_
  refine ct_iload_2 (q := 95) dX6_mark_94 rfl ?_
  refine ct_aload_4 (q := 97) dX6_mark_95 rfl ?_
  obtain ⟨x22, gx22, h⟩ := ob h
  refine ct_getI (q := 100) hB dX6_mark_97 fl_RX6_253 rfl gx22 rfl ?_
  refine ct_if_ne (q := 103) (tgt := 108) dX6_mark_100 (by decide) rfl (fun z23 => ?_) (fun z23 => ?_)
  · replace h := it_f h z23
    refine ct_iload_3 (q := 109) dX6_mark_108 rfl ?_
    exact ct_lessK (vX6_mark_b109 hB  a21 x2 x3 M r h) (trivial)
  · replace h := it_t h z23
    refine ct_iload_3 (q := 104) dX6_mark_103 rfl ?_
    refine ct_i2s (q := 105) dX6_mark_104 rfl ?_
    refine ct_goto (q := 109) dX6_mark_105 (by decide) ?_
    exact ct_lessK (vX6_mark_b109 hB  a21 x2 ((x3 : Int32).toInt16.toInt32) M r h) (trivial)

def fX6_mark_b58 (x2 : Int32) (x3 : Int32) (a4 : Nat) (M : ctM) : Option (Int32 × ctM) :=
  (gI kdC 3 0 a4 M).bind fun x21 =>
  if x21 = 1 then
    if x3 = (-1000000005) then
      fX6_mark_b89 x2 x3 a4 M
    else
      (fX6_isWithin x3 (-99999) 99999 M).bind fun r24 =>
      if r24.1 = 0 then
        some ((-1000000001), r24.2)
      else
        fX6_mark_b89 x2 x3 a4 r24.2
  else
    fX6_mark_b89 x2 x3 a4 M

set_option maxHeartbeats 4000000 in
set_option maxRecDepth 20000 in
theorem vX6_mark_b58 {B : ctB} {n : Nat} (hB : ctOk B kdC lnC n) : ∀ (x2 : Int32) (x3 : Int32) (a4 : Nat) (M : ctM) (r : Int32 × ctM), fX6_mark_b58 x2 x3 a4 M = some r → ctV B mX6_mark (2, 0, 0) (poI r n) 58 [none, none, some (.int x2), some (.int x3), some (.ref a4)] [] (0, 0) n M := by
  intro x2 x3 a4 M r h
  unfold fX6_mark_b58 at h
  refine ct_aload_4 (q := 60) dX6_mark_58 rfl ?_
  obtain ⟨x21, gx21, h⟩ := ob h
  refine ct_getI (q := 63) hB dX6_mark_60 fl_RX6_253 rfl gx21 rfl ?_
  refine ct_iconst (v := 1) (q := 64) dX6_mark_63 (by decide) rfl ?_
  refine ct_icmp_ne (q := 67) (tgt := 89) dX6_mark_64 (by decide) rfl (fun z22 => ?_) (fun z22 => ?_)
  · replace h := it_f h z22
    exact ct_lessK (vX6_mark_b89 hB  x2 x3 a4 M r h) (And.intro rfl (And.intro rfl (And.intro rfl (trivial))))
  · replace h := it_t h z22
    refine ct_iload_3 (q := 68) dX6_mark_67 rfl ?_
    refine ct_ldc (q := 70) dX6_mark_68 wd_535 rfl ?_
    refine ct_icmp_eq (q := 73) (tgt := 89) dX6_mark_70 (by decide) rfl (fun z23 => ?_) (fun z23 => ?_)
    · replace h := it_t h z23
      exact ct_lessK (vX6_mark_b89 hB  x2 x3 a4 M r h) (And.intro rfl (And.intro rfl (And.intro rfl (trivial))))
    · replace h := it_f h z23
      refine ct_iload_3 (q := 74) dX6_mark_73 rfl ?_
      refine ct_ldcw (q := 77) dX6_mark_74 wd_728 rfl ?_
      refine ct_ldcw (q := 80) dX6_mark_77 wd_729 rfl ?_
      obtain ⟨r24, gr24, h⟩ := ob h
      refine ct_cSi3 (q := 83) dX6_mark_80 lk_RX6_71 (by decide) (ctX6_isWithin hB gr24) (Nat.le_of_ble_eq_true rfl) rfl ?_
      refine ct_if_ne (q := 86) (tgt := 89) dX6_mark_83 (by decide) rfl (fun z25 => ?_) (fun z25 => ?_)
      · replace h := it_f h z25
        exact ct_lessK (vX6_mark_b89 hB  x2 x3 a4 r24.2 r h) (And.intro rfl (And.intro rfl (And.intro rfl (trivial))))
      · replace h := it_t h z25
        refine ct_ldc (q := 88) dX6_mark_86 wd_318 rfl ?_
        exact ct_iret dX6_mark_88 rfl ⟨Nat.le_refl 0, Nat.le_refl 0⟩ (poI_of h)

def fX6_mark (a0 : Nat) (x1 : Int32) (x2 : Int32) (x3 : Int32) (M : ctM) : Option (Int32 × ctM) :=
  (fX6_isSheet x1 M).bind fun r21 =>
  if r21.1 = 0 then
    some ((-1000000001), r21.2)
  else
    (gP kdC 6 5 a0 r21.2).bind fun a23 =>
    (aP kdC lnC 13 a23 x1 r21.2).bind fun a24 =>
    (cV kdC 3 a24 (fX3_isMissing a24 r21.2)).bind fun r25 =>
    if r25.1 = 0 then
      (cV kdC 3 a24 (fX3_has a24 x2 r25.2)).bind fun r27 =>
      if r27.1 = 0 then
        some ((-1000000013), r27.2)
      else
        (gI kdC 3 0 a24 r27.2).bind fun x29 =>
        if x29 = 0 then
          if x3 = (-1000000005) then
            some ((-1000000012), r27.2)
          else
            fX6_mark_b58 x2 x3 a24 r27.2
        else
          fX6_mark_b58 x2 x3 a24 r27.2
    else
      some ((-1000000011), r25.2)

set_option maxHeartbeats 4000000 in
set_option maxRecDepth 20000 in
theorem ctX6_mark {B : ctB} {n : Nat} (hB : ctOk B kdC lnC n) {a0 : Nat} {x1 : Int32} {x2 : Int32} {x3 : Int32} {M : ctM} {r : Int32 × ctM} (h : fX6_mark a0 x1 x2 x3 M = some r) : ctC B mX6_mark (2, 0, 0) [.ref a0, .int x1, .int x2, .int x3] n M (poI r n) := by
  refine ctC_of (by decide) (Nat.le_of_ble_eq_true rfl) ?_
  show ctV B mX6_mark (2, 0, 0) (poI r n) 0 [some (.ref a0), some (.int x1), some (.int x2), some (.int x3), none] [] (0, 0) n M
  unfold fX6_mark at h
  refine ct_iload_1 (q := 1) dX6_mark_0 rfl ?_
  obtain ⟨r21, gr21, h⟩ := ob h
  refine ct_cSi1 (q := 4) dX6_mark_1 lk_RX6_202 (by decide) (ctX6_isSheet hB gr21) (Nat.le_of_ble_eq_true rfl) rfl ?_
  refine ct_if_ne (q := 7) (tgt := 10) dX6_mark_4 (by decide) rfl (fun z22 => ?_) (fun z22 => ?_)
  · replace h := it_f h z22
    refine ct_aload_0 (q := 11) dX6_mark_10 rfl ?_
    obtain ⟨a23, ga23, h⟩ := ob h
    refine ct_getP (q := 14) hB dX6_mark_11 fl_RX6_15 rfl ga23 rfl ?_
    refine ct_iload_1 (q := 15) dX6_mark_14 rfl ?_
    obtain ⟨a24, ga24, h⟩ := ob h
    refine ct_aald (q := 16) rfl hB dX6_mark_15 ga24 rfl ?_
    refine ct_astore_4 (q := 18) dX6_mark_16 (by decide) rfl rfl ?_
    refine ct_aload_4 (q := 20) dX6_mark_18 rfl ?_
    obtain ⟨r25, gr25, h⟩ := ob h
    obtain ⟨er25, gr25⟩ := cV_spec gr25
    refine ct_cVi0 (q := 23) hB dX6_mark_20 lk_RX6_205 (by decide) (ctX3_isMissing hB gr25) er25 (by decide) rfl (Nat.le_of_ble_eq_true rfl) rfl ?_
    refine ct_if_eq (q := 26) (tgt := 29) dX6_mark_23 (by decide) rfl (fun z26 => ?_) (fun z26 => ?_)
    · replace h := it_t h z26
      refine ct_aload_4 (q := 31) dX6_mark_29 rfl ?_
      refine ct_iload_2 (q := 32) dX6_mark_31 rfl ?_
      obtain ⟨r27, gr27, h⟩ := ob h
      obtain ⟨er27, gr27⟩ := cV_spec gr27
      refine ct_cVi1 (q := 35) hB dX6_mark_32 lk_RX6_249 (by decide) (ctX3_has hB gr27) er27 (by decide) rfl (Nat.le_of_ble_eq_true rfl) rfl ?_
      refine ct_if_ne (q := 38) (tgt := 41) dX6_mark_35 (by decide) rfl (fun z28 => ?_) (fun z28 => ?_)
      · replace h := it_f h z28
        refine ct_aload_4 (q := 43) dX6_mark_41 rfl ?_
        obtain ⟨x29, gx29, h⟩ := ob h
        refine ct_getI (q := 46) hB dX6_mark_43 fl_RX6_253 rfl gx29 rfl ?_
        refine ct_if_ne (q := 49) (tgt := 58) dX6_mark_46 (by decide) rfl (fun z30 => ?_) (fun z30 => ?_)
        · replace h := it_f h z30
          exact ct_lessK (vX6_mark_b58 hB  x2 x3 a24 r27.2 r h) (And.intro rfl (And.intro rfl (And.intro rfl (trivial))))
        · replace h := it_t h z30
          refine ct_iload_3 (q := 50) dX6_mark_49 rfl ?_
          refine ct_ldc (q := 52) dX6_mark_50 wd_535 rfl ?_
          refine ct_icmp_ne (q := 55) (tgt := 58) dX6_mark_52 (by decide) rfl (fun z31 => ?_) (fun z31 => ?_)
          · replace h := it_f h z31
            exact ct_lessK (vX6_mark_b58 hB  x2 x3 a24 r27.2 r h) (And.intro rfl (And.intro rfl (And.intro rfl (trivial))))
          · replace h := it_t h z31
            refine ct_ldc (q := 57) dX6_mark_55 wd_398 rfl ?_
            exact ct_iret dX6_mark_57 rfl ⟨Nat.le_refl 0, Nat.le_refl 0⟩ (poI_of h)
      · replace h := it_t h z28
        refine ct_ldc (q := 40) dX6_mark_38 wd_727 rfl ?_
        exact ct_iret dX6_mark_40 rfl ⟨Nat.le_refl 0, Nat.le_refl 0⟩ (poI_of h)
    · replace h := it_f h z26
      refine ct_ldc (q := 28) dX6_mark_26 wd_577 rfl ?_
      exact ct_iret dX6_mark_28 rfl ⟨Nat.le_refl 0, Nat.le_refl 0⟩ (poI_of h)
  · replace h := it_t h z22
    refine ct_ldc (q := 9) dX6_mark_7 wd_318 rfl ?_
    exact ct_iret dX6_mark_9 rfl ⟨Nat.le_refl 0, Nat.le_refl 0⟩ (poI_of h)

def fX6_pour_b106 (k32 : Nat → Nat → Int32 → Int32 → ctM → Option (Int32 × ctM)) (a0 : Nat) (a2 : Nat) (x3 : Int32) (x4 : Int32) (M : ctM) : Option (Int32 × ctM) :=
  k32 a0 a2 x3 (x4 + 1) M

set_option maxHeartbeats 4000000 in
set_option maxRecDepth 20000 in
theorem vX6_pour_b106 {B : ctB} {n : Nat} (hB : ctOk B kdC lnC n) {k32 : Nat → Nat → Int32 → Int32 → ctM → Option (Int32 × ctM)} (hk32 : ∀ (a0 : Nat) (a2 : Nat) (x3 : Int32) (x4 : Int32) (M : ctM) (r : Int32 × ctM), k32 a0 a2 x3 x4 M = some r → ctV B mX6_pour (2, 0, 0) (poI r n) 32 [some (.ref a0), none, some (.ref a2), some (.int x3), some (.int x4), none] [] (0, 0) n M) : ∀ (a0 : Nat) (a2 : Nat) (x3 : Int32) (x4 : Int32) (M : ctM) (r : Int32 × ctM), fX6_pour_b106 k32 a0 a2 x3 x4 M = some r → ctV B mX6_pour (2, 0, 0) (poI r n) 106 [some (.ref a0), none, some (.ref a2), some (.int x3), some (.int x4), none] [] (0, 0) n M := by
  intro a0 a2 x3 x4 M r h
  unfold fX6_pour_b106 at h
  refine ct_iinc_4 (q := 109) (v := x4 + 1) dX6_pour_106 (by first | rfl | decide) (by decide) rfl rfl ?_
  refine ct_goto (q := 32) dX6_pour_109 (by decide) ?_
  exact ct_lessK (hk32 a0 a2 x3 (x4 + 1) M r h) (And.intro rfl (And.intro rfl (And.intro rfl (And.intro rfl (trivial)))))

def fX6_pour_h32 : Nat → Nat → Nat → Int32 → Int32 → ctM → Option (Int32 × ctM)
  | 0, _, _, _, _, _ => none
  | N + 1, a0, a2, x3, x4, M =>
    (gP kdC 6 1 a0 M).bind fun a21 =>
    (gI kdC 2 5 a21 M).bind fun x22 =>
    if x22 ≤ x4 then
      some (x3, M)
    else
      (cV kdC 3 a2 (fX3_has a2 x4 M)).bind fun r24 =>
      if r24.1 = 0 then
        some (x3, r24.2)
      else
        (gP kdC 3 2 a2 r24.2).bind fun a26 =>
        (aI kdC lnC 9 a26 x4 r24.2).bind fun x27 =>
        (fX6_isPhase x27 r24.2).bind fun r28 =>
        if r28.1 = 0 then
          fX6_pour_b106 (fX6_pour_h32 N) a0 a2 x3 x4 r28.2
        else
          (gP kdC 6 1 a0 r28.2).bind fun a30 =>
          (gP kdC 2 1 a30 r28.2).bind fun a31 =>
          (aP kdC lnC 11 a31 x4 r28.2).bind fun a32 =>
          (gI kdC 0 4 a32 r28.2).bind fun x33 =>
          if x27 = x33 then
            fX6_pour_b106 (fX6_pour_h32 N) a0 a2 x3 x4 r28.2
          else
            (gP kdC 6 1 a0 r28.2).bind fun a35 =>
            (gP kdC 2 1 a35 r28.2).bind fun a36 =>
            (aP kdC lnC 11 a36 x4 r28.2).bind fun a37 =>
            (pI kdC 0 4 a37 x27 r28.2).bind fun M38 =>
            fX6_pour_b106 (fX6_pour_h32 N) a0 a2 (x3 + 1) x4 M38

set_option maxHeartbeats 4000000 in
set_option maxRecDepth 20000 in
theorem vX6_pour_h32 {B : ctB} {n : Nat} (hB : ctOk B kdC lnC n) : ∀ (N : Nat) (a0 : Nat) (a2 : Nat) (x3 : Int32) (x4 : Int32) (M : ctM) (r : Int32 × ctM), fX6_pour_h32 N a0 a2 x3 x4 M = some r → ctV B mX6_pour (2, 0, 0) (poI r n) 32 [some (.ref a0), none, some (.ref a2), some (.int x3), some (.int x4), none] [] (0, 0) n M := by
  intro N
  induction N with
  | zero => intro a0 a2 x3 x4 M r h; exact absurd h (by simp [fX6_pour_h32])
  | succ N ih =>
    intro a0 a2 x3 x4 M r h
    rw [fX6_pour_h32] at h
    refine ct_iload_4 (q := 34) dX6_pour_32 rfl ?_
    refine ct_aload_0 (q := 35) dX6_pour_34 rfl ?_
    obtain ⟨a21, ga21, h⟩ := ob h
    refine ct_getP (q := 38) hB dX6_pour_35 fl_RX6_52 rfl ga21 rfl ?_
    obtain ⟨x22, gx22, h⟩ := ob h
    refine ct_getI (q := 41) hB dX6_pour_38 fl_RX6_76 rfl gx22 rfl ?_
    refine ct_icmp_ge (q := 44) (tgt := 112) dX6_pour_41 (by decide) rfl (fun z23 => ?_) (fun z23 => ?_)
    · replace h := it_t h z23
      refine ct_iload_3 (q := 113) dX6_pour_112 rfl ?_
      exact ct_iret dX6_pour_113 rfl ⟨Nat.le_refl 0, Nat.le_refl 0⟩ (poI_of h)
    · replace h := it_f h z23
      refine ct_aload_2 (q := 45) dX6_pour_44 rfl ?_
      refine ct_iload_4 (q := 47) dX6_pour_45 rfl ?_
      obtain ⟨r24, gr24, h⟩ := ob h
      obtain ⟨er24, gr24⟩ := cV_spec gr24
      refine ct_cVi1 (q := 50) hB dX6_pour_47 lk_RX6_249 (by decide) (ctX3_has hB gr24) er24 (by decide) rfl (Nat.le_of_ble_eq_true rfl) rfl ?_
      refine ct_if_eq (q := 53) (tgt := 112) dX6_pour_50 (by decide) rfl (fun z25 => ?_) (fun z25 => ?_)
      · replace h := it_t h z25
        refine ct_iload_3 (q := 113) dX6_pour_112 rfl ?_
        exact ct_iret dX6_pour_113 rfl ⟨Nat.le_refl 0, Nat.le_refl 0⟩ (poI_of h)
      · replace h := it_f h z25
        refine ct_aload_2 (q := 54) dX6_pour_53 rfl ?_
        obtain ⟨a26, ga26, h⟩ := ob h
        refine ct_getP (q := 57) hB dX6_pour_54 fl_RX6_217 rfl ga26 rfl ?_
        refine ct_iload_4 (q := 59) dX6_pour_57 rfl ?_
        obtain ⟨x27, gx27, h⟩ := ob h
        refine ct_iald (q := 60) hB dX6_pour_59 gx27 rfl ?_
        refine ct_istore_5 (q := 62) dX6_pour_60 (by decide) rfl rfl ?_
        refine ct_iload_5 (q := 64) dX6_pour_62 rfl ?_
        obtain ⟨r28, gr28, h⟩ := ob h
        refine ct_cSi1 (q := 67) dX6_pour_64 lk_RX6_129 (by decide) (ctX6_isPhase hB gr28) (Nat.le_of_ble_eq_true rfl) rfl ?_
        refine ct_if_eq (q := 70) (tgt := 106) dX6_pour_67 (by decide) rfl (fun z29 => ?_) (fun z29 => ?_)
        · replace h := it_t h z29
          exact ct_lessK (vX6_pour_b106 hB ih a0 a2 x3 x4 r28.2 r h) (And.intro rfl (And.intro rfl (And.intro rfl (And.intro rfl (trivial)))))
        · replace h := it_f h z29
          refine ct_iload_5 (q := 72) dX6_pour_70 rfl ?_
          refine ct_aload_0 (q := 73) dX6_pour_72 rfl ?_
          obtain ⟨a30, ga30, h⟩ := ob h
          refine ct_getP (q := 76) hB dX6_pour_73 fl_RX6_52 rfl ga30 rfl ?_
          obtain ⟨a31, ga31, h⟩ := ob h
          refine ct_getP (q := 79) hB dX6_pour_76 fl_RX6_87 rfl ga31 rfl ?_
          refine ct_iload_4 (q := 81) dX6_pour_79 rfl ?_
          obtain ⟨a32, ga32, h⟩ := ob h
          refine ct_aald (q := 82) rfl hB dX6_pour_81 ga32 rfl ?_
          obtain ⟨x33, gx33, h⟩ := ob h
          refine ct_getI (q := 85) hB dX6_pour_82 fl_RX6_105 rfl gx33 rfl ?_
          refine ct_icmp_eq (q := 88) (tgt := 106) dX6_pour_85 (by decide) rfl (fun z34 => ?_) (fun z34 => ?_)
          · replace h := it_t h z34
            exact ct_lessK (vX6_pour_b106 hB ih a0 a2 x3 x4 r28.2 r h) (And.intro rfl (And.intro rfl (And.intro rfl (And.intro rfl (trivial)))))
          · replace h := it_f h z34
            refine ct_aload_0 (q := 89) dX6_pour_88 rfl ?_
            obtain ⟨a35, ga35, h⟩ := ob h
            refine ct_getP (q := 92) hB dX6_pour_89 fl_RX6_52 rfl ga35 rfl ?_
            obtain ⟨a36, ga36, h⟩ := ob h
            refine ct_getP (q := 95) hB dX6_pour_92 fl_RX6_87 rfl ga36 rfl ?_
            refine ct_iload_4 (q := 97) dX6_pour_95 rfl ?_
            obtain ⟨a37, ga37, h⟩ := ob h
            refine ct_aald (q := 98) rfl hB dX6_pour_97 ga37 rfl ?_
            refine ct_iload_5 (q := 100) dX6_pour_98 rfl ?_
            obtain ⟨M38, gM38, h⟩ := ob h
            refine ct_putI (q := 103) hB dX6_pour_100 fl_RX6_105 rfl rfl (Or.inl rfl) gM38 rfl ?_
            refine ct_iinc_3 (q := 106) (v := x3 + 1) dX6_pour_103 (by first | rfl | decide) (by decide) rfl rfl ?_
            exact ct_lessK (vX6_pour_b106 hB ih a0 a2 (x3 + 1) x4 M38 r h) (And.intro rfl (And.intro rfl (And.intro rfl (And.intro rfl (trivial)))))

def fX6_pour (a0 : Nat) (x1 : Int32) (M : ctM) : Option (Int32 × ctM) :=
  (fX6_isSheet x1 M).bind fun r21 =>
  if r21.1 = 0 then
    some ((-1000000001), r21.2)
  else
    (gP kdC 6 5 a0 r21.2).bind fun a23 =>
    (aP kdC lnC 13 a23 x1 r21.2).bind fun a24 =>
    (cV kdC 3 a24 (fX3_isMissing a24 r21.2)).bind fun r25 =>
    if r25.1 = 0 then
      fX6_pour_h32 4000 a0 a24 0 0 r25.2
    else
      some ((-1000000011), r25.2)

set_option maxHeartbeats 4000000 in
set_option maxRecDepth 20000 in
theorem ctX6_pour {B : ctB} {n : Nat} (hB : ctOk B kdC lnC n) {a0 : Nat} {x1 : Int32} {M : ctM} {r : Int32 × ctM} (h : fX6_pour a0 x1 M = some r) : ctC B mX6_pour (2, 0, 0) [.ref a0, .int x1] n M (poI r n) := by
  refine ctC_of (by decide) (Nat.le_of_ble_eq_true rfl) ?_
  show ctV B mX6_pour (2, 0, 0) (poI r n) 0 [some (.ref a0), some (.int x1), none, none, none, none] [] (0, 0) n M
  unfold fX6_pour at h
  refine ct_iload_1 (q := 1) dX6_pour_0 rfl ?_
  obtain ⟨r21, gr21, h⟩ := ob h
  refine ct_cSi1 (q := 4) dX6_pour_1 lk_RX6_202 (by decide) (ctX6_isSheet hB gr21) (Nat.le_of_ble_eq_true rfl) rfl ?_
  refine ct_if_ne (q := 7) (tgt := 10) dX6_pour_4 (by decide) rfl (fun z22 => ?_) (fun z22 => ?_)
  · replace h := it_f h z22
    refine ct_aload_0 (q := 11) dX6_pour_10 rfl ?_
    obtain ⟨a23, ga23, h⟩ := ob h
    refine ct_getP (q := 14) hB dX6_pour_11 fl_RX6_15 rfl ga23 rfl ?_
    refine ct_iload_1 (q := 15) dX6_pour_14 rfl ?_
    obtain ⟨a24, ga24, h⟩ := ob h
    refine ct_aald (q := 16) rfl hB dX6_pour_15 ga24 rfl ?_
    refine ct_astore_2 (q := 17) dX6_pour_16 (by decide) rfl rfl ?_
    refine ct_aload_2 (q := 18) dX6_pour_17 rfl ?_
    obtain ⟨r25, gr25, h⟩ := ob h
    obtain ⟨er25, gr25⟩ := cV_spec gr25
    refine ct_cVi0 (q := 21) hB dX6_pour_18 lk_RX6_205 (by decide) (ctX3_isMissing hB gr25) er25 (by decide) rfl (Nat.le_of_ble_eq_true rfl) rfl ?_
    refine ct_if_eq (q := 24) (tgt := 27) dX6_pour_21 (by decide) rfl (fun z26 => ?_) (fun z26 => ?_)
    · replace h := it_t h z26
      refine ct_iconst (v := 0) (q := 28) dX6_pour_27 (by decide) rfl ?_
      refine ct_istore_3 (q := 29) dX6_pour_28 (by decide) rfl rfl ?_
      refine ct_iconst (v := 0) (q := 30) dX6_pour_29 (by decide) rfl ?_
      refine ct_istore_4 (q := 32) dX6_pour_30 (by decide) rfl rfl ?_
      exact ct_lessK (vX6_pour_h32 hB  4000 a0 a24 0 0 r25.2 r h) (And.intro rfl (And.intro rfl (And.intro rfl (And.intro rfl (trivial)))))
    · replace h := it_f h z26
      refine ct_ldc (q := 26) dX6_pour_24 wd_577 rfl ?_
      exact ct_iret dX6_pour_26 rfl ⟨Nat.le_refl 0, Nat.le_refl 0⟩ (poI_of h)
  · replace h := it_t h z22
    refine ct_ldc (q := 9) dX6_pour_7 wd_318 rfl ?_
    exact ct_iret dX6_pour_9 rfl ⟨Nat.le_refl 0, Nat.le_refl 0⟩ (poI_of h)

def fX6_reads_b79 (k29 : Nat → Nat → Int32 → ctM → Option (Int32 × ctM)) (a0 : Nat) (a2 : Nat) (x3 : Int32) (M : ctM) : Option (Int32 × ctM) :=
  k29 a0 a2 (x3 + 1) M

set_option maxHeartbeats 4000000 in
set_option maxRecDepth 20000 in
theorem vX6_reads_b79 {B : ctB} {n : Nat} (hB : ctOk B kdC lnC n) {k29 : Nat → Nat → Int32 → ctM → Option (Int32 × ctM)} (hk29 : ∀ (a0 : Nat) (a2 : Nat) (x3 : Int32) (M : ctM) (r : Int32 × ctM), k29 a0 a2 x3 M = some r → ctV B mX6_reads (2, 0, 0) (poI r n) 29 [some (.ref a0), none, some (.ref a2), some (.int x3), none] [] (0, 0) n M) : ∀ (a0 : Nat) (a2 : Nat) (x3 : Int32) (M : ctM) (r : Int32 × ctM), fX6_reads_b79 k29 a0 a2 x3 M = some r → ctV B mX6_reads (2, 0, 0) (poI r n) 79 [some (.ref a0), none, some (.ref a2), some (.int x3), none] [] (0, 0) n M := by
  intro a0 a2 x3 M r h
  unfold fX6_reads_b79 at h
  refine ct_iinc_3 (q := 82) (v := x3 + 1) dX6_reads_79 (by first | rfl | decide) (by decide) rfl rfl ?_
  refine ct_goto (q := 29) dX6_reads_82 (by decide) ?_
  exact ct_lessK (hk29 a0 a2 (x3 + 1) M r h) (And.intro rfl (And.intro rfl (And.intro rfl (trivial))))

def fX6_reads_h29 : Nat → Nat → Nat → Int32 → ctM → Option (Int32 × ctM)
  | 0, _, _, _, _ => none
  | N + 1, a0, a2, x3, M =>
    (gI kdC 3 1 a2 M).bind fun x21 =>
    if x21 ≤ x3 then
      some ((-1000000005), M)
    else
      (gP kdC 3 2 a2 M).bind fun a23 =>
      (aI kdC lnC 9 a23 x3 M).bind fun x24 =>
      if x24 = (-1000000005) then
        fX6_reads_b79 (fX6_reads_h29 N) a0 a2 x3 M
      else
        (cV kdC 6 a0 (fX6_isFlame a0 x3 M)).bind fun r26 =>
        if r26.1 = 0 then
          some (x3, r26.2)
        else
          (gP kdC 6 1 a0 r26.2).bind fun a28 =>
          (gP kdC 2 1 a28 r26.2).bind fun a29 =>
          (aP kdC lnC 11 a29 x3 r26.2).bind fun a30 =>
          (gI kdC 0 4 a30 r26.2).bind fun x31 =>
          if x24 = x31 then
            fX6_reads_b79 (fX6_reads_h29 N) a0 a2 x3 r26.2
          else
            some (x3, r26.2)

set_option maxHeartbeats 4000000 in
set_option maxRecDepth 20000 in
theorem vX6_reads_h29 {B : ctB} {n : Nat} (hB : ctOk B kdC lnC n) : ∀ (N : Nat) (a0 : Nat) (a2 : Nat) (x3 : Int32) (M : ctM) (r : Int32 × ctM), fX6_reads_h29 N a0 a2 x3 M = some r → ctV B mX6_reads (2, 0, 0) (poI r n) 29 [some (.ref a0), none, some (.ref a2), some (.int x3), none] [] (0, 0) n M := by
  intro N
  induction N with
  | zero => intro a0 a2 x3 M r h; exact absurd h (by simp [fX6_reads_h29])
  | succ N ih =>
    intro a0 a2 x3 M r h
    rw [fX6_reads_h29] at h
    refine ct_iload_3 (q := 30) dX6_reads_29 rfl ?_
    refine ct_aload_2 (q := 31) dX6_reads_30 rfl ?_
    obtain ⟨x21, gx21, h⟩ := ob h
    refine ct_getI (q := 34) hB dX6_reads_31 fl_RX6_214 rfl gx21 rfl ?_
    refine ct_icmp_ge (q := 37) (tgt := 85) dX6_reads_34 (by decide) rfl (fun z22 => ?_) (fun z22 => ?_)
    · replace h := it_t h z22
      refine ct_ldc (q := 87) dX6_reads_85 wd_535 rfl ?_
      exact ct_iret dX6_reads_87 rfl ⟨Nat.le_refl 0, Nat.le_refl 0⟩ (poI_of h)
    · replace h := it_f h z22
      refine ct_aload_2 (q := 38) dX6_reads_37 rfl ?_
      obtain ⟨a23, ga23, h⟩ := ob h
      refine ct_getP (q := 41) hB dX6_reads_38 fl_RX6_217 rfl ga23 rfl ?_
      refine ct_iload_3 (q := 42) dX6_reads_41 rfl ?_
      obtain ⟨x24, gx24, h⟩ := ob h
      refine ct_iald (q := 43) hB dX6_reads_42 gx24 rfl ?_
      refine ct_istore_4 (q := 45) dX6_reads_43 (by decide) rfl rfl ?_
      refine ct_iload_4 (q := 47) dX6_reads_45 rfl ?_
      refine ct_ldc (q := 49) dX6_reads_47 wd_535 rfl ?_
      refine ct_icmp_eq (q := 52) (tgt := 79) dX6_reads_49 (by decide) rfl (fun z25 => ?_) (fun z25 => ?_)
      · replace h := it_t h z25
        exact ct_lessK (vX6_reads_b79 hB ih a0 a2 x3 M r h) (And.intro rfl (And.intro rfl (And.intro rfl (trivial))))
      · replace h := it_f h z25
        refine ct_aload_0 (q := 53) dX6_reads_52 rfl ?_
        refine ct_iload_3 (q := 54) dX6_reads_53 rfl ?_
        obtain ⟨r26, gr26, h⟩ := ob h
        obtain ⟨er26, gr26⟩ := cV_spec gr26
        refine ct_cVi1 (q := 57) hB dX6_reads_54 lk_RX6_84 (by decide) (ctX6_isFlame hB gr26) er26 (by decide) rfl (Nat.le_of_ble_eq_true rfl) rfl ?_
        refine ct_if_eq (q := 60) (tgt := 77) dX6_reads_57 (by decide) rfl (fun z27 => ?_) (fun z27 => ?_)
        · replace h := it_t h z27
          refine ct_iload_3 (q := 78) dX6_reads_77 rfl ?_
          exact ct_iret dX6_reads_78 rfl ⟨Nat.le_refl 0, Nat.le_refl 0⟩ (poI_of h)
        · replace h := it_f h z27
          refine ct_iload_4 (q := 62) dX6_reads_60 rfl ?_
          refine ct_aload_0 (q := 63) dX6_reads_62 rfl ?_
          obtain ⟨a28, ga28, h⟩ := ob h
          refine ct_getP (q := 66) hB dX6_reads_63 fl_RX6_52 rfl ga28 rfl ?_
          obtain ⟨a29, ga29, h⟩ := ob h
          refine ct_getP (q := 69) hB dX6_reads_66 fl_RX6_87 rfl ga29 rfl ?_
          refine ct_iload_3 (q := 70) dX6_reads_69 rfl ?_
          obtain ⟨a30, ga30, h⟩ := ob h
          refine ct_aald (q := 71) rfl hB dX6_reads_70 ga30 rfl ?_
          obtain ⟨x31, gx31, h⟩ := ob h
          refine ct_getI (q := 74) hB dX6_reads_71 fl_RX6_105 rfl gx31 rfl ?_
          refine ct_icmp_eq (q := 77) (tgt := 79) dX6_reads_74 (by decide) rfl (fun z32 => ?_) (fun z32 => ?_)
          · replace h := it_t h z32
            exact ct_lessK (vX6_reads_b79 hB ih a0 a2 x3 r26.2 r h) (And.intro rfl (And.intro rfl (And.intro rfl (trivial))))
          · replace h := it_f h z32
            refine ct_iload_3 (q := 78) dX6_reads_77 rfl ?_
            exact ct_iret dX6_reads_78 rfl ⟨Nat.le_refl 0, Nat.le_refl 0⟩ (poI_of h)

def fX6_reads (a0 : Nat) (x1 : Int32) (M : ctM) : Option (Int32 × ctM) :=
  (fX6_isSheet x1 M).bind fun r21 =>
  if r21.1 = 0 then
    some ((-1000000001), r21.2)
  else
    (gP kdC 6 5 a0 r21.2).bind fun a23 =>
    (aP kdC lnC 13 a23 x1 r21.2).bind fun a24 =>
    (cV kdC 3 a24 (fX3_isMissing a24 r21.2)).bind fun r25 =>
    if r25.1 = 0 then
      fX6_reads_h29 4000 a0 a24 0 r25.2
    else
      some ((-1000000011), r25.2)

set_option maxHeartbeats 4000000 in
set_option maxRecDepth 20000 in
theorem ctX6_reads {B : ctB} {n : Nat} (hB : ctOk B kdC lnC n) {a0 : Nat} {x1 : Int32} {M : ctM} {r : Int32 × ctM} (h : fX6_reads a0 x1 M = some r) : ctC B mX6_reads (2, 0, 0) [.ref a0, .int x1] n M (poI r n) := by
  refine ctC_of (by decide) (Nat.le_of_ble_eq_true rfl) ?_
  show ctV B mX6_reads (2, 0, 0) (poI r n) 0 [some (.ref a0), some (.int x1), none, none, none] [] (0, 0) n M
  unfold fX6_reads at h
  refine ct_iload_1 (q := 1) dX6_reads_0 rfl ?_
  obtain ⟨r21, gr21, h⟩ := ob h
  refine ct_cSi1 (q := 4) dX6_reads_1 lk_RX6_202 (by decide) (ctX6_isSheet hB gr21) (Nat.le_of_ble_eq_true rfl) rfl ?_
  refine ct_if_ne (q := 7) (tgt := 10) dX6_reads_4 (by decide) rfl (fun z22 => ?_) (fun z22 => ?_)
  · replace h := it_f h z22
    refine ct_aload_0 (q := 11) dX6_reads_10 rfl ?_
    obtain ⟨a23, ga23, h⟩ := ob h
    refine ct_getP (q := 14) hB dX6_reads_11 fl_RX6_15 rfl ga23 rfl ?_
    refine ct_iload_1 (q := 15) dX6_reads_14 rfl ?_
    obtain ⟨a24, ga24, h⟩ := ob h
    refine ct_aald (q := 16) rfl hB dX6_reads_15 ga24 rfl ?_
    refine ct_astore_2 (q := 17) dX6_reads_16 (by decide) rfl rfl ?_
    refine ct_aload_2 (q := 18) dX6_reads_17 rfl ?_
    obtain ⟨r25, gr25, h⟩ := ob h
    obtain ⟨er25, gr25⟩ := cV_spec gr25
    refine ct_cVi0 (q := 21) hB dX6_reads_18 lk_RX6_205 (by decide) (ctX3_isMissing hB gr25) er25 (by decide) rfl (Nat.le_of_ble_eq_true rfl) rfl ?_
    refine ct_if_eq (q := 24) (tgt := 27) dX6_reads_21 (by decide) rfl (fun z26 => ?_) (fun z26 => ?_)
    · replace h := it_t h z26
      refine ct_iconst (v := 0) (q := 28) dX6_reads_27 (by decide) rfl ?_
      refine ct_istore_3 (q := 29) dX6_reads_28 (by decide) rfl rfl ?_
      exact ct_lessK (vX6_reads_h29 hB  4000 a0 a24 0 r25.2 r h) (And.intro rfl (And.intro rfl (And.intro rfl (trivial))))
    · replace h := it_f h z26
      refine ct_ldc (q := 26) dX6_reads_24 wd_577 rfl ?_
      exact ct_iret dX6_reads_26 rfl ⟨Nat.le_refl 0, Nat.le_refl 0⟩ (poI_of h)
  · replace h := it_t h z22
    refine ct_ldc (q := 9) dX6_reads_7 wd_318 rfl ?_
    exact ct_iret dX6_reads_9 rfl ⟨Nat.le_refl 0, Nat.le_refl 0⟩ (poI_of h)

def fX6_copy (a0 : Nat) (x1 : Int32) (x2 : Int32) (x3 : Int32) (x4 : Int32) (x5 : Int32) (M : ctM) : Option (Int32 × ctM) :=
  (fX6_isSheet x1 M).bind fun r21 =>
  if r21.1 = 0 then
    some ((-1000000001), r21.2)
  else
    (fX6_isSheet x3 r21.2).bind fun r23 =>
    if r23.1 = 0 then
      some ((-1000000001), r23.2)
    else
      (gP kdC 6 5 a0 r23.2).bind fun a25 =>
      (aP kdC lnC 13 a25 x1 r23.2).bind fun a26 =>
      (gP kdC 6 5 a0 r23.2).bind fun a27 =>
      (aP kdC lnC 13 a27 x3 r23.2).bind fun a28 =>
      (cV kdC 3 a26 (fX3_isMissing a26 r23.2)).bind fun r29 =>
      if r29.1 = 0 then
        (cV kdC 3 a28 (fX3_isMissing a28 r29.2)).bind fun r31 =>
        if r31.1 = 0 then
          (gI kdC 3 0 a26 r31.2).bind fun x33 =>
          (gI kdC 3 0 a28 r31.2).bind fun x34 =>
          if x33 = x34 then
            (cV kdC 3 a26 (fX3_hasRun a26 x2 x5 r31.2)).bind fun r36 =>
            if r36.1 = 0 then
              some ((-1000000013), r36.2)
            else
              (cV kdC 3 a28 (fX3_hasRun a28 x4 x5 r36.2)).bind fun r38 =>
              if r38.1 = 0 then
                some ((-1000000013), r38.2)
              else
                (gP kdC 3 2 a26 r38.2).bind fun a40 =>
                (gP kdC 3 2 a28 r38.2).bind fun a41 =>
                (cI kdC lnC a40 x2 a41 x4 x5 r38.2).bind fun M42 =>
                some (x5, M42)
          else
            some ((-1000000012), r31.2)
        else
          some ((-1000000011), r31.2)
      else
        some ((-1000000011), r29.2)

set_option maxHeartbeats 4000000 in
set_option maxRecDepth 20000 in
theorem ctX6_copy {B : ctB} {n : Nat} (hB : ctOk B kdC lnC n) (hfr : bF B = false) {a0 : Nat} {x1 : Int32} {x2 : Int32} {x3 : Int32} {x4 : Int32} {x5 : Int32} {M : ctM} {r : Int32 × ctM} (h : fX6_copy a0 x1 x2 x3 x4 x5 M = some r) : ctC B mX6_copy (2, 0, 0) [.ref a0, .int x1, .int x2, .int x3, .int x4, .int x5] n M (poI r n) := by
  refine ctC_of (by decide) (Nat.le_of_ble_eq_true rfl) ?_
  show ctV B mX6_copy (2, 0, 0) (poI r n) 0 [some (.ref a0), some (.int x1), some (.int x2), some (.int x3), some (.int x4), some (.int x5), none, none] [] (0, 0) n M
  unfold fX6_copy at h
  refine ct_iload_1 (q := 1) dX6_copy_0 rfl ?_
  obtain ⟨r21, gr21, h⟩ := ob h
  refine ct_cSi1 (q := 4) dX6_copy_1 lk_RX6_202 (by decide) (ctX6_isSheet hB gr21) (Nat.le_of_ble_eq_true rfl) rfl ?_
  refine ct_if_eq (q := 7) (tgt := 14) dX6_copy_4 (by decide) rfl (fun z22 => ?_) (fun z22 => ?_)
  · replace h := it_t h z22
    refine ct_ldc (q := 16) dX6_copy_14 wd_318 rfl ?_
    exact ct_iret dX6_copy_16 rfl ⟨Nat.le_refl 0, Nat.le_refl 0⟩ (poI_of h)
  · replace h := it_f h z22
    refine ct_iload_3 (q := 8) dX6_copy_7 rfl ?_
    obtain ⟨r23, gr23, h⟩ := ob h
    refine ct_cSi1 (q := 11) dX6_copy_8 lk_RX6_202 (by decide) (ctX6_isSheet hB gr23) (Nat.le_of_ble_eq_true rfl) rfl ?_
    refine ct_if_ne (q := 14) (tgt := 17) dX6_copy_11 (by decide) rfl (fun z24 => ?_) (fun z24 => ?_)
    · replace h := it_f h z24
      refine ct_aload_0 (q := 18) dX6_copy_17 rfl ?_
      obtain ⟨a25, ga25, h⟩ := ob h
      refine ct_getP (q := 21) hB dX6_copy_18 fl_RX6_15 rfl ga25 rfl ?_
      refine ct_iload_1 (q := 22) dX6_copy_21 rfl ?_
      obtain ⟨a26, ga26, h⟩ := ob h
      refine ct_aald (q := 23) rfl hB dX6_copy_22 ga26 rfl ?_
      refine ct_astore_6 (q := 25) dX6_copy_23 (by decide) rfl rfl ?_
      refine ct_aload_0 (q := 26) dX6_copy_25 rfl ?_
      obtain ⟨a27, ga27, h⟩ := ob h
      refine ct_getP (q := 29) hB dX6_copy_26 fl_RX6_15 rfl ga27 rfl ?_
      refine ct_iload_3 (q := 30) dX6_copy_29 rfl ?_
      obtain ⟨a28, ga28, h⟩ := ob h
      refine ct_aald (q := 31) rfl hB dX6_copy_30 ga28 rfl ?_
      refine ct_astore_7 (q := 33) dX6_copy_31 (by decide) rfl rfl ?_
      refine ct_aload_6 (q := 35) dX6_copy_33 rfl ?_
      obtain ⟨r29, gr29, h⟩ := ob h
      obtain ⟨er29, gr29⟩ := cV_spec gr29
      refine ct_cVi0 (q := 38) hB dX6_copy_35 lk_RX6_205 (by decide) (ctX3_isMissing hB gr29) er29 (by decide) rfl (Nat.le_of_ble_eq_true rfl) rfl ?_
      refine ct_if_ne (q := 41) (tgt := 49) dX6_copy_38 (by decide) rfl (fun z30 => ?_) (fun z30 => ?_)
      · replace h := it_f h z30
        refine ct_ldc (q := 51) dX6_copy_49 wd_577 rfl ?_
        exact ct_iret dX6_copy_51 rfl ⟨Nat.le_refl 0, Nat.le_refl 0⟩ (poI_of h)
      · replace h := it_t h z30
        refine ct_aload_7 (q := 43) dX6_copy_41 rfl ?_
        obtain ⟨r31, gr31, h⟩ := ob h
        obtain ⟨er31, gr31⟩ := cV_spec gr31
        refine ct_cVi0 (q := 46) hB dX6_copy_43 lk_RX6_205 (by decide) (ctX3_isMissing hB gr31) er31 (by decide) rfl (Nat.le_of_ble_eq_true rfl) rfl ?_
        refine ct_if_eq (q := 49) (tgt := 52) dX6_copy_46 (by decide) rfl (fun z32 => ?_) (fun z32 => ?_)
        · replace h := it_t h z32
          refine ct_aload_6 (q := 54) dX6_copy_52 rfl ?_
          obtain ⟨x33, gx33, h⟩ := ob h
          refine ct_getI (q := 57) hB dX6_copy_54 fl_RX6_253 rfl gx33 rfl ?_
          refine ct_aload_7 (q := 59) dX6_copy_57 rfl ?_
          obtain ⟨x34, gx34, h⟩ := ob h
          refine ct_getI (q := 62) hB dX6_copy_59 fl_RX6_253 rfl gx34 rfl ?_
          refine ct_icmp_eq (q := 65) (tgt := 68) dX6_copy_62 (by decide) rfl (fun z35 => ?_) (fun z35 => ?_)
          · replace h := it_t h z35
            refine ct_aload_6 (q := 70) dX6_copy_68 rfl ?_
            refine ct_iload_2 (q := 71) dX6_copy_70 rfl ?_
            refine ct_iload_5 (q := 73) dX6_copy_71 rfl ?_
            obtain ⟨r36, gr36, h⟩ := ob h
            obtain ⟨er36, gr36⟩ := cV_spec gr36
            refine ct_cVi2 (q := 76) hB dX6_copy_73 lk_RX6_258 (by decide) (ctX3_hasRun hB gr36) er36 (by decide) rfl (Nat.le_of_ble_eq_true rfl) rfl ?_
            refine ct_if_eq (q := 79) (tgt := 91) dX6_copy_76 (by decide) rfl (fun z37 => ?_) (fun z37 => ?_)
            · replace h := it_t h z37
              refine ct_ldc (q := 93) dX6_copy_91 wd_727 rfl ?_
              exact ct_iret dX6_copy_93 rfl ⟨Nat.le_refl 0, Nat.le_refl 0⟩ (poI_of h)
            · replace h := it_f h z37
              refine ct_aload_7 (q := 81) dX6_copy_79 rfl ?_
              refine ct_iload_4 (q := 83) dX6_copy_81 rfl ?_
              refine ct_iload_5 (q := 85) dX6_copy_83 rfl ?_
              obtain ⟨r38, gr38, h⟩ := ob h
              obtain ⟨er38, gr38⟩ := cV_spec gr38
              refine ct_cVi2 (q := 88) hB dX6_copy_85 lk_RX6_258 (by decide) (ctX3_hasRun hB gr38) er38 (by decide) rfl (Nat.le_of_ble_eq_true rfl) rfl ?_
              refine ct_if_ne (q := 91) (tgt := 94) dX6_copy_88 (by decide) rfl (fun z39 => ?_) (fun z39 => ?_)
              · replace h := it_f h z39
                refine ct_aload_6 (q := 96) dX6_copy_94 rfl ?_
                obtain ⟨a40, ga40, h⟩ := ob h
                refine ct_getP (q := 99) hB dX6_copy_96 fl_RX6_217 rfl ga40 rfl ?_
                refine ct_iload_2 (q := 100) dX6_copy_99 rfl ?_
                refine ct_aload_7 (q := 102) dX6_copy_100 rfl ?_
                obtain ⟨a41, ga41, h⟩ := ob h
                refine ct_getP (q := 105) hB dX6_copy_102 fl_RX6_217 rfl ga41 rfl ?_
                refine ct_iload_4 (q := 107) dX6_copy_105 rfl ?_
                refine ct_iload_5 (q := 109) dX6_copy_107 rfl ?_
                obtain ⟨M42, gM42, h⟩ := ob h
                refine ct_copy (q := 112) hB hfr dX6_copy_109 cy_RX6_261 (by decide) (Nat.le_of_ble_eq_true rfl) gM42 rfl ?_
                refine ct_iload_5 (q := 114) dX6_copy_112 rfl ?_
                exact ct_iret dX6_copy_114 rfl ⟨Nat.le_refl 0, Nat.le_refl 0⟩ (poI_of h)
              · replace h := it_t h z39
                refine ct_ldc (q := 93) dX6_copy_91 wd_727 rfl ?_
                exact ct_iret dX6_copy_93 rfl ⟨Nat.le_refl 0, Nat.le_refl 0⟩ (poI_of h)
          · replace h := it_f h z35
            refine ct_ldc (q := 67) dX6_copy_65 wd_398 rfl ?_
            exact ct_iret dX6_copy_67 rfl ⟨Nat.le_refl 0, Nat.le_refl 0⟩ (poI_of h)
        · replace h := it_f h z32
          refine ct_ldc (q := 51) dX6_copy_49 wd_577 rfl ?_
          exact ct_iret dX6_copy_51 rfl ⟨Nat.le_refl 0, Nat.le_refl 0⟩ (poI_of h)
    · replace h := it_t h z24
      refine ct_ldc (q := 16) dX6_copy_14 wd_318 rfl ?_
      exact ct_iret dX6_copy_16 rfl ⟨Nat.le_refl 0, Nat.le_refl 0⟩ (poI_of h)

def fX6_isSlot (x0 : Int32) (M : ctM) : Option (Int32 × ctM) :=
  (fX6_isWithin x0 0 4 M).bind fun r21 =>
  if r21.1 = 0 ∨ r21.1 = 1 then some (r21.1, r21.2) else none

set_option maxHeartbeats 4000000 in
set_option maxRecDepth 20000 in
theorem ctX6_isSlot {B : ctB} {n : Nat} (hB : ctOk B kdC lnC n) {x0 : Int32} {M : ctM} {r : Int32 × ctM} (h : fX6_isSlot x0 M = some r) : ctC B mX6_isSlot (1, 0, 0) [.int x0] n M (poI r n) := by
  refine ctC_of (by decide) (Nat.le_of_ble_eq_true rfl) ?_
  show ctV B mX6_isSlot (1, 0, 0) (poI r n) 0 [some (.int x0)] [] (0, 0) n M
  unfold fX6_isSlot at h
  refine ct_iload_0 (q := 1) dX6_isSlot_0 rfl ?_
  refine ct_iconst (v := 0) (q := 2) dX6_isSlot_1 (by decide) rfl ?_
  refine ct_iconst (v := 4) (q := 3) dX6_isSlot_2 (by decide) rfl ?_
  obtain ⟨r21, gr21, h⟩ := ob h
  refine ct_cSi3 (q := 6) dX6_isSlot_3 lk_RX6_71 (by decide) (ctX6_isWithin hB gr21) (Nat.le_of_ble_eq_true rfl) rfl ?_
  by_cases z22 : r21.1 = 0 ∨ r21.1 = 1
  · exact ct_zret dX6_isSlot_6 rfl z22 ⟨Nat.le_refl 0, Nat.le_refl 0⟩ (poI_of (it_t h z22))
  · exact absurd (it_f h z22) (by simp)

def fX6_lay_b76 (a0 : Nat) (x1 : Int32) (x2 : Int32) (x3 : Int32) (M : ctM) : Option (Int32 × ctM) :=
  (gP kdC 6 6 a0 M).bind fun a21 =>
  (aP kdC lnC 14 a21 x1 M).bind fun a22 =>
  (gI kdC 4 0 a22 M).bind fun x23 =>
  (pI kdC 4 0 a22 x2 M).bind fun M24 =>
  if x2 = 1 then
    (gP kdC 4 1 a22 M24).bind fun a32 =>
    (gP kdC 6 1 a0 M24).bind fun a33 =>
    (gP kdC 2 1 a33 M24).bind fun a34 =>
    (aP kdC lnC 11 a34 x3 M24).bind fun a35 =>
    (cV kdC 0 a32 (fX0_become a32 a35 M24)).bind fun r36 =>
    some (x23, r36)
  else
    if x2 = 2 then
      (gP kdC 4 2 a22 M24).bind fun a28 =>
      (gP kdC 6 5 a0 M24).bind fun a29 =>
      (aP kdC lnC 13 a29 x3 M24).bind fun a30 =>
      (cV kdC 3 a28 (fX3_become a28 a30 M24)).bind fun r31 =>
      some (x23, r31)
    else
      (pI kdC 4 3 a22 x3 M24).bind fun M27 =>
      some (x23, M27)

set_option maxHeartbeats 4000000 in
set_option maxRecDepth 20000 in
theorem vX6_lay_b76 {B : ctB} {n : Nat} (hB : ctOk B kdC lnC n) : ∀ (a0 : Nat) (x1 : Int32) (x2 : Int32) (x3 : Int32) (M : ctM) (r : Int32 × ctM), fX6_lay_b76 a0 x1 x2 x3 M = some r → ctV B mX6_lay (2, 0, 0) (poI r n) 76 [some (.ref a0), some (.int x1), some (.int x2), some (.int x3), none, none, none] [] (0, 0) n M := by
  intro a0 x1 x2 x3 M r h
  unfold fX6_lay_b76 at h
  refine ct_aload_0 (q := 77) dX6_lay_76 rfl ?_
  obtain ⟨a21, ga21, h⟩ := ob h
  refine ct_getP (q := 80) hB dX6_lay_77 fl_RX6_21 rfl ga21 rfl ?_
  refine ct_iload_1 (q := 81) dX6_lay_80 rfl ?_
  obtain ⟨a22, ga22, h⟩ := ob h
  refine ct_aald (q := 82) rfl hB dX6_lay_81 ga22 rfl ?_
  refine ct_astore_5 (q := 84) dX6_lay_82 (by decide) rfl rfl ?_
  refine ct_aload_5 (q := 86) dX6_lay_84 rfl ?_
  obtain ⟨x23, gx23, h⟩ := ob h
  refine ct_getI (q := 89) hB dX6_lay_86 fl_RX6_270 rfl gx23 rfl ?_
  refine ct_istore_6 (q := 91) dX6_lay_89 (by decide) rfl rfl ?_
  refine ct_aload_5 (q := 93) dX6_lay_91 rfl ?_
  refine ct_iload_2 (q := 94) dX6_lay_93 rfl ?_
  obtain ⟨M24, gM24, h⟩ := ob h
  refine ct_putI (q := 97) hB dX6_lay_94 fl_RX6_270 rfl rfl (Or.inl rfl) gM24 rfl ?_
  refine ct_iload_2 (q := 98) dX6_lay_97 rfl ?_
  refine ct_iconst (v := 1) (q := 99) dX6_lay_98 (by decide) rfl ?_
  refine ct_icmp_ne (q := 102) (tgt := 122) dX6_lay_99 (by decide) rfl (fun z25 => ?_) (fun z25 => ?_)
  · replace h := it_f h z25
    refine ct_iload_2 (q := 123) dX6_lay_122 rfl ?_
    refine ct_iconst (v := 2) (q := 124) dX6_lay_123 (by decide) rfl ?_
    refine ct_icmp_ne (q := 127) (tgt := 144) dX6_lay_124 (by decide) rfl (fun z26 => ?_) (fun z26 => ?_)
    · replace h := it_f h z26
      refine ct_aload_5 (q := 146) dX6_lay_144 rfl ?_
      refine ct_iload_3 (q := 147) dX6_lay_146 rfl ?_
      obtain ⟨M27, gM27, h⟩ := ob h
      refine ct_putI (q := 150) hB dX6_lay_147 fl_RX6_287 rfl rfl (Or.inl rfl) gM27 rfl ?_
      refine ct_iload_6 (q := 152) dX6_lay_150 rfl ?_
      exact ct_iret dX6_lay_152 rfl ⟨Nat.le_refl 0, Nat.le_refl 0⟩ (poI_of h)
    · replace h := it_t h z26
      refine ct_aload_5 (q := 129) dX6_lay_127 rfl ?_
      obtain ⟨a28, ga28, h⟩ := ob h
      refine ct_getP (q := 132) hB dX6_lay_129 fl_RX6_280 rfl ga28 rfl ?_
      refine ct_aload_0 (q := 133) dX6_lay_132 rfl ?_
      obtain ⟨a29, ga29, h⟩ := ob h
      refine ct_getP (q := 136) hB dX6_lay_133 fl_RX6_15 rfl ga29 rfl ?_
      refine ct_iload_3 (q := 137) dX6_lay_136 rfl ?_
      obtain ⟨a30, ga30, h⟩ := ob h
      refine ct_aald (q := 138) rfl hB dX6_lay_137 ga30 rfl ?_
      obtain ⟨r31, gr31, h⟩ := ob h
      obtain ⟨er31, gr31⟩ := cV_spec gr31
      refine ct_cVv1 (q := 141) hB dX6_lay_138 lk_RX6_284 (by decide) (ctX3_become hB gr31) er31 (by decide) rfl (Nat.le_of_ble_eq_true rfl) rfl ?_
      refine ct_goto (q := 150) dX6_lay_141 (by decide) ?_
      refine ct_iload_6 (q := 152) dX6_lay_150 rfl ?_
      exact ct_iret dX6_lay_152 rfl ⟨Nat.le_refl 0, Nat.le_refl 0⟩ (poI_of h)
  · replace h := it_t h z25
    refine ct_aload_5 (q := 104) dX6_lay_102 rfl ?_
    obtain ⟨a32, ga32, h⟩ := ob h
    refine ct_getP (q := 107) hB dX6_lay_104 fl_RX6_273 rfl ga32 rfl ?_
    refine ct_aload_0 (q := 108) dX6_lay_107 rfl ?_
    obtain ⟨a33, ga33, h⟩ := ob h
    refine ct_getP (q := 111) hB dX6_lay_108 fl_RX6_52 rfl ga33 rfl ?_
    obtain ⟨a34, ga34, h⟩ := ob h
    refine ct_getP (q := 114) hB dX6_lay_111 fl_RX6_87 rfl ga34 rfl ?_
    refine ct_iload_3 (q := 115) dX6_lay_114 rfl ?_
    obtain ⟨a35, ga35, h⟩ := ob h
    refine ct_aald (q := 116) rfl hB dX6_lay_115 ga35 rfl ?_
    obtain ⟨r36, gr36, h⟩ := ob h
    obtain ⟨er36, gr36⟩ := cV_spec gr36
    refine ct_cVv1 (q := 119) hB dX6_lay_116 lk_RX6_277 (by decide) (ctX0_become hB gr36) er36 (by decide) rfl (Nat.le_of_ble_eq_true rfl) rfl ?_
    refine ct_goto (q := 150) dX6_lay_119 (by decide) ?_
    refine ct_iload_6 (q := 152) dX6_lay_150 rfl ?_
    exact ct_iret dX6_lay_152 rfl ⟨Nat.le_refl 0, Nat.le_refl 0⟩ (poI_of h)

def fX6_lay_b30 (a0 : Nat) (x1 : Int32) (x2 : Int32) (x3 : Int32) (xs0 : Int32) (M : ctM) : Option (Int32 × ctM) :=
  (fX6_isSlot x1 M).bind fun r21 =>
  if r21.1 = 0 then
    some ((-1000000001), r21.2)
  else
    (fX6_isWithin x2 0 3 r21.2).bind fun r23 =>
    if r23.1 = 0 then
      some ((-1000000001), r23.2)
    else
      if xs0 = 0 then
        some ((-1000000001), r23.2)
      else
        if x2 = 2 then
          (gP kdC 6 5 a0 r23.2).bind fun a27 =>
          (aP kdC lnC 13 a27 x3 r23.2).bind fun a28 =>
          (cV kdC 3 a28 (fX3_isMissing a28 r23.2)).bind fun r29 =>
          if r29.1 = 0 then
            fX6_lay_b76 a0 x1 x2 x3 r29.2
          else
            some ((-1000000011), r29.2)
        else
          fX6_lay_b76 a0 x1 x2 x3 r23.2

set_option maxHeartbeats 4000000 in
set_option maxRecDepth 20000 in
theorem vX6_lay_b30 {B : ctB} {n : Nat} (hB : ctOk B kdC lnC n) : ∀ (a0 : Nat) (x1 : Int32) (x2 : Int32) (x3 : Int32) (xs0 : Int32) (M : ctM) (r : Int32 × ctM), fX6_lay_b30 a0 x1 x2 x3 xs0 M = some r → ctV B mX6_lay (2, 0, 0) (poI r n) 30 [some (.ref a0), some (.int x1), some (.int x2), some (.int x3), none, none, none] [.int xs0] (0, 0) n M := by
  intro a0 x1 x2 x3 xs0 M r h
  unfold fX6_lay_b30 at h
  refine ct_istore_4 (q := 32) dX6_lay_30 (by decide) rfl rfl ?_
  refine ct_iload_1 (q := 33) dX6_lay_32 rfl ?_
  obtain ⟨r21, gr21, h⟩ := ob h
  refine ct_cSi1 (q := 36) dX6_lay_33 lk_RX6_267 (by decide) (ctX6_isSlot hB gr21) (Nat.le_of_ble_eq_true rfl) rfl ?_
  refine ct_if_eq (q := 39) (tgt := 53) dX6_lay_36 (by decide) rfl (fun z22 => ?_) (fun z22 => ?_)
  · replace h := it_t h z22
    refine ct_ldc (q := 55) dX6_lay_53 wd_318 rfl ?_
    exact ct_iret dX6_lay_55 rfl ⟨Nat.le_refl 0, Nat.le_refl 0⟩ (poI_of h)
  · replace h := it_f h z22
    refine ct_iload_2 (q := 40) dX6_lay_39 rfl ?_
    refine ct_iconst (v := 0) (q := 41) dX6_lay_40 (by decide) rfl ?_
    refine ct_iconst (v := 3) (q := 42) dX6_lay_41 (by decide) rfl ?_
    obtain ⟨r23, gr23, h⟩ := ob h
    refine ct_cSi3 (q := 45) dX6_lay_42 lk_RX6_71 (by decide) (ctX6_isWithin hB gr23) (Nat.le_of_ble_eq_true rfl) rfl ?_
    refine ct_if_eq (q := 48) (tgt := 53) dX6_lay_45 (by decide) rfl (fun z24 => ?_) (fun z24 => ?_)
    · replace h := it_t h z24
      refine ct_ldc (q := 55) dX6_lay_53 wd_318 rfl ?_
      exact ct_iret dX6_lay_55 rfl ⟨Nat.le_refl 0, Nat.le_refl 0⟩ (poI_of h)
    · replace h := it_f h z24
      refine ct_iload_4 (q := 50) dX6_lay_48 rfl ?_
      refine ct_if_ne (q := 53) (tgt := 56) dX6_lay_50 (by decide) rfl (fun z25 => ?_) (fun z25 => ?_)
      · replace h := it_f h z25
        refine ct_iload_2 (q := 57) dX6_lay_56 rfl ?_
        refine ct_iconst (v := 2) (q := 58) dX6_lay_57 (by decide) rfl ?_
        refine ct_icmp_ne (q := 61) (tgt := 76) dX6_lay_58 (by decide) rfl (fun z26 => ?_) (fun z26 => ?_)
        · replace h := it_f h z26
          exact ct_lessK (vX6_lay_b76 hB  a0 x1 x2 x3 r23.2 r h) (And.intro rfl (And.intro rfl (And.intro rfl (And.intro rfl (trivial)))))
        · replace h := it_t h z26
          refine ct_aload_0 (q := 62) dX6_lay_61 rfl ?_
          obtain ⟨a27, ga27, h⟩ := ob h
          refine ct_getP (q := 65) hB dX6_lay_62 fl_RX6_15 rfl ga27 rfl ?_
          refine ct_iload_3 (q := 66) dX6_lay_65 rfl ?_
          obtain ⟨a28, ga28, h⟩ := ob h
          refine ct_aald (q := 67) rfl hB dX6_lay_66 ga28 rfl ?_
          obtain ⟨r29, gr29, h⟩ := ob h
          obtain ⟨er29, gr29⟩ := cV_spec gr29
          refine ct_cVi0 (q := 70) hB dX6_lay_67 lk_RX6_205 (by decide) (ctX3_isMissing hB gr29) er29 (by decide) rfl (Nat.le_of_ble_eq_true rfl) rfl ?_
          refine ct_if_eq (q := 73) (tgt := 76) dX6_lay_70 (by decide) rfl (fun z30 => ?_) (fun z30 => ?_)
          · replace h := it_t h z30
            exact ct_lessK (vX6_lay_b76 hB  a0 x1 x2 x3 r29.2 r h) (And.intro rfl (And.intro rfl (And.intro rfl (And.intro rfl (trivial)))))
          · replace h := it_f h z30
            refine ct_ldc (q := 75) dX6_lay_73 wd_577 rfl ?_
            exact ct_iret dX6_lay_75 rfl ⟨Nat.le_refl 0, Nat.le_refl 0⟩ (poI_of h)
      · replace h := it_t h z25
        refine ct_ldc (q := 55) dX6_lay_53 wd_318 rfl ?_
        exact ct_iret dX6_lay_55 rfl ⟨Nat.le_refl 0, Nat.le_refl 0⟩ (poI_of h)

def fX6_lay_b25 (a0 : Nat) (x1 : Int32) (x2 : Int32) (x3 : Int32) (M : ctM) : Option (Int32 × ctM) :=
  fX6_lay_b30 a0 x1 x2 x3 1 M

set_option maxHeartbeats 4000000 in
set_option maxRecDepth 20000 in
theorem vX6_lay_b25 {B : ctB} {n : Nat} (hB : ctOk B kdC lnC n) : ∀ (a0 : Nat) (x1 : Int32) (x2 : Int32) (x3 : Int32) (M : ctM) (r : Int32 × ctM), fX6_lay_b25 a0 x1 x2 x3 M = some r → ctV B mX6_lay (2, 0, 0) (poI r n) 25 [some (.ref a0), some (.int x1), some (.int x2), some (.int x3), none, none, none] [] (0, 0) n M := by
  intro a0 x1 x2 x3 M r h
  unfold fX6_lay_b25 at h
  refine ct_iconst (v := 1) (q := 26) dX6_lay_25 (by decide) rfl ?_
  refine ct_goto (q := 30) dX6_lay_26 (by decide) ?_
  exact ct_lessK (vX6_lay_b30 hB  a0 x1 x2 x3 1 M r h) (And.intro rfl (And.intro rfl (And.intro rfl (And.intro rfl (trivial)))))

def fX6_lay (a0 : Nat) (x1 : Int32) (x2 : Int32) (x3 : Int32) (M : ctM) : Option (Int32 × ctM) :=
  if x2 = 1 then
    (cV kdC 6 a0 (fX6_isFlame a0 x3 M)).bind fun r25 =>
    fX6_lay_b30 a0 x1 x2 x3 r25.1 r25.2
  else
    if x2 = 2 then
      (fX6_isSheet x3 M).bind fun r23 =>
      if r23.1 = 0 then
        fX6_lay_b30 a0 x1 x2 x3 0 r23.2
      else
        fX6_lay_b25 a0 x1 x2 x3 r23.2
    else
      fX6_lay_b25 a0 x1 x2 x3 M

set_option maxHeartbeats 4000000 in
set_option maxRecDepth 20000 in
theorem ctX6_lay {B : ctB} {n : Nat} (hB : ctOk B kdC lnC n) {a0 : Nat} {x1 : Int32} {x2 : Int32} {x3 : Int32} {M : ctM} {r : Int32 × ctM} (h : fX6_lay a0 x1 x2 x3 M = some r) : ctC B mX6_lay (2, 0, 0) [.ref a0, .int x1, .int x2, .int x3] n M (poI r n) := by
  refine ctC_of (by decide) (Nat.le_of_ble_eq_true rfl) ?_
  show ctV B mX6_lay (2, 0, 0) (poI r n) 0 [some (.ref a0), some (.int x1), some (.int x2), some (.int x3), none, none, none] [] (0, 0) n M
  unfold fX6_lay at h
  refine ct_iload_2 (q := 1) dX6_lay_0 rfl ?_
  refine ct_iconst (v := 1) (q := 2) dX6_lay_1 (by decide) rfl ?_
  refine ct_icmp_ne (q := 5) (tgt := 13) dX6_lay_2 (by decide) rfl (fun z21 => ?_) (fun z21 => ?_)
  · replace h := it_f h z21
    refine ct_iload_2 (q := 14) dX6_lay_13 rfl ?_
    refine ct_iconst (v := 2) (q := 15) dX6_lay_14 (by decide) rfl ?_
    refine ct_icmp_ne (q := 18) (tgt := 25) dX6_lay_15 (by decide) rfl (fun z22 => ?_) (fun z22 => ?_)
    · replace h := it_f h z22
      exact ct_lessK (vX6_lay_b25 hB  a0 x1 x2 x3 M r h) (And.intro rfl (And.intro rfl (And.intro rfl (And.intro rfl (trivial)))))
    · replace h := it_t h z22
      refine ct_iload_3 (q := 19) dX6_lay_18 rfl ?_
      obtain ⟨r23, gr23, h⟩ := ob h
      refine ct_cSi1 (q := 22) dX6_lay_19 lk_RX6_202 (by decide) (ctX6_isSheet hB gr23) (Nat.le_of_ble_eq_true rfl) rfl ?_
      refine ct_if_eq (q := 25) (tgt := 29) dX6_lay_22 (by decide) rfl (fun z24 => ?_) (fun z24 => ?_)
      · replace h := it_t h z24
        refine ct_iconst (v := 0) (q := 30) dX6_lay_29 (by decide) rfl ?_
        exact ct_lessK (vX6_lay_b30 hB  a0 x1 x2 x3 0 r23.2 r h) (And.intro rfl (And.intro rfl (And.intro rfl (And.intro rfl (trivial)))))
      · replace h := it_f h z24
        exact ct_lessK (vX6_lay_b25 hB  a0 x1 x2 x3 r23.2 r h) (And.intro rfl (And.intro rfl (And.intro rfl (And.intro rfl (trivial)))))
  · replace h := it_t h z21
    refine ct_aload_0 (q := 6) dX6_lay_5 rfl ?_
    refine ct_iload_3 (q := 7) dX6_lay_6 rfl ?_
    obtain ⟨r25, gr25, h⟩ := ob h
    obtain ⟨er25, gr25⟩ := cV_spec gr25
    refine ct_cVi1 (q := 10) hB dX6_lay_7 lk_RX6_84 (by decide) (ctX6_isFlame hB gr25) er25 (by decide) rfl (Nat.le_of_ble_eq_true rfl) rfl ?_
    refine ct_goto (q := 30) dX6_lay_10 (by decide) ?_
    exact ct_lessK (vX6_lay_b30 hB  a0 x1 x2 x3 r25.1 r25.2 r h) (And.intro rfl (And.intro rfl (And.intro rfl (And.intro rfl (trivial)))))

def fX6_ask (a0 : Nat) (x1 : Int32) (x2 : Int32) (M : ctM) : Option (Int32 × ctM) :=
  (fX6_isSlot x1 M).bind fun r21 =>
  if r21.1 = 0 then
    some ((-1000000001), r21.2)
  else
    (fX6_isKind x2 r21.2).bind fun r23 =>
    if r23.1 = 0 then
      some ((-1000000001), r23.2)
    else
      (gP kdC 6 6 a0 r23.2).bind fun a25 =>
      (aP kdC lnC 14 a25 x1 r23.2).bind fun a26 =>
      (gI kdC 4 0 a26 r23.2).bind fun x27 =>
      if x27 = 0 then
        some ((-1000000011), r23.2)
      else
        (gI kdC 4 0 a26 r23.2).bind fun x29 =>
        if x29 = 1 then
          (gP kdC 4 1 a26 r23.2).bind fun a31 =>
          (cV kdC 0 a31 (fX0_isOf a31 x2 r23.2)).bind fun r32 =>
          if r32.1 = 0 then
            some ((-1000000012), r32.2)
          else
            (gP kdC 4 1 a26 r32.2).bind fun a34 =>
            (cV kdC 0 a34 (fX0_worth a34 r32.2)).bind fun r35 =>
            some (r35.1, r35.2)
        else
          some ((-1000000012), r23.2)

set_option maxHeartbeats 4000000 in
set_option maxRecDepth 20000 in
theorem ctX6_ask {B : ctB} {n : Nat} (hB : ctOk B kdC lnC n) {a0 : Nat} {x1 : Int32} {x2 : Int32} {M : ctM} {r : Int32 × ctM} (h : fX6_ask a0 x1 x2 M = some r) : ctC B mX6_ask (2, 0, 0) [.ref a0, .int x1, .int x2] n M (poI r n) := by
  refine ctC_of (by decide) (Nat.le_of_ble_eq_true rfl) ?_
  show ctV B mX6_ask (2, 0, 0) (poI r n) 0 [some (.ref a0), some (.int x1), some (.int x2), none] [] (0, 0) n M
  unfold fX6_ask at h
  refine ct_iload_1 (q := 1) dX6_ask_0 rfl ?_
  obtain ⟨r21, gr21, h⟩ := ob h
  refine ct_cSi1 (q := 4) dX6_ask_1 lk_RX6_267 (by decide) (ctX6_isSlot hB gr21) (Nat.le_of_ble_eq_true rfl) rfl ?_
  refine ct_if_eq (q := 7) (tgt := 14) dX6_ask_4 (by decide) rfl (fun z22 => ?_) (fun z22 => ?_)
  · replace h := it_t h z22
    refine ct_ldc (q := 16) dX6_ask_14 wd_318 rfl ?_
    exact ct_iret dX6_ask_16 rfl ⟨Nat.le_refl 0, Nat.le_refl 0⟩ (poI_of h)
  · replace h := it_f h z22
    refine ct_iload_2 (q := 8) dX6_ask_7 rfl ?_
    obtain ⟨r23, gr23, h⟩ := ob h
    refine ct_cSi1 (q := 11) dX6_ask_8 lk_RX6_64 (by decide) (ctX6_isKind hB gr23) (Nat.le_of_ble_eq_true rfl) rfl ?_
    refine ct_if_ne (q := 14) (tgt := 17) dX6_ask_11 (by decide) rfl (fun z24 => ?_) (fun z24 => ?_)
    · replace h := it_f h z24
      refine ct_aload_0 (q := 18) dX6_ask_17 rfl ?_
      obtain ⟨a25, ga25, h⟩ := ob h
      refine ct_getP (q := 21) hB dX6_ask_18 fl_RX6_21 rfl ga25 rfl ?_
      refine ct_iload_1 (q := 22) dX6_ask_21 rfl ?_
      obtain ⟨a26, ga26, h⟩ := ob h
      refine ct_aald (q := 23) rfl hB dX6_ask_22 ga26 rfl ?_
      refine ct_astore_3 (q := 24) dX6_ask_23 (by decide) rfl rfl ?_
      refine ct_aload_3 (q := 25) dX6_ask_24 rfl ?_
      obtain ⟨x27, gx27, h⟩ := ob h
      refine ct_getI (q := 28) hB dX6_ask_25 fl_RX6_270 rfl gx27 rfl ?_
      refine ct_if_ne (q := 31) (tgt := 34) dX6_ask_28 (by decide) rfl (fun z28 => ?_) (fun z28 => ?_)
      · replace h := it_f h z28
        refine ct_aload_3 (q := 35) dX6_ask_34 rfl ?_
        obtain ⟨x29, gx29, h⟩ := ob h
        refine ct_getI (q := 38) hB dX6_ask_35 fl_RX6_270 rfl gx29 rfl ?_
        refine ct_iconst (v := 1) (q := 39) dX6_ask_38 (by decide) rfl ?_
        refine ct_icmp_ne (q := 42) (tgt := 63) dX6_ask_39 (by decide) rfl (fun z30 => ?_) (fun z30 => ?_)
        · replace h := it_f h z30
          refine ct_ldc (q := 65) dX6_ask_63 wd_398 rfl ?_
          exact ct_iret dX6_ask_65 rfl ⟨Nat.le_refl 0, Nat.le_refl 0⟩ (poI_of h)
        · replace h := it_t h z30
          refine ct_aload_3 (q := 43) dX6_ask_42 rfl ?_
          obtain ⟨a31, ga31, h⟩ := ob h
          refine ct_getP (q := 46) hB dX6_ask_43 fl_RX6_273 rfl ga31 rfl ?_
          refine ct_iload_2 (q := 47) dX6_ask_46 rfl ?_
          obtain ⟨r32, gr32, h⟩ := ob h
          obtain ⟨er32, gr32⟩ := cV_spec gr32
          refine ct_cVi1 (q := 50) hB dX6_ask_47 lk_RX6_125 (by decide) (ctX0_isOf hB gr32) er32 (by decide) rfl (Nat.le_of_ble_eq_true rfl) rfl ?_
          refine ct_if_eq (q := 53) (tgt := 63) dX6_ask_50 (by decide) rfl (fun z33 => ?_) (fun z33 => ?_)
          · replace h := it_t h z33
            refine ct_ldc (q := 65) dX6_ask_63 wd_398 rfl ?_
            exact ct_iret dX6_ask_65 rfl ⟨Nat.le_refl 0, Nat.le_refl 0⟩ (poI_of h)
          · replace h := it_f h z33
            refine ct_aload_3 (q := 54) dX6_ask_53 rfl ?_
            obtain ⟨a34, ga34, h⟩ := ob h
            refine ct_getP (q := 57) hB dX6_ask_54 fl_RX6_273 rfl ga34 rfl ?_
            obtain ⟨r35, gr35, h⟩ := ob h
            obtain ⟨er35, gr35⟩ := cV_spec gr35
            refine ct_cVi0 (q := 60) hB dX6_ask_57 lk_RX6_121 (by decide) (ctX0_worth hB gr35) er35 (by decide) rfl (Nat.le_of_ble_eq_true rfl) rfl ?_
            refine ct_goto (q := 65) dX6_ask_60 (by decide) ?_
            exact ct_iret dX6_ask_65 rfl ⟨Nat.le_refl 0, Nat.le_refl 0⟩ (poI_of h)
      · replace h := it_t h z28
        refine ct_ldc (q := 33) dX6_ask_31 wd_577 rfl ?_
        exact ct_iret dX6_ask_33 rfl ⟨Nat.le_refl 0, Nat.le_refl 0⟩ (poI_of h)
    · replace h := it_t h z24
      refine ct_ldc (q := 16) dX6_ask_14 wd_318 rfl ?_
      exact ct_iret dX6_ask_16 rfl ⟨Nat.le_refl 0, Nat.le_refl 0⟩ (poI_of h)

def fX6_item (a0 : Nat) (x1 : Int32) (x2 : Int32) (M : ctM) : Option (Int32 × ctM) :=
  (fX6_isSlot x1 M).bind fun r21 =>
  if r21.1 = 0 then
    some ((-1000000001), r21.2)
  else
    (gP kdC 6 6 a0 r21.2).bind fun a23 =>
    (aP kdC lnC 14 a23 x1 r21.2).bind fun a24 =>
    (gI kdC 4 0 a24 r21.2).bind fun x25 =>
    if x25 = 0 then
      some ((-1000000011), r21.2)
    else
      (gI kdC 4 0 a24 r21.2).bind fun x27 =>
      if x27 = 2 then
        (gP kdC 4 2 a24 r21.2).bind fun a29 =>
        (cV kdC 3 a29 (fX3_has a29 x2 r21.2)).bind fun r30 =>
        if r30.1 = 0 then
          some ((-1000000013), r30.2)
        else
          (gP kdC 4 2 a24 r30.2).bind fun a32 =>
          (gP kdC 3 2 a32 r30.2).bind fun a33 =>
          (aI kdC lnC 9 a33 x2 r30.2).bind fun x34 =>
          if x34 = (-1000000005) then
            some ((-1000000012), r30.2)
          else
            (gP kdC 4 2 a24 r30.2).bind fun a36 =>
            (gP kdC 3 2 a36 r30.2).bind fun a37 =>
            (aI kdC lnC 9 a37 x2 r30.2).bind fun x38 =>
            some (x38, r30.2)
      else
        some ((-1000000012), r21.2)

set_option maxHeartbeats 4000000 in
set_option maxRecDepth 20000 in
theorem ctX6_item {B : ctB} {n : Nat} (hB : ctOk B kdC lnC n) {a0 : Nat} {x1 : Int32} {x2 : Int32} {M : ctM} {r : Int32 × ctM} (h : fX6_item a0 x1 x2 M = some r) : ctC B mX6_item (2, 0, 0) [.ref a0, .int x1, .int x2] n M (poI r n) := by
  refine ctC_of (by decide) (Nat.le_of_ble_eq_true rfl) ?_
  show ctV B mX6_item (2, 0, 0) (poI r n) 0 [some (.ref a0), some (.int x1), some (.int x2), none] [] (0, 0) n M
  unfold fX6_item at h
  refine ct_iload_1 (q := 1) dX6_item_0 rfl ?_
  obtain ⟨r21, gr21, h⟩ := ob h
  refine ct_cSi1 (q := 4) dX6_item_1 lk_RX6_267 (by decide) (ctX6_isSlot hB gr21) (Nat.le_of_ble_eq_true rfl) rfl ?_
  refine ct_if_ne (q := 7) (tgt := 10) dX6_item_4 (by decide) rfl (fun z22 => ?_) (fun z22 => ?_)
  · replace h := it_f h z22
    refine ct_aload_0 (q := 11) dX6_item_10 rfl ?_
    obtain ⟨a23, ga23, h⟩ := ob h
    refine ct_getP (q := 14) hB dX6_item_11 fl_RX6_21 rfl ga23 rfl ?_
    refine ct_iload_1 (q := 15) dX6_item_14 rfl ?_
    obtain ⟨a24, ga24, h⟩ := ob h
    refine ct_aald (q := 16) rfl hB dX6_item_15 ga24 rfl ?_
    refine ct_astore_3 (q := 17) dX6_item_16 (by decide) rfl rfl ?_
    refine ct_aload_3 (q := 18) dX6_item_17 rfl ?_
    obtain ⟨x25, gx25, h⟩ := ob h
    refine ct_getI (q := 21) hB dX6_item_18 fl_RX6_270 rfl gx25 rfl ?_
    refine ct_if_ne (q := 24) (tgt := 27) dX6_item_21 (by decide) rfl (fun z26 => ?_) (fun z26 => ?_)
    · replace h := it_f h z26
      refine ct_aload_3 (q := 28) dX6_item_27 rfl ?_
      obtain ⟨x27, gx27, h⟩ := ob h
      refine ct_getI (q := 31) hB dX6_item_28 fl_RX6_270 rfl gx27 rfl ?_
      refine ct_iconst (v := 2) (q := 32) dX6_item_31 (by decide) rfl ?_
      refine ct_icmp_eq (q := 35) (tgt := 38) dX6_item_32 (by decide) rfl (fun z28 => ?_) (fun z28 => ?_)
      · replace h := it_t h z28
        refine ct_aload_3 (q := 39) dX6_item_38 rfl ?_
        obtain ⟨a29, ga29, h⟩ := ob h
        refine ct_getP (q := 42) hB dX6_item_39 fl_RX6_280 rfl ga29 rfl ?_
        refine ct_iload_2 (q := 43) dX6_item_42 rfl ?_
        obtain ⟨r30, gr30, h⟩ := ob h
        obtain ⟨er30, gr30⟩ := cV_spec gr30
        refine ct_cVi1 (q := 46) hB dX6_item_43 lk_RX6_249 (by decide) (ctX3_has hB gr30) er30 (by decide) rfl (Nat.le_of_ble_eq_true rfl) rfl ?_
        refine ct_if_ne (q := 49) (tgt := 52) dX6_item_46 (by decide) rfl (fun z31 => ?_) (fun z31 => ?_)
        · replace h := it_f h z31
          refine ct_aload_3 (q := 53) dX6_item_52 rfl ?_
          obtain ⟨a32, ga32, h⟩ := ob h
          refine ct_getP (q := 56) hB dX6_item_53 fl_RX6_280 rfl ga32 rfl ?_
          obtain ⟨a33, ga33, h⟩ := ob h
          refine ct_getP (q := 59) hB dX6_item_56 fl_RX6_217 rfl ga33 rfl ?_
          refine ct_iload_2 (q := 60) dX6_item_59 rfl ?_
          obtain ⟨x34, gx34, h⟩ := ob h
          refine ct_iald (q := 61) hB dX6_item_60 gx34 rfl ?_
          refine ct_ldc (q := 63) dX6_item_61 wd_535 rfl ?_
          refine ct_icmp_ne (q := 66) (tgt := 71) dX6_item_63 (by decide) rfl (fun z35 => ?_) (fun z35 => ?_)
          · replace h := it_f h z35
            refine ct_aload_3 (q := 72) dX6_item_71 rfl ?_
            obtain ⟨a36, ga36, h⟩ := ob h
            refine ct_getP (q := 75) hB dX6_item_72 fl_RX6_280 rfl ga36 rfl ?_
            obtain ⟨a37, ga37, h⟩ := ob h
            refine ct_getP (q := 78) hB dX6_item_75 fl_RX6_217 rfl ga37 rfl ?_
            refine ct_iload_2 (q := 79) dX6_item_78 rfl ?_
            obtain ⟨x38, gx38, h⟩ := ob h
            refine ct_iald (q := 80) hB dX6_item_79 gx38 rfl ?_
            exact ct_iret dX6_item_80 rfl ⟨Nat.le_refl 0, Nat.le_refl 0⟩ (poI_of h)
          · replace h := it_t h z35
            refine ct_ldc (q := 68) dX6_item_66 wd_398 rfl ?_
            refine ct_goto (q := 80) dX6_item_68 (by decide) ?_
            exact ct_iret dX6_item_80 rfl ⟨Nat.le_refl 0, Nat.le_refl 0⟩ (poI_of h)
        · replace h := it_t h z31
          refine ct_ldc (q := 51) dX6_item_49 wd_727 rfl ?_
          exact ct_iret dX6_item_51 rfl ⟨Nat.le_refl 0, Nat.le_refl 0⟩ (poI_of h)
      · replace h := it_f h z28
        refine ct_ldc (q := 37) dX6_item_35 wd_398 rfl ?_
        exact ct_iret dX6_item_37 rfl ⟨Nat.le_refl 0, Nat.le_refl 0⟩ (poI_of h)
    · replace h := it_t h z26
      refine ct_ldc (q := 26) dX6_item_24 wd_577 rfl ?_
      exact ct_iret dX6_item_26 rfl ⟨Nat.le_refl 0, Nat.le_refl 0⟩ (poI_of h)
  · replace h := it_t h z22
    refine ct_ldc (q := 9) dX6_item_7 wd_318 rfl ?_
    exact ct_iret dX6_item_9 rfl ⟨Nat.le_refl 0, Nat.le_refl 0⟩ (poI_of h)

def fX6_rest (a0 : Nat) (x1 : Int32) (x2 : Int32) (M : ctM) : Option (Int32 × ctM) :=
  (fX6_isSlot x1 M).bind fun r21 =>
  if r21.1 = 0 then
    some ((-1000000001), r21.2)
  else
    (gP kdC 6 6 a0 r21.2).bind fun a23 =>
    (aP kdC lnC 14 a23 x1 r21.2).bind fun a24 =>
    (gI kdC 4 0 a24 r21.2).bind fun x25 =>
    if x25 = 0 then
      some ((-1000000011), r21.2)
    else
      (gI kdC 4 0 a24 r21.2).bind fun x27 =>
      if x27 = 3 then
        if x2 = 0 then
          some ((-1000000002), r21.2)
        else
          (gI kdC 4 3 a24 r21.2).bind fun x30 =>
          if x2 = 0 then none else
          some ((x30 % x2), r21.2)
      else
        some ((-1000000012), r21.2)

set_option maxHeartbeats 4000000 in
set_option maxRecDepth 20000 in
theorem ctX6_rest {B : ctB} {n : Nat} (hB : ctOk B kdC lnC n) {a0 : Nat} {x1 : Int32} {x2 : Int32} {M : ctM} {r : Int32 × ctM} (h : fX6_rest a0 x1 x2 M = some r) : ctC B mX6_rest (2, 0, 0) [.ref a0, .int x1, .int x2] n M (poI r n) := by
  refine ctC_of (by decide) (Nat.le_of_ble_eq_true rfl) ?_
  show ctV B mX6_rest (2, 0, 0) (poI r n) 0 [some (.ref a0), some (.int x1), some (.int x2), none] [] (0, 0) n M
  unfold fX6_rest at h
  refine ct_iload_1 (q := 1) dX6_rest_0 rfl ?_
  obtain ⟨r21, gr21, h⟩ := ob h
  refine ct_cSi1 (q := 4) dX6_rest_1 lk_RX6_267 (by decide) (ctX6_isSlot hB gr21) (Nat.le_of_ble_eq_true rfl) rfl ?_
  refine ct_if_ne (q := 7) (tgt := 10) dX6_rest_4 (by decide) rfl (fun z22 => ?_) (fun z22 => ?_)
  · replace h := it_f h z22
    refine ct_aload_0 (q := 11) dX6_rest_10 rfl ?_
    obtain ⟨a23, ga23, h⟩ := ob h
    refine ct_getP (q := 14) hB dX6_rest_11 fl_RX6_21 rfl ga23 rfl ?_
    refine ct_iload_1 (q := 15) dX6_rest_14 rfl ?_
    obtain ⟨a24, ga24, h⟩ := ob h
    refine ct_aald (q := 16) rfl hB dX6_rest_15 ga24 rfl ?_
    refine ct_astore_3 (q := 17) dX6_rest_16 (by decide) rfl rfl ?_
    refine ct_aload_3 (q := 18) dX6_rest_17 rfl ?_
    obtain ⟨x25, gx25, h⟩ := ob h
    refine ct_getI (q := 21) hB dX6_rest_18 fl_RX6_270 rfl gx25 rfl ?_
    refine ct_if_ne (q := 24) (tgt := 27) dX6_rest_21 (by decide) rfl (fun z26 => ?_) (fun z26 => ?_)
    · replace h := it_f h z26
      refine ct_aload_3 (q := 28) dX6_rest_27 rfl ?_
      obtain ⟨x27, gx27, h⟩ := ob h
      refine ct_getI (q := 31) hB dX6_rest_28 fl_RX6_270 rfl gx27 rfl ?_
      refine ct_iconst (v := 3) (q := 32) dX6_rest_31 (by decide) rfl ?_
      refine ct_icmp_eq (q := 35) (tgt := 38) dX6_rest_32 (by decide) rfl (fun z28 => ?_) (fun z28 => ?_)
      · replace h := it_t h z28
        refine ct_iload_2 (q := 39) dX6_rest_38 rfl ?_
        refine ct_if_ne (q := 42) (tgt := 47) dX6_rest_39 (by decide) rfl (fun z29 => ?_) (fun z29 => ?_)
        · replace h := it_f h z29
          refine ct_aload_3 (q := 48) dX6_rest_47 rfl ?_
          obtain ⟨x30, gx30, h⟩ := ob h
          refine ct_getI (q := 51) hB dX6_rest_48 fl_RX6_287 rfl gx30 rfl ?_
          refine ct_iload_2 (q := 52) dX6_rest_51 rfl ?_
          by_cases z31 : x2 = 0
          · exact absurd (it_t h z31) (by simp)
          replace h := it_f h z31
          refine ct_irem (q := 53) dX6_rest_52 z31 rfl ?_
          exact ct_iret dX6_rest_53 rfl ⟨Nat.le_refl 0, Nat.le_refl 0⟩ (poI_of h)
        · replace h := it_t h z29
          refine ct_ldc (q := 44) dX6_rest_42 wd_557 rfl ?_
          refine ct_goto (q := 53) dX6_rest_44 (by decide) ?_
          exact ct_iret dX6_rest_53 rfl ⟨Nat.le_refl 0, Nat.le_refl 0⟩ (poI_of h)
      · replace h := it_f h z28
        refine ct_ldc (q := 37) dX6_rest_35 wd_398 rfl ?_
        exact ct_iret dX6_rest_37 rfl ⟨Nat.le_refl 0, Nat.le_refl 0⟩ (poI_of h)
    · replace h := it_t h z26
      refine ct_ldc (q := 26) dX6_rest_24 wd_577 rfl ?_
      exact ct_iret dX6_rest_26 rfl ⟨Nat.le_refl 0, Nat.le_refl 0⟩ (poI_of h)
  · replace h := it_t h z22
    refine ct_ldc (q := 9) dX6_rest_7 wd_318 rfl ?_
    exact ct_iret dX6_rest_9 rfl ⟨Nat.le_refl 0, Nat.le_refl 0⟩ (poI_of h)

def fX6_tell (a0 : Nat) (x1 : Int32) (M : ctM) : Option (Int32 × ctM) :=
  (gI kdC 6 8 a0 M).bind fun x21 =>
  if x21 < 60 then
    (gP kdC 6 7 a0 M).bind fun a23 =>
    (gI kdC 6 8 a0 M).bind fun x24 =>
    (sI kdC lnC 9 a23 x24 x1 M).bind fun M25 =>
    (gI kdC 6 8 a0 M25).bind fun x26 =>
    (pI kdC 6 8 a0 (x26 + 1) M25).bind fun M27 =>
    (gI kdC 6 8 a0 M27).bind fun x28 =>
    some (x28, M27)
  else
    some ((-1000000003), M)

set_option maxHeartbeats 4000000 in
set_option maxRecDepth 20000 in
theorem ctX6_tell {B : ctB} {n : Nat} (hB : ctOk B kdC lnC n) {a0 : Nat} {x1 : Int32} {M : ctM} {r : Int32 × ctM} (h : fX6_tell a0 x1 M = some r) : ctC B mX6_tell (0, 0, 0) [.ref a0, .int x1] n M (poI r n) := by
  refine ctC_of (by decide) (Nat.le_of_ble_eq_true rfl) ?_
  show ctV B mX6_tell (0, 0, 0) (poI r n) 0 [some (.ref a0), some (.int x1)] [] (0, 0) n M
  unfold fX6_tell at h
  refine ct_aload_0 (q := 1) dX6_tell_0 rfl ?_
  obtain ⟨x21, gx21, h⟩ := ob h
  refine ct_getI (q := 4) hB dX6_tell_1 fl_RX6_29 rfl gx21 rfl ?_
  refine ct_bipush (v := 60) (q := 6) dX6_tell_4 (by decide) rfl ?_
  refine ct_icmp_lt (q := 9) (tgt := 12) dX6_tell_6 (by decide) rfl (fun z22 => ?_) (fun z22 => ?_)
  · replace h := it_t h z22
    refine ct_aload_0 (q := 13) dX6_tell_12 rfl ?_
    obtain ⟨a23, ga23, h⟩ := ob h
    refine ct_getP (q := 16) hB dX6_tell_13 fl_RX6_25 rfl ga23 rfl ?_
    refine ct_aload_0 (q := 17) dX6_tell_16 rfl ?_
    obtain ⟨x24, gx24, h⟩ := ob h
    refine ct_getI (q := 20) hB dX6_tell_17 fl_RX6_29 rfl gx24 rfl ?_
    refine ct_iload_1 (q := 21) dX6_tell_20 rfl ?_
    obtain ⟨M25, gM25, h⟩ := ob h
    refine ct_iast (q := 22) hB dX6_tell_21 gM25 rfl ?_
    refine ct_aload_0 (q := 23) dX6_tell_22 rfl ?_
    refine ct_dup (q := 24) dX6_tell_23 rfl rfl ?_
    obtain ⟨x26, gx26, h⟩ := ob h
    refine ct_getI (q := 27) hB dX6_tell_24 fl_RX6_29 rfl gx26 rfl ?_
    refine ct_iconst (v := 1) (q := 28) dX6_tell_27 (by decide) rfl ?_
    refine ct_iadd (q := 29) dX6_tell_28 rfl ?_
    obtain ⟨M27, gM27, h⟩ := ob h
    refine ct_putI (q := 32) hB dX6_tell_29 fl_RX6_29 rfl rfl (Or.inl rfl) gM27 rfl ?_
    refine ct_aload_0 (q := 33) dX6_tell_32 rfl ?_
    obtain ⟨x28, gx28, h⟩ := ob h
    refine ct_getI (q := 36) hB dX6_tell_33 fl_RX6_29 rfl gx28 rfl ?_
    exact ct_iret dX6_tell_36 rfl ⟨Nat.le_refl 0, Nat.le_refl 0⟩ (poI_of h)
  · replace h := it_f h z22
    refine ct_ldc (q := 11) dX6_tell_9 wd_319 rfl ?_
    exact ct_iret dX6_tell_11 rfl ⟨Nat.le_refl 0, Nat.le_refl 0⟩ (poI_of h)

def fX6_check_b107 (x3 : Int32) (M : ctM) : Option (Int32 × ctM) :=
  some ((x3 + 2), M)

set_option maxHeartbeats 4000000 in
set_option maxRecDepth 20000 in
theorem vX6_check_b107 {B : ctB} {n : Nat} (hB : ctOk B kdC lnC n) : ∀ (x3 : Int32) (M : ctM) (r : Int32 × ctM), fX6_check_b107 x3 M = some r → ctV B mX6_check (6, 0, 0) (poI r n) 107 [none, none, none, some (.int x3), none] [] (0, 0) n M := by
  intro x3 M r h
  unfold fX6_check_b107 at h
  refine ct_iload_3 (q := 108) dX6_check_107 rfl ?_
  refine ct_iconst (v := 2) (q := 109) dX6_check_108 (by decide) rfl ?_
  refine ct_iadd (q := 110) dX6_check_109 rfl ?_
  exact ct_iret dX6_check_110 rfl ⟨Nat.le_refl 0, Nat.le_refl 0⟩ (poI_of h)

def fX6_check_b83 (x3 : Int32) (M : ctM) : Option (Int32 × ctM) :=
  some ((x3 + 1), M)

set_option maxHeartbeats 4000000 in
set_option maxRecDepth 20000 in
theorem vX6_check_b83 {B : ctB} {n : Nat} (hB : ctOk B kdC lnC n) : ∀ (x3 : Int32) (M : ctM) (r : Int32 × ctM), fX6_check_b83 x3 M = some r → ctV B mX6_check (6, 0, 0) (poI r n) 83 [none, none, none, some (.int x3), none] [] (0, 0) n M := by
  intro x3 M r h
  unfold fX6_check_b83 at h
  refine ct_iload_3 (q := 84) dX6_check_83 rfl ?_
  refine ct_iconst (v := 1) (q := 85) dX6_check_84 (by decide) rfl ?_
  refine ct_iadd (q := 86) dX6_check_85 rfl ?_
  exact ct_iret dX6_check_86 rfl ⟨Nat.le_refl 0, Nat.le_refl 0⟩ (poI_of h)

def fX6_check_h46 : Nat → Nat → Int32 → Int32 → Int32 → ctM → Option (Int32 × ctM)
  | 0, _, _, _, _, _ => none
  | N + 1, a0, x1, x2, x3, M =>
    if (2 * x1) ≤ x3 then
      if x2 = (2 * x1) then
        some (0, M)
      else
        some (((2 * x1) + 1), M)
    else
      (gP kdC 6 2 a0 M).bind fun a23 =>
      (cV kdC 2 a23 (fX2_goBy a23 M)).bind fun r24 =>
      if x2 ≤ x3 then
        fX6_check_b83 x3 r24.2
      else
        (gP kdC 6 7 a0 r24.2).bind fun a26 =>
        (aI kdC lnC 9 a26 x3 r24.2).bind fun x27 =>
        (gP kdC 6 2 a0 r24.2).bind fun a28 =>
        (cV kdC 2 a28 (fX2_arc a28 r24.2)).bind fun r29 =>
        if x27 = r29.1 then
          if x2 ≤ (x3 + 1) then
            fX6_check_b107 x3 r29.2
          else
            (gP kdC 6 7 a0 r29.2).bind fun a32 =>
            (aI kdC lnC 9 a32 (x3 + 1) r29.2).bind fun x33 =>
            if x33 = r24.1 then
              fX6_check_h46 N a0 x1 x2 (x3 + 2) r29.2
            else
              fX6_check_b107 x3 r29.2
        else
          fX6_check_b83 x3 r29.2

set_option maxHeartbeats 4000000 in
set_option maxRecDepth 20000 in
theorem vX6_check_h46 {B : ctB} {n : Nat} (hB : ctOk B kdC lnC n) : ∀ (N : Nat) (a0 : Nat) (x1 : Int32) (x2 : Int32) (x3 : Int32) (M : ctM) (r : Int32 × ctM), fX6_check_h46 N a0 x1 x2 x3 M = some r → ctV B mX6_check (6, 0, 0) (poI r n) 46 [some (.ref a0), some (.int x1), some (.int x2), some (.int x3), none] [] (0, 0) n M := by
  intro N
  induction N with
  | zero => intro a0 x1 x2 x3 M r h; exact absurd h (by simp [fX6_check_h46])
  | succ N ih =>
    intro a0 x1 x2 x3 M r h
    rw [fX6_check_h46] at h
    refine ct_iload_3 (q := 47) dX6_check_46 rfl ?_
    refine ct_iconst (v := 2) (q := 48) dX6_check_47 (by decide) rfl ?_
    refine ct_iload_1 (q := 49) dX6_check_48 rfl ?_
    refine ct_imul (q := 50) dX6_check_49 rfl ?_
    refine ct_icmp_ge (q := 53) (tgt := 117) dX6_check_50 (by decide) rfl (fun z21 => ?_) (fun z21 => ?_)
    · replace h := it_t h z21
      refine ct_iload_2 (q := 118) dX6_check_117 rfl ?_
      refine ct_iconst (v := 2) (q := 119) dX6_check_118 (by decide) rfl ?_
      refine ct_iload_1 (q := 120) dX6_check_119 rfl ?_
      refine ct_imul (q := 121) dX6_check_120 rfl ?_
      refine ct_icmp_ne (q := 124) (tgt := 128) dX6_check_121 (by decide) rfl (fun z22 => ?_) (fun z22 => ?_)
      · replace h := it_f h z22
        refine ct_iconst (v := 2) (q := 129) dX6_check_128 (by decide) rfl ?_
        refine ct_iload_1 (q := 130) dX6_check_129 rfl ?_
        refine ct_imul (q := 131) dX6_check_130 rfl ?_
        refine ct_iconst (v := 1) (q := 132) dX6_check_131 (by decide) rfl ?_
        refine ct_iadd (q := 133) dX6_check_132 rfl ?_
        exact ct_iret dX6_check_133 rfl ⟨Nat.le_refl 0, Nat.le_refl 0⟩ (poI_of h)
      · replace h := it_t h z22
        refine ct_iconst (v := 0) (q := 125) dX6_check_124 (by decide) rfl ?_
        refine ct_goto (q := 133) dX6_check_125 (by decide) ?_
        exact ct_iret dX6_check_133 rfl ⟨Nat.le_refl 0, Nat.le_refl 0⟩ (poI_of h)
    · replace h := it_f h z21
      refine ct_aload_0 (q := 54) dX6_check_53 rfl ?_
      obtain ⟨a23, ga23, h⟩ := ob h
      refine ct_getP (q := 57) hB dX6_check_54 fl_RX6_56 rfl ga23 rfl ?_
      obtain ⟨r24, gr24, h⟩ := ob h
      obtain ⟨er24, gr24⟩ := cV_spec gr24
      refine ct_cVi0 (q := 60) hB dX6_check_57 lk_RX6_167 (by decide) (ctX2_goBy hB gr24) er24 (by decide) rfl (Nat.le_of_ble_eq_true rfl) rfl ?_
      refine ct_istore_4 (q := 62) dX6_check_60 (by decide) rfl rfl ?_
      refine ct_iload_3 (q := 63) dX6_check_62 rfl ?_
      refine ct_iload_2 (q := 64) dX6_check_63 rfl ?_
      refine ct_icmp_ge (q := 67) (tgt := 83) dX6_check_64 (by decide) rfl (fun z25 => ?_) (fun z25 => ?_)
      · replace h := it_t h z25
        exact ct_lessK (vX6_check_b83 hB  x3 r24.2 r h) (And.intro rfl (trivial))
      · replace h := it_f h z25
        refine ct_aload_0 (q := 68) dX6_check_67 rfl ?_
        obtain ⟨a26, ga26, h⟩ := ob h
        refine ct_getP (q := 71) hB dX6_check_68 fl_RX6_25 rfl ga26 rfl ?_
        refine ct_iload_3 (q := 72) dX6_check_71 rfl ?_
        obtain ⟨x27, gx27, h⟩ := ob h
        refine ct_iald (q := 73) hB dX6_check_72 gx27 rfl ?_
        refine ct_aload_0 (q := 74) dX6_check_73 rfl ?_
        obtain ⟨a28, ga28, h⟩ := ob h
        refine ct_getP (q := 77) hB dX6_check_74 fl_RX6_56 rfl ga28 rfl ?_
        obtain ⟨r29, gr29, h⟩ := ob h
        obtain ⟨er29, gr29⟩ := cV_spec gr29
        refine ct_cVi0 (q := 80) hB dX6_check_77 lk_RX6_170 (by decide) (ctX2_arc hB gr29) er29 (by decide) rfl (Nat.le_of_ble_eq_true rfl) rfl ?_
        refine ct_icmp_eq (q := 83) (tgt := 87) dX6_check_80 (by decide) rfl (fun z30 => ?_) (fun z30 => ?_)
        · replace h := it_t h z30
          refine ct_iload_3 (q := 88) dX6_check_87 rfl ?_
          refine ct_iconst (v := 1) (q := 89) dX6_check_88 (by decide) rfl ?_
          refine ct_iadd (q := 90) dX6_check_89 rfl ?_
          refine ct_iload_2 (q := 91) dX6_check_90 rfl ?_
          refine ct_icmp_ge (q := 94) (tgt := 107) dX6_check_91 (by decide) rfl (fun z31 => ?_) (fun z31 => ?_)
          · replace h := it_t h z31
            exact ct_lessK (vX6_check_b107 hB  x3 r29.2 r h) (And.intro rfl (trivial))
          · replace h := it_f h z31
            refine ct_aload_0 (q := 95) dX6_check_94 rfl ?_
            obtain ⟨a32, ga32, h⟩ := ob h
            refine ct_getP (q := 98) hB dX6_check_95 fl_RX6_25 rfl ga32 rfl ?_
            refine ct_iload_3 (q := 99) dX6_check_98 rfl ?_
            refine ct_iconst (v := 1) (q := 100) dX6_check_99 (by decide) rfl ?_
            refine ct_iadd (q := 101) dX6_check_100 rfl ?_
            obtain ⟨x33, gx33, h⟩ := ob h
            refine ct_iald (q := 102) hB dX6_check_101 gx33 rfl ?_
            refine ct_iload_4 (q := 104) dX6_check_102 rfl ?_
            refine ct_icmp_eq (q := 107) (tgt := 111) dX6_check_104 (by decide) rfl (fun z34 => ?_) (fun z34 => ?_)
            · replace h := it_t h z34
              refine ct_iinc_3 (q := 114) (v := x3 + 2) dX6_check_111 (by first | rfl | decide) (by decide) rfl rfl ?_
              refine ct_goto (q := 46) dX6_check_114 (by decide) ?_
              exact ct_lessK (ih a0 x1 x2 (x3 + 2) r29.2 r h) (And.intro rfl (And.intro rfl (And.intro rfl (And.intro rfl (trivial)))))
            · replace h := it_f h z34
              exact ct_lessK (vX6_check_b107 hB  x3 r29.2 r h) (And.intro rfl (trivial))
        · replace h := it_f h z30
          exact ct_lessK (vX6_check_b83 hB  x3 r29.2 r h) (And.intro rfl (trivial))

def fX6_check (a0 : Nat) (x1 : Int32) (M : ctM) : Option (Int32 × ctM) :=
  (gI kdC 6 8 a0 M).bind fun x21 =>
  (pI kdC 6 8 a0 0 M).bind fun M22 =>
  (fX6_isWithin x1 1 30 M22).bind fun r23 =>
  if r23.1 = 0 then
    some ((-1000000001), r23.2)
  else
    (gI kdC 6 4 a0 r23.2).bind fun x25 =>
    if x25 = 0 then
      some ((-1000000002), r23.2)
    else
      (gP kdC 6 2 a0 r23.2).bind fun a27 =>
      (gP kdC 6 3 a0 r23.2).bind fun a28 =>
      (cV kdC 2 a27 (fX2_become a27 a28 r23.2)).bind fun r29 =>
      fX6_check_h46 4000 a0 x1 x21 0 r29

set_option maxHeartbeats 4000000 in
set_option maxRecDepth 20000 in
theorem ctX6_check {B : ctB} {n : Nat} (hB : ctOk B kdC lnC n) {a0 : Nat} {x1 : Int32} {M : ctM} {r : Int32 × ctM} (h : fX6_check a0 x1 M = some r) : ctC B mX6_check (6, 0, 0) [.ref a0, .int x1] n M (poI r n) := by
  refine ctC_of (by decide) (Nat.le_of_ble_eq_true rfl) ?_
  show ctV B mX6_check (6, 0, 0) (poI r n) 0 [some (.ref a0), some (.int x1), none, none, none] [] (0, 0) n M
  unfold fX6_check at h
  refine ct_aload_0 (q := 1) dX6_check_0 rfl ?_
  obtain ⟨x21, gx21, h⟩ := ob h
  refine ct_getI (q := 4) hB dX6_check_1 fl_RX6_29 rfl gx21 rfl ?_
  refine ct_istore_2 (q := 5) dX6_check_4 (by decide) rfl rfl ?_
  refine ct_aload_0 (q := 6) dX6_check_5 rfl ?_
  refine ct_iconst (v := 0) (q := 7) dX6_check_6 (by decide) rfl ?_
  obtain ⟨M22, gM22, h⟩ := ob h
  refine ct_putI (q := 10) hB dX6_check_7 fl_RX6_29 rfl rfl (Or.inl rfl) gM22 rfl ?_
  refine ct_iload_1 (q := 11) dX6_check_10 rfl ?_
  refine ct_iconst (v := 1) (q := 12) dX6_check_11 (by decide) rfl ?_
  refine ct_bipush (v := 30) (q := 14) dX6_check_12 (by decide) rfl ?_
  obtain ⟨r23, gr23, h⟩ := ob h
  refine ct_cSi3 (q := 17) dX6_check_14 lk_RX6_71 (by decide) (ctX6_isWithin hB gr23) (Nat.le_of_ble_eq_true rfl) rfl ?_
  refine ct_if_ne (q := 20) (tgt := 23) dX6_check_17 (by decide) rfl (fun z24 => ?_) (fun z24 => ?_)
  · replace h := it_f h z24
    refine ct_aload_0 (q := 24) dX6_check_23 rfl ?_
    obtain ⟨x25, gx25, h⟩ := ob h
    refine ct_getI (q := 27) hB dX6_check_24 fl_RX6_7 rfl gx25 rfl ?_
    refine ct_if_ne (q := 30) (tgt := 33) dX6_check_27 (by decide) rfl (fun z26 => ?_) (fun z26 => ?_)
    · replace h := it_f h z26
      refine ct_aload_0 (q := 34) dX6_check_33 rfl ?_
      obtain ⟨a27, ga27, h⟩ := ob h
      refine ct_getP (q := 37) hB dX6_check_34 fl_RX6_56 rfl ga27 rfl ?_
      refine ct_aload_0 (q := 38) dX6_check_37 rfl ?_
      obtain ⟨a28, ga28, h⟩ := ob h
      refine ct_getP (q := 41) hB dX6_check_38 fl_RX6_59 rfl ga28 rfl ?_
      obtain ⟨r29, gr29, h⟩ := ob h
      obtain ⟨er29, gr29⟩ := cV_spec gr29
      refine ct_cVv1 (q := 44) hB dX6_check_41 lk_RX6_176 (by decide) (ctX2_become hB gr29) er29 (by decide) rfl (Nat.le_of_ble_eq_true rfl) rfl ?_
      refine ct_iconst (v := 0) (q := 45) dX6_check_44 (by decide) rfl ?_
      refine ct_istore_3 (q := 46) dX6_check_45 (by decide) rfl rfl ?_
      exact ct_lessK (vX6_check_h46 hB  4000 a0 x1 x21 0 r29 r h) (And.intro rfl (And.intro rfl (And.intro rfl (And.intro rfl (trivial)))))
    · replace h := it_t h z26
      refine ct_ldc (q := 32) dX6_check_30 wd_557 rfl ?_
      exact ct_iret dX6_check_32 rfl ⟨Nat.le_refl 0, Nat.le_refl 0⟩ (poI_of h)
  · replace h := it_t h z24
    refine ct_ldc (q := 22) dX6_check_20 wd_318 rfl ?_
    exact ct_iret dX6_check_22 rfl ⟨Nat.le_refl 0, Nat.le_refl 0⟩ (poI_of h)

def fX6_keep (a0 : Nat) (M : ctM) : Option (Int32 × ctM) :=
  (gP kdC 6 3 a0 M).bind fun a21 =>
  (gP kdC 6 1 a0 M).bind fun a22 =>
  (cV kdC 2 a21 (fX2_become a21 a22 M)).bind fun r23 =>
  (pI kdC 6 4 a0 1 r23).bind fun M24 =>
  (gP kdC 6 1 a0 M24).bind fun a25 =>
  (gI kdC 2 5 a25 M24).bind fun x26 =>
  some (x26, M24)

set_option maxHeartbeats 4000000 in
set_option maxRecDepth 20000 in
theorem ctX6_keep {B : ctB} {n : Nat} (hB : ctOk B kdC lnC n) {a0 : Nat} {M : ctM} {r : Int32 × ctM} (h : fX6_keep a0 M = some r) : ctC B mX6_keep (2, 0, 0) [.ref a0] n M (poI r n) := by
  refine ctC_of (by decide) (Nat.le_of_ble_eq_true rfl) ?_
  show ctV B mX6_keep (2, 0, 0) (poI r n) 0 [some (.ref a0)] [] (0, 0) n M
  unfold fX6_keep at h
  refine ct_aload_0 (q := 1) dX6_keep_0 rfl ?_
  obtain ⟨a21, ga21, h⟩ := ob h
  refine ct_getP (q := 4) hB dX6_keep_1 fl_RX6_59 rfl ga21 rfl ?_
  refine ct_aload_0 (q := 5) dX6_keep_4 rfl ?_
  obtain ⟨a22, ga22, h⟩ := ob h
  refine ct_getP (q := 8) hB dX6_keep_5 fl_RX6_52 rfl ga22 rfl ?_
  obtain ⟨r23, gr23, h⟩ := ob h
  obtain ⟨er23, gr23⟩ := cV_spec gr23
  refine ct_cVv1 (q := 11) hB dX6_keep_8 lk_RX6_176 (by decide) (ctX2_become hB gr23) er23 (by decide) rfl (Nat.le_of_ble_eq_true rfl) rfl ?_
  refine ct_aload_0 (q := 12) dX6_keep_11 rfl ?_
  refine ct_iconst (v := 1) (q := 13) dX6_keep_12 (by decide) rfl ?_
  obtain ⟨M24, gM24, h⟩ := ob h
  refine ct_putI (q := 16) hB dX6_keep_13 fl_RX6_7 rfl rfl (Or.inr ⟨rfl, by decide⟩) gM24 rfl ?_
  refine ct_aload_0 (q := 17) dX6_keep_16 rfl ?_
  obtain ⟨a25, ga25, h⟩ := ob h
  refine ct_getP (q := 20) hB dX6_keep_17 fl_RX6_52 rfl ga25 rfl ?_
  obtain ⟨x26, gx26, h⟩ := ob h
  refine ct_getI (q := 23) hB dX6_keep_20 fl_RX6_76 rfl gx26 rfl ?_
  exact ct_iret dX6_keep_23 rfl ⟨Nat.le_refl 0, Nat.le_refl 0⟩ (poI_of h)

def fX6_back (a0 : Nat) (M : ctM) : Option (Int32 × ctM) :=
  (gI kdC 6 4 a0 M).bind fun x21 =>
  if x21 = 0 then
    some ((-1000000002), M)
  else
    (gP kdC 6 1 a0 M).bind fun a23 =>
    (gP kdC 6 3 a0 M).bind fun a24 =>
    (cV kdC 2 a23 (fX2_become a23 a24 M)).bind fun r25 =>
    (gP kdC 6 1 a0 r25).bind fun a26 =>
    (gI kdC 2 5 a26 r25).bind fun x27 =>
    some (x27, r25)

set_option maxHeartbeats 4000000 in
set_option maxRecDepth 20000 in
theorem ctX6_back {B : ctB} {n : Nat} (hB : ctOk B kdC lnC n) {a0 : Nat} {M : ctM} {r : Int32 × ctM} (h : fX6_back a0 M = some r) : ctC B mX6_back (2, 0, 0) [.ref a0] n M (poI r n) := by
  refine ctC_of (by decide) (Nat.le_of_ble_eq_true rfl) ?_
  show ctV B mX6_back (2, 0, 0) (poI r n) 0 [some (.ref a0)] [] (0, 0) n M
  unfold fX6_back at h
  refine ct_aload_0 (q := 1) dX6_back_0 rfl ?_
  obtain ⟨x21, gx21, h⟩ := ob h
  refine ct_getI (q := 4) hB dX6_back_1 fl_RX6_7 rfl gx21 rfl ?_
  refine ct_if_ne (q := 7) (tgt := 10) dX6_back_4 (by decide) rfl (fun z22 => ?_) (fun z22 => ?_)
  · replace h := it_f h z22
    refine ct_aload_0 (q := 11) dX6_back_10 rfl ?_
    obtain ⟨a23, ga23, h⟩ := ob h
    refine ct_getP (q := 14) hB dX6_back_11 fl_RX6_52 rfl ga23 rfl ?_
    refine ct_aload_0 (q := 15) dX6_back_14 rfl ?_
    obtain ⟨a24, ga24, h⟩ := ob h
    refine ct_getP (q := 18) hB dX6_back_15 fl_RX6_59 rfl ga24 rfl ?_
    obtain ⟨r25, gr25, h⟩ := ob h
    obtain ⟨er25, gr25⟩ := cV_spec gr25
    refine ct_cVv1 (q := 21) hB dX6_back_18 lk_RX6_176 (by decide) (ctX2_become hB gr25) er25 (by decide) rfl (Nat.le_of_ble_eq_true rfl) rfl ?_
    refine ct_aload_0 (q := 22) dX6_back_21 rfl ?_
    obtain ⟨a26, ga26, h⟩ := ob h
    refine ct_getP (q := 25) hB dX6_back_22 fl_RX6_52 rfl ga26 rfl ?_
    obtain ⟨x27, gx27, h⟩ := ob h
    refine ct_getI (q := 28) hB dX6_back_25 fl_RX6_76 rfl gx27 rfl ?_
    exact ct_iret dX6_back_28 rfl ⟨Nat.le_refl 0, Nat.le_refl 0⟩ (poI_of h)
  · replace h := it_t h z22
    refine ct_ldc (q := 9) dX6_back_7 wd_557 rfl ?_
    exact ct_iret dX6_back_9 rfl ⟨Nat.le_refl 0, Nat.le_refl 0⟩ (poI_of h)

def fX6_count (a0 : Nat) (x1 : Int32) (M : ctM) : Option (Int32 × ctM) :=
  if x1 = 0 then
    (gP kdC 6 1 a0 M).bind fun a22 =>
    (gI kdC 2 5 a22 M).bind fun x23 =>
    some (x23, M)
  else
  if x1 = 1 then
    (gP kdC 6 1 a0 M).bind fun a25 =>
    (cV kdC 2 a25 (fX2_litMany a25 M)).bind fun r26 =>
    some (r26.1, r26.2)
  else
  if x1 = 2 then
    (gP kdC 6 1 a0 M).bind fun a28 =>
    (gI kdC 2 8 a28 M).bind fun x29 =>
    some (x29, M)
  else
  if x1 = 3 then
    (gP kdC 6 1 a0 M).bind fun a31 =>
    (gI kdC 2 6 a31 M).bind fun x32 =>
    some (x32, M)
  else
  if x1 = 4 then
    (gP kdC 6 1 a0 M).bind fun a34 =>
    (gI kdC 2 7 a34 M).bind fun x35 =>
    some (x35, M)
  else
  if x1 = 5 then
    (gP kdC 6 1 a0 M).bind fun a37 =>
    (gI kdC 2 10 a37 M).bind fun x38 =>
    some (x38, M)
  else
  if x1 = 6 then
    (gI kdC 6 8 a0 M).bind fun x40 =>
    some (x40, M)
  else
  if x1 = 7 then
    (gP kdC 6 9 a0 M).bind fun a42 =>
    (gI kdC 5 1 a42 M).bind fun x43 =>
    some (x43, M)
  else
  if x1 = 8 then
    (gP kdC 6 1 a0 M).bind fun a45 =>
    (gI kdC 2 9 a45 M).bind fun x46 =>
    some (x46, M)
  else
    some ((-1000000001), M)

set_option maxHeartbeats 4000000 in
set_option maxRecDepth 20000 in
theorem ctX6_count {B : ctB} {n : Nat} (hB : ctOk B kdC lnC n) {a0 : Nat} {x1 : Int32} {M : ctM} {r : Int32 × ctM} (h : fX6_count a0 x1 M = some r) : ctC B mX6_count (2, 0, 0) [.ref a0, .int x1] n M (poI r n) := by
  refine ctC_of (by decide) (Nat.le_of_ble_eq_true rfl) ?_
  show ctV B mX6_count (2, 0, 0) (poI r n) 0 [some (.ref a0), some (.int x1)] [] (0, 0) n M
  unfold fX6_count at h
  refine ct_iload_1 (q := 1) dX6_count_0 rfl ?_
  by_cases z21 : x1 = 0
  · replace h := it_t h z21
    refine ct_tsw (q := 52) 0 z21 dX6_count_1 (by decide) (by decide) rfl (by decide) ?_
    refine ct_aload_0 (q := 53) dX6_count_52 rfl ?_
    obtain ⟨a22, ga22, h⟩ := ob h
    refine ct_getP (q := 56) hB dX6_count_53 fl_RX6_52 rfl ga22 rfl ?_
    obtain ⟨x23, gx23, h⟩ := ob h
    refine ct_getI (q := 59) hB dX6_count_56 fl_RX6_76 rfl gx23 rfl ?_
    exact ct_iret dX6_count_59 rfl ⟨Nat.le_refl 0, Nat.le_refl 0⟩ (poI_of h)
  replace h := it_f h z21
  by_cases z24 : x1 = 1
  · replace h := it_t h z24
    refine ct_tsw (q := 60) 1 z24 dX6_count_1 (by decide) (by decide) rfl (by decide) ?_
    refine ct_aload_0 (q := 61) dX6_count_60 rfl ?_
    obtain ⟨a25, ga25, h⟩ := ob h
    refine ct_getP (q := 64) hB dX6_count_61 fl_RX6_52 rfl ga25 rfl ?_
    obtain ⟨r26, gr26, h⟩ := ob h
    obtain ⟨er26, gr26⟩ := cV_spec gr26
    refine ct_cVi0 (q := 67) hB dX6_count_64 lk_RX6_288 (by decide) (ctX2_litMany hB gr26) er26 (by decide) rfl (Nat.le_of_ble_eq_true rfl) rfl ?_
    exact ct_iret dX6_count_67 rfl ⟨Nat.le_refl 0, Nat.le_refl 0⟩ (poI_of h)
  replace h := it_f h z24
  by_cases z27 : x1 = 2
  · replace h := it_t h z27
    refine ct_tsw (q := 68) 2 z27 dX6_count_1 (by decide) (by decide) rfl (by decide) ?_
    refine ct_aload_0 (q := 69) dX6_count_68 rfl ?_
    obtain ⟨a28, ga28, h⟩ := ob h
    refine ct_getP (q := 72) hB dX6_count_69 fl_RX6_52 rfl ga28 rfl ?_
    obtain ⟨x29, gx29, h⟩ := ob h
    refine ct_getI (q := 75) hB dX6_count_72 fl_RX6_291 rfl gx29 rfl ?_
    exact ct_iret dX6_count_75 rfl ⟨Nat.le_refl 0, Nat.le_refl 0⟩ (poI_of h)
  replace h := it_f h z27
  by_cases z30 : x1 = 3
  · replace h := it_t h z30
    refine ct_tsw (q := 76) 3 z30 dX6_count_1 (by decide) (by decide) rfl (by decide) ?_
    refine ct_aload_0 (q := 77) dX6_count_76 rfl ?_
    obtain ⟨a31, ga31, h⟩ := ob h
    refine ct_getP (q := 80) hB dX6_count_77 fl_RX6_52 rfl ga31 rfl ?_
    obtain ⟨x32, gx32, h⟩ := ob h
    refine ct_getI (q := 83) hB dX6_count_80 fl_RX6_147 rfl gx32 rfl ?_
    exact ct_iret dX6_count_83 rfl ⟨Nat.le_refl 0, Nat.le_refl 0⟩ (poI_of h)
  replace h := it_f h z30
  by_cases z33 : x1 = 4
  · replace h := it_t h z33
    refine ct_tsw (q := 84) 4 z33 dX6_count_1 (by decide) (by decide) rfl (by decide) ?_
    refine ct_aload_0 (q := 85) dX6_count_84 rfl ?_
    obtain ⟨a34, ga34, h⟩ := ob h
    refine ct_getP (q := 88) hB dX6_count_85 fl_RX6_52 rfl ga34 rfl ?_
    obtain ⟨x35, gx35, h⟩ := ob h
    refine ct_getI (q := 91) hB dX6_count_88 fl_RX6_150 rfl gx35 rfl ?_
    exact ct_iret dX6_count_91 rfl ⟨Nat.le_refl 0, Nat.le_refl 0⟩ (poI_of h)
  replace h := it_f h z33
  by_cases z36 : x1 = 5
  · replace h := it_t h z36
    refine ct_tsw (q := 92) 5 z36 dX6_count_1 (by decide) (by decide) rfl (by decide) ?_
    refine ct_aload_0 (q := 93) dX6_count_92 rfl ?_
    obtain ⟨a37, ga37, h⟩ := ob h
    refine ct_getP (q := 96) hB dX6_count_93 fl_RX6_52 rfl ga37 rfl ?_
    obtain ⟨x38, gx38, h⟩ := ob h
    refine ct_getI (q := 99) hB dX6_count_96 fl_RX6_228 rfl gx38 rfl ?_
    exact ct_iret dX6_count_99 rfl ⟨Nat.le_refl 0, Nat.le_refl 0⟩ (poI_of h)
  replace h := it_f h z36
  by_cases z39 : x1 = 6
  · replace h := it_t h z39
    refine ct_tsw (q := 100) 6 z39 dX6_count_1 (by decide) (by decide) rfl (by decide) ?_
    refine ct_aload_0 (q := 101) dX6_count_100 rfl ?_
    obtain ⟨x40, gx40, h⟩ := ob h
    refine ct_getI (q := 104) hB dX6_count_101 fl_RX6_29 rfl gx40 rfl ?_
    exact ct_iret dX6_count_104 rfl ⟨Nat.le_refl 0, Nat.le_refl 0⟩ (poI_of h)
  replace h := it_f h z39
  by_cases z41 : x1 = 7
  · replace h := it_t h z41
    refine ct_tsw (q := 105) 7 z41 dX6_count_1 (by decide) (by decide) rfl (by decide) ?_
    refine ct_aload_0 (q := 106) dX6_count_105 rfl ?_
    obtain ⟨a42, ga42, h⟩ := ob h
    refine ct_getP (q := 109) hB dX6_count_106 fl_RX6_36 rfl ga42 rfl ?_
    obtain ⟨x43, gx43, h⟩ := ob h
    refine ct_getI (q := 112) hB dX6_count_109 fl_RX6_220 rfl gx43 rfl ?_
    exact ct_iret dX6_count_112 rfl ⟨Nat.le_refl 0, Nat.le_refl 0⟩ (poI_of h)
  replace h := it_f h z41
  by_cases z44 : x1 = 8
  · replace h := it_t h z44
    refine ct_tsw (q := 113) 8 z44 dX6_count_1 (by decide) (by decide) rfl (by decide) ?_
    refine ct_aload_0 (q := 114) dX6_count_113 rfl ?_
    obtain ⟨a45, ga45, h⟩ := ob h
    refine ct_getP (q := 117) hB dX6_count_114 fl_RX6_52 rfl ga45 rfl ?_
    obtain ⟨x46, gx46, h⟩ := ob h
    refine ct_getI (q := 120) hB dX6_count_117 fl_RX6_164 rfl gx46 rfl ?_
    exact ct_iret dX6_count_120 rfl ⟨Nat.le_refl 0, Nat.le_refl 0⟩ (poI_of h)
  replace h := it_f h z44
  refine ct_tswD (q := 121) dX6_count_1 (by have := And.intro (lv_neT z21 (show Int32.toInt (0) = 0 by decide)) trivial; have y0 := lv_neT z21 (show Int32.toInt (0) = 0 by decide); have y1 := lv_neT z24 (show Int32.toInt (1) = 1 by decide); have y2 := lv_neT z27 (show Int32.toInt (2) = 2 by decide); have y3 := lv_neT z30 (show Int32.toInt (3) = 3 by decide); have y4 := lv_neT z33 (show Int32.toInt (4) = 4 by decide); have y5 := lv_neT z36 (show Int32.toInt (5) = 5 by decide); have y6 := lv_neT z39 (show Int32.toInt (6) = 6 by decide); have y7 := lv_neT z41 (show Int32.toInt (7) = 7 by decide); have y8 := lv_neT z44 (show Int32.toInt (8) = 8 by decide); omega) (by decide) ?_
  refine ct_ldc (q := 123) dX6_count_121 wd_318 rfl ?_
  exact ct_iret dX6_count_123 rfl ⟨Nat.le_refl 0, Nat.le_refl 0⟩ (poI_of h)

