def fX7_isIn (x0 : Int64) (x2 : Int64) (x4 : Int64) (M : ctM) : Option (Int32 × ctM) :=
  if (lg_cmp x0 x2) < 0 then
    some (0, M)
  else
    if 0 < (lg_cmp x0 x4) then
      some (0, M)
    else
      some (1, M)

set_option maxHeartbeats 4000000 in
set_option maxRecDepth 20000 in
theorem ctX7_isIn {B : ctB} {n : Nat} (hB : ctOk B kdM lnM n) {x0 : Int64} {x2 : Int64} {x4 : Int64} {M : ctM} {r : Int32 × ctM} (h : fX7_isIn x0 x2 x4 M = some r) : ctC B mX7_isIn (0, 0, 0) [.long x0, .long x2, .long x4] n M (poI r n) := by
  refine ctC_of (by decide) (Nat.le_of_ble_eq_true rfl) ?_
  show ctV B mX7_isIn (0, 0, 0) (poI r n) 0 [some (.long x0), none, some (.long x2), none, some (.long x4), none] [] (0, 0) n M
  unfold fX7_isIn at h
  refine ct_lload_0 (q := 1) dX7_isIn_0 rfl ?_
  refine ct_lload_2 (q := 2) dX7_isIn_1 rfl ?_
  refine ct_lcmp (q := 3) dX7_isIn_2 rfl ?_
  refine ct_if_lt (q := 6) (tgt := 17) dX7_isIn_3 (by decide) rfl (fun z21 => ?_) (fun z21 => ?_)
  · replace h := it_t h z21
    refine ct_iconst (v := 0) (q := 18) dX7_isIn_17 (by decide) rfl ?_
    exact ct_zret dX7_isIn_18 rfl (by decide) ⟨Nat.le_refl 0, Nat.le_refl 0⟩ (poI_of h)
  · replace h := it_f h z21
    refine ct_lload_0 (q := 7) dX7_isIn_6 rfl ?_
    refine ct_lload_4 (q := 9) dX7_isIn_7 rfl ?_
    refine ct_lcmp (q := 10) dX7_isIn_9 rfl ?_
    refine ct_if_gt (q := 13) (tgt := 17) dX7_isIn_10 (by decide) rfl (fun z22 => ?_) (fun z22 => ?_)
    · replace h := it_t h z22
      refine ct_iconst (v := 0) (q := 18) dX7_isIn_17 (by decide) rfl ?_
      exact ct_zret dX7_isIn_18 rfl (by decide) ⟨Nat.le_refl 0, Nat.le_refl 0⟩ (poI_of h)
    · replace h := it_f h z22
      refine ct_iconst (v := 1) (q := 14) dX7_isIn_13 (by decide) rfl ?_
      refine ct_goto (q := 18) dX7_isIn_14 (by decide) ?_
      exact ct_zret dX7_isIn_18 rfl (by decide) ⟨Nat.le_refl 0, Nat.le_refl 0⟩ (poI_of h)

def fX7_orNone (x0 : Int32) (M : ctM) : Option (Int32 × ctM) :=
  if 0 ≤ x0 then
    some (x0, M)
  else
    some ((-1000000005), M)

set_option maxHeartbeats 4000000 in
set_option maxRecDepth 20000 in
theorem ctX7_orNone {B : ctB} {n : Nat} (hB : ctOk B kdM lnM n) {x0 : Int32} {M : ctM} {r : Int32 × ctM} (h : fX7_orNone x0 M = some r) : ctC B mX7_orNone (0, 0, 0) [.int x0] n M (poI r n) := by
  refine ctC_of (by decide) (Nat.le_of_ble_eq_true rfl) ?_
  show ctV B mX7_orNone (0, 0, 0) (poI r n) 0 [some (.int x0)] [] (0, 0) n M
  unfold fX7_orNone at h
  refine ct_iload_0 (q := 1) dX7_orNone_0 rfl ?_
  refine ct_if_ge (q := 4) (tgt := 9) dX7_orNone_1 (by decide) rfl (fun z21 => ?_) (fun z21 => ?_)
  · replace h := it_t h z21
    refine ct_iload_0 (q := 10) dX7_orNone_9 rfl ?_
    exact ct_iret dX7_orNone_10 rfl ⟨Nat.le_refl 0, Nat.le_refl 0⟩ (poI_of h)
  · replace h := it_f h z21
    refine ct_ldc (q := 6) dX7_orNone_4 wd_1073 rfl ?_
    refine ct_goto (q := 10) dX7_orNone_6 (by decide) ?_
    exact ct_iret dX7_orNone_10 rfl ⟨Nat.le_refl 0, Nat.le_refl 0⟩ (poI_of h)

def fX7_within (x0 : Int32) (x1 : Int32) (x2 : Int32) (M : ctM) : Option (Int32 × ctM) :=
  if x1 ≤ x0 then
    if x0 ≤ x2 then
      some (x0, M)
    else
      some (x2, M)
  else
    some (x1, M)

set_option maxHeartbeats 4000000 in
set_option maxRecDepth 20000 in
theorem ctX7_within {B : ctB} {n : Nat} (hB : ctOk B kdM lnM n) {x0 : Int32} {x1 : Int32} {x2 : Int32} {M : ctM} {r : Int32 × ctM} (h : fX7_within x0 x1 x2 M = some r) : ctC B mX7_within (0, 0, 0) [.int x0, .int x1, .int x2] n M (poI r n) := by
  refine ctC_of (by decide) (Nat.le_of_ble_eq_true rfl) ?_
  show ctV B mX7_within (0, 0, 0) (poI r n) 0 [some (.int x0), some (.int x1), some (.int x2)] [] (0, 0) n M
  unfold fX7_within at h
  refine ct_iload_0 (q := 1) dX7_within_0 rfl ?_
  refine ct_iload_1 (q := 2) dX7_within_1 rfl ?_
  refine ct_icmp_ge (q := 5) (tgt := 9) dX7_within_2 (by decide) rfl (fun z21 => ?_) (fun z21 => ?_)
  · replace h := it_t h z21
    refine ct_iload_0 (q := 10) dX7_within_9 rfl ?_
    refine ct_iload_2 (q := 11) dX7_within_10 rfl ?_
    refine ct_icmp_le (q := 14) (tgt := 18) dX7_within_11 (by decide) rfl (fun z22 => ?_) (fun z22 => ?_)
    · replace h := it_t h z22
      refine ct_iload_0 (q := 19) dX7_within_18 rfl ?_
      exact ct_iret dX7_within_19 rfl ⟨Nat.le_refl 0, Nat.le_refl 0⟩ (poI_of h)
    · replace h := it_f h z22
      refine ct_iload_2 (q := 15) dX7_within_14 rfl ?_
      refine ct_goto (q := 19) dX7_within_15 (by decide) ?_
      exact ct_iret dX7_within_19 rfl ⟨Nat.le_refl 0, Nat.le_refl 0⟩ (poI_of h)
  · replace h := it_f h z21
    refine ct_iload_1 (q := 6) dX7_within_5 rfl ?_
    refine ct_goto (q := 19) dX7_within_6 (by decide) ?_
    exact ct_iret dX7_within_19 rfl ⟨Nat.le_refl 0, Nat.le_refl 0⟩ (poI_of h)

def fX7_becomes (a0 : Nat) (x1 : Int32) (x2 : Int32) (M : ctM) : Option (Int32 × ctM) :=
  (gP kdM 7 0 a0 M).bind fun a21 =>
  (aI kdM lnM 9 a21 x1 M).bind fun x22 =>
  (gP kdM 7 0 a0 M).bind fun a23 =>
  (sI kdM lnM 9 a23 x1 x2 M).bind fun M24 =>
  some (x22, M24)

set_option maxHeartbeats 4000000 in
set_option maxRecDepth 20000 in
theorem ctX7_becomes {B : ctB} {n : Nat} (hB : ctOk B kdM lnM n) {a0 : Nat} {x1 : Int32} {x2 : Int32} {M : ctM} {r : Int32 × ctM} (h : fX7_becomes a0 x1 x2 M = some r) : ctC B mX7_becomes (0, 0, 0) [.ref a0, .int x1, .int x2] n M (poI r n) := by
  refine ctC_of (by decide) (Nat.le_of_ble_eq_true rfl) ?_
  show ctV B mX7_becomes (0, 0, 0) (poI r n) 0 [some (.ref a0), some (.int x1), some (.int x2), none] [] (0, 0) n M
  unfold fX7_becomes at h
  refine ct_aload_0 (q := 1) dX7_becomes_0 rfl ?_
  obtain ⟨a21, ga21, h⟩ := ob h
  refine ct_getP (q := 4) hB dX7_becomes_1 fl_RX7_7 rfl ga21 rfl ?_
  refine ct_iload_1 (q := 5) dX7_becomes_4 rfl ?_
  obtain ⟨x22, gx22, h⟩ := ob h
  refine ct_iald (q := 6) hB dX7_becomes_5 gx22 rfl ?_
  refine ct_istore_3 (q := 7) dX7_becomes_6 (by decide) rfl rfl ?_
  refine ct_aload_0 (q := 8) dX7_becomes_7 rfl ?_
  obtain ⟨a23, ga23, h⟩ := ob h
  refine ct_getP (q := 11) hB dX7_becomes_8 fl_RX7_7 rfl ga23 rfl ?_
  refine ct_iload_1 (q := 12) dX7_becomes_11 rfl ?_
  refine ct_iload_2 (q := 13) dX7_becomes_12 rfl ?_
  obtain ⟨M24, gM24, h⟩ := ob h
  refine ct_iast (q := 14) hB dX7_becomes_13 gM24 rfl ?_
  refine ct_iload_3 (q := 15) dX7_becomes_14 rfl ?_
  exact ct_iret dX7_becomes_15 rfl ⟨Nat.le_refl 0, Nat.le_refl 0⟩ (poI_of h)

def fX7_flameAt (a0 : Nat) (x1 : Int32) (M : ctM) : Option (Int32 × ctM) :=
  some ((14 + (7 * x1)), M)

set_option maxHeartbeats 4000000 in
set_option maxRecDepth 20000 in
theorem ctX7_flameAt {B : ctB} {n : Nat} (hB : ctOk B kdM lnM n) {a0 : Nat} {x1 : Int32} {M : ctM} {r : Int32 × ctM} (h : fX7_flameAt a0 x1 M = some r) : ctC B mX7_flameAt (0, 0, 0) [.ref a0, .int x1] n M (poI r n) := by
  refine ctC_of (by decide) (Nat.le_of_ble_eq_true rfl) ?_
  show ctV B mX7_flameAt (0, 0, 0) (poI r n) 0 [some (.ref a0), some (.int x1)] [] (0, 0) n M
  unfold fX7_flameAt at h
  refine ct_bipush (v := 14) (q := 2) dX7_flameAt_0 (by decide) rfl ?_
  refine ct_bipush (v := 7) (q := 4) dX7_flameAt_2 (by decide) rfl ?_
  refine ct_iload_1 (q := 5) dX7_flameAt_4 rfl ?_
  refine ct_imul (q := 6) dX7_flameAt_5 rfl ?_
  refine ct_iadd (q := 7) dX7_flameAt_6 rfl ?_
  exact ct_iret dX7_flameAt_7 rfl ⟨Nat.le_refl 0, Nat.le_refl 0⟩ (poI_of h)

def fX7_textAt (a0 : Nat) (x1 : Int32) (M : ctM) : Option (Int32 × ctM) :=
  some ((70 + (200 * x1)), M)

set_option maxHeartbeats 4000000 in
set_option maxRecDepth 20000 in
theorem ctX7_textAt {B : ctB} {n : Nat} (hB : ctOk B kdM lnM n) {a0 : Nat} {x1 : Int32} {M : ctM} {r : Int32 × ctM} (h : fX7_textAt a0 x1 M = some r) : ctC B mX7_textAt (0, 0, 0) [.ref a0, .int x1] n M (poI r n) := by
  refine ctC_of (by decide) (Nat.le_of_ble_eq_true rfl) ?_
  show ctV B mX7_textAt (0, 0, 0) (poI r n) 0 [some (.ref a0), some (.int x1)] [] (0, 0) n M
  unfold fX7_textAt at h
  refine ct_bipush (v := 70) (q := 2) dX7_textAt_0 (by decide) rfl ?_
  refine ct_sipush (v := 200) (q := 5) dX7_textAt_2 (by decide) rfl ?_
  refine ct_iload_1 (q := 6) dX7_textAt_5 rfl ?_
  refine ct_imul (q := 7) dX7_textAt_6 rfl ?_
  refine ct_iadd (q := 8) dX7_textAt_7 rfl ?_
  exact ct_iret dX7_textAt_8 rfl ⟨Nat.le_refl 0, Nat.le_refl 0⟩ (poI_of h)

def fX7_of (a0 : Nat) (x1 : Int32) (x2 : Int32) (M : ctM) : Option (Int32 × ctM) :=
  (gP kdM 7 0 a0 M).bind fun a21 =>
  (cV kdM 7 a0 (fX7_flameAt a0 x1 M)).bind fun r22 =>
  (aI kdM lnM 9 a21 (r22.1 + x2) r22.2).bind fun x23 =>
  some (x23, r22.2)

set_option maxHeartbeats 4000000 in
set_option maxRecDepth 20000 in
theorem ctX7_of {B : ctB} {n : Nat} (hB : ctOk B kdM lnM n) {a0 : Nat} {x1 : Int32} {x2 : Int32} {M : ctM} {r : Int32 × ctM} (h : fX7_of a0 x1 x2 M = some r) : ctC B mX7_of (1, 0, 0) [.ref a0, .int x1, .int x2] n M (poI r n) := by
  refine ctC_of (by decide) (Nat.le_of_ble_eq_true rfl) ?_
  show ctV B mX7_of (1, 0, 0) (poI r n) 0 [some (.ref a0), some (.int x1), some (.int x2)] [] (0, 0) n M
  unfold fX7_of at h
  refine ct_aload_0 (q := 1) dX7_of_0 rfl ?_
  obtain ⟨a21, ga21, h⟩ := ob h
  refine ct_getP (q := 4) hB dX7_of_1 fl_RX7_7 rfl ga21 rfl ?_
  refine ct_aload_0 (q := 5) dX7_of_4 rfl ?_
  refine ct_iload_1 (q := 6) dX7_of_5 rfl ?_
  obtain ⟨r22, gr22, h⟩ := ob h
  obtain ⟨er22, gr22⟩ := cV_spec gr22
  refine ct_cVi1 (q := 9) hB dX7_of_6 lk_RX7_72 (by decide) (ctX7_flameAt hB gr22) er22 (by decide) rfl (Nat.le_of_ble_eq_true rfl) rfl ?_
  refine ct_iload_2 (q := 10) dX7_of_9 rfl ?_
  refine ct_iadd (q := 11) dX7_of_10 rfl ?_
  obtain ⟨x23, gx23, h⟩ := ob h
  refine ct_iald (q := 12) hB dX7_of_11 gx23 rfl ?_
  exact ct_iret dX7_of_12 rfl ⟨Nat.le_refl 0, Nat.le_refl 0⟩ (poI_of h)

def fX7_isFlame (a0 : Nat) (x1 : Int32) (M : ctM) : Option (Int32 × ctM) :=
  (gP kdM 7 0 a0 M).bind fun a21 =>
  (aI kdM lnM 9 a21 0 M).bind fun x22 =>
  (fX7_isIn ((x1 : Int32).toInt64) 0 (((x22 - 1) : Int32).toInt64) M).bind fun r23 =>
  if r23.1 = 0 ∨ r23.1 = 1 then some (r23.1, r23.2) else none

set_option maxHeartbeats 4000000 in
set_option maxRecDepth 20000 in
theorem ctX7_isFlame {B : ctB} {n : Nat} (hB : ctOk B kdM lnM n) {a0 : Nat} {x1 : Int32} {M : ctM} {r : Int32 × ctM} (h : fX7_isFlame a0 x1 M = some r) : ctC B mX7_isFlame (1, 0, 0) [.ref a0, .int x1] n M (poI r n) := by
  refine ctC_of (by decide) (Nat.le_of_ble_eq_true rfl) ?_
  show ctV B mX7_isFlame (1, 0, 0) (poI r n) 0 [some (.ref a0), some (.int x1)] [] (0, 0) n M
  unfold fX7_isFlame at h
  refine ct_iload_1 (q := 1) dX7_isFlame_0 rfl ?_
  refine ct_i2l (q := 2) dX7_isFlame_1 rfl ?_
  refine ct_lconst (v := 0) (q := 3) dX7_isFlame_2 (by decide) rfl ?_
  refine ct_aload_0 (q := 4) dX7_isFlame_3 rfl ?_
  obtain ⟨a21, ga21, h⟩ := ob h
  refine ct_getP (q := 7) hB dX7_isFlame_4 fl_RX7_7 rfl ga21 rfl ?_
  refine ct_iconst (v := 0) (q := 8) dX7_isFlame_7 (by decide) rfl ?_
  obtain ⟨x22, gx22, h⟩ := ob h
  refine ct_iald (q := 9) hB dX7_isFlame_8 gx22 rfl ?_
  refine ct_iconst (v := 1) (q := 10) dX7_isFlame_9 (by decide) rfl ?_
  refine ct_isub (q := 11) dX7_isFlame_10 rfl ?_
  refine ct_i2l (q := 12) dX7_isFlame_11 rfl ?_
  obtain ⟨r23, gr23, h⟩ := ob h
  refine ct_cSi3 (q := 15) dX7_isFlame_12 lk_RX7_76 (by decide) (ctX7_isIn hB gr23) (Nat.le_of_ble_eq_true rfl) rfl ?_
  by_cases z24 : r23.1 = 0 ∨ r23.1 = 1
  · exact ct_zret dX7_isFlame_15 rfl z24 ⟨Nat.le_refl 0, Nat.le_refl 0⟩ (poI_of (it_t h z24))
  · exact absurd (it_f h z24) (by simp)

def fX7_isText (a0 : Nat) (x1 : Int32) (M : ctM) : Option (Int32 × ctM) :=
  (gP kdM 7 0 a0 M).bind fun a21 =>
  (aI kdM lnM 9 a21 1 M).bind fun x22 =>
  (fX7_isIn ((x1 : Int32).toInt64) 0 (((x22 - 1) : Int32).toInt64) M).bind fun r23 =>
  if r23.1 = 0 ∨ r23.1 = 1 then some (r23.1, r23.2) else none

set_option maxHeartbeats 4000000 in
set_option maxRecDepth 20000 in
theorem ctX7_isText {B : ctB} {n : Nat} (hB : ctOk B kdM lnM n) {a0 : Nat} {x1 : Int32} {M : ctM} {r : Int32 × ctM} (h : fX7_isText a0 x1 M = some r) : ctC B mX7_isText (1, 0, 0) [.ref a0, .int x1] n M (poI r n) := by
  refine ctC_of (by decide) (Nat.le_of_ble_eq_true rfl) ?_
  show ctV B mX7_isText (1, 0, 0) (poI r n) 0 [some (.ref a0), some (.int x1)] [] (0, 0) n M
  unfold fX7_isText at h
  refine ct_iload_1 (q := 1) dX7_isText_0 rfl ?_
  refine ct_i2l (q := 2) dX7_isText_1 rfl ?_
  refine ct_lconst (v := 0) (q := 3) dX7_isText_2 (by decide) rfl ?_
  refine ct_aload_0 (q := 4) dX7_isText_3 rfl ?_
  obtain ⟨a21, ga21, h⟩ := ob h
  refine ct_getP (q := 7) hB dX7_isText_4 fl_RX7_7 rfl ga21 rfl ?_
  refine ct_iconst (v := 1) (q := 8) dX7_isText_7 (by decide) rfl ?_
  obtain ⟨x22, gx22, h⟩ := ob h
  refine ct_iald (q := 9) hB dX7_isText_8 gx22 rfl ?_
  refine ct_iconst (v := 1) (q := 10) dX7_isText_9 (by decide) rfl ?_
  refine ct_isub (q := 11) dX7_isText_10 rfl ?_
  refine ct_i2l (q := 12) dX7_isText_11 rfl ?_
  obtain ⟨r23, gr23, h⟩ := ob h
  refine ct_cSi3 (q := 15) dX7_isText_12 lk_RX7_76 (by decide) (ctX7_isIn hB gr23) (Nat.le_of_ble_eq_true rfl) rfl ?_
  by_cases z24 : r23.1 = 0 ∨ r23.1 = 1
  · exact ct_zret dX7_isText_15 rfl z24 ⟨Nat.le_refl 0, Nat.le_refl 0⟩ (poI_of (it_t h z24))
  · exact absurd (it_f h z24) (by simp)

def fX7_isLit (a0 : Nat) (x1 : Int32) (M : ctM) : Option (Int32 × ctM) :=
  (cV kdM 7 a0 (fX7_of a0 x1 5 M)).bind fun r21 =>
  if r21.1 ≤ 0 then
    some (0, r21.2)
  else
    some (1, r21.2)

set_option maxHeartbeats 4000000 in
set_option maxRecDepth 20000 in
theorem ctX7_isLit {B : ctB} {n : Nat} (hB : ctOk B kdM lnM n) {a0 : Nat} {x1 : Int32} {M : ctM} {r : Int32 × ctM} (h : fX7_isLit a0 x1 M = some r) : ctC B mX7_isLit (2, 0, 0) [.ref a0, .int x1] n M (poI r n) := by
  refine ctC_of (by decide) (Nat.le_of_ble_eq_true rfl) ?_
  show ctV B mX7_isLit (2, 0, 0) (poI r n) 0 [some (.ref a0), some (.int x1)] [] (0, 0) n M
  unfold fX7_isLit at h
  refine ct_aload_0 (q := 1) dX7_isLit_0 rfl ?_
  refine ct_iload_1 (q := 2) dX7_isLit_1 rfl ?_
  refine ct_iconst (v := 5) (q := 3) dX7_isLit_2 (by decide) rfl ?_
  obtain ⟨r21, gr21, h⟩ := ob h
  obtain ⟨er21, gr21⟩ := cV_spec gr21
  refine ct_cVi2 (q := 6) hB dX7_isLit_3 lk_RX7_80 (by decide) (ctX7_of hB gr21) er21 (by decide) rfl (Nat.le_of_ble_eq_true rfl) rfl ?_
  refine ct_if_le (q := 9) (tgt := 13) dX7_isLit_6 (by decide) rfl (fun z22 => ?_) (fun z22 => ?_)
  · replace h := it_t h z22
    refine ct_iconst (v := 0) (q := 14) dX7_isLit_13 (by decide) rfl ?_
    exact ct_zret dX7_isLit_14 rfl (by decide) ⟨Nat.le_refl 0, Nat.le_refl 0⟩ (poI_of h)
  · replace h := it_f h z22
    refine ct_iconst (v := 1) (q := 10) dX7_isLit_9 (by decide) rfl ?_
    refine ct_goto (q := 14) dX7_isLit_10 (by decide) ?_
    exact ct_zret dX7_isLit_14 rfl (by decide) ⟨Nat.le_refl 0, Nat.le_refl 0⟩ (poI_of h)

def fX7_drawn (a0 : Nat) (M : ctM) : Option (Int32 × ctM) :=
  (gP kdM 7 0 a0 M).bind fun a21 =>
  (gP kdM 7 0 a0 M).bind fun a22 =>
  (aI kdM lnM 9 a22 5 M).bind fun x23 =>
  (sI kdM lnM 9 a21 5 ((x23 * 1103515245) + 12345) M).bind fun M24 =>
  (gP kdM 7 0 a0 M24).bind fun a25 =>
  (aI kdM lnM 9 a25 5 M24).bind fun x26 =>
  some (((x26 : Int32).toUInt32 >>> ((8 : Int32).toUInt32 &&& Int32.toUInt32 31)).toInt32, M24)

set_option maxHeartbeats 4000000 in
set_option maxRecDepth 20000 in
theorem ctX7_drawn {B : ctB} {n : Nat} (hB : ctOk B kdM lnM n) {a0 : Nat} {M : ctM} {r : Int32 × ctM} (h : fX7_drawn a0 M = some r) : ctC B mX7_drawn (0, 0, 0) [.ref a0] n M (poI r n) := by
  refine ctC_of (by decide) (Nat.le_of_ble_eq_true rfl) ?_
  show ctV B mX7_drawn (0, 0, 0) (poI r n) 0 [some (.ref a0)] [] (0, 0) n M
  unfold fX7_drawn at h
  refine ct_aload_0 (q := 1) dX7_drawn_0 rfl ?_
  obtain ⟨a21, ga21, h⟩ := ob h
  refine ct_getP (q := 4) hB dX7_drawn_1 fl_RX7_7 rfl ga21 rfl ?_
  refine ct_iconst (v := 5) (q := 5) dX7_drawn_4 (by decide) rfl ?_
  refine ct_aload_0 (q := 6) dX7_drawn_5 rfl ?_
  obtain ⟨a22, ga22, h⟩ := ob h
  refine ct_getP (q := 9) hB dX7_drawn_6 fl_RX7_7 rfl ga22 rfl ?_
  refine ct_iconst (v := 5) (q := 10) dX7_drawn_9 (by decide) rfl ?_
  obtain ⟨x23, gx23, h⟩ := ob h
  refine ct_iald (q := 11) hB dX7_drawn_10 gx23 rfl ?_
  refine ct_ldc (q := 13) dX7_drawn_11 wd_1034 rfl ?_
  refine ct_imul (q := 14) dX7_drawn_13 rfl ?_
  refine ct_sipush (v := 12345) (q := 17) dX7_drawn_14 (by decide) rfl ?_
  refine ct_iadd (q := 18) dX7_drawn_17 rfl ?_
  obtain ⟨M24, gM24, h⟩ := ob h
  refine ct_iast (q := 19) hB dX7_drawn_18 gM24 rfl ?_
  refine ct_aload_0 (q := 20) dX7_drawn_19 rfl ?_
  obtain ⟨a25, ga25, h⟩ := ob h
  refine ct_getP (q := 23) hB dX7_drawn_20 fl_RX7_7 rfl ga25 rfl ?_
  refine ct_iconst (v := 5) (q := 24) dX7_drawn_23 (by decide) rfl ?_
  obtain ⟨x26, gx26, h⟩ := ob h
  refine ct_iald (q := 25) hB dX7_drawn_24 gx26 rfl ?_
  refine ct_bipush (v := 8) (q := 27) dX7_drawn_25 (by decide) rfl ?_
  refine ct_iushr (q := 28) dX7_drawn_27 rfl ?_
  exact ct_iret dX7_drawn_28 rfl ⟨Nat.le_refl 0, Nat.le_refl 0⟩ (poI_of h)

def fX7_isPlace (x0 : Int32) (M : ctM) : Option (Int32 × ctM) :=
  if x0 < 0 then
    some (0, M)
  else
    if 30 ≤ (x0 / 100) then
      some (0, M)
    else
      if 30 ≤ (x0 % 100) then
        some (0, M)
      else
        some (1, M)

set_option maxHeartbeats 4000000 in
set_option maxRecDepth 20000 in
theorem ctX7_isPlace {B : ctB} {n : Nat} (hB : ctOk B kdM lnM n) {x0 : Int32} {M : ctM} {r : Int32 × ctM} (h : fX7_isPlace x0 M = some r) : ctC B mX7_isPlace (0, 0, 0) [.int x0] n M (poI r n) := by
  refine ctC_of (by decide) (Nat.le_of_ble_eq_true rfl) ?_
  show ctV B mX7_isPlace (0, 0, 0) (poI r n) 0 [some (.int x0)] [] (0, 0) n M
  unfold fX7_isPlace at h
  refine ct_iload_0 (q := 1) dX7_isPlace_0 rfl ?_
  refine ct_if_lt (q := 4) (tgt := 26) dX7_isPlace_1 (by decide) rfl (fun z21 => ?_) (fun z21 => ?_)
  · replace h := it_t h z21
    refine ct_iconst (v := 0) (q := 27) dX7_isPlace_26 (by decide) rfl ?_
    exact ct_zret dX7_isPlace_27 rfl (by decide) ⟨Nat.le_refl 0, Nat.le_refl 0⟩ (poI_of h)
  · replace h := it_f h z21
    refine ct_iload_0 (q := 5) dX7_isPlace_4 rfl ?_
    refine ct_bipush (v := 100) (q := 7) dX7_isPlace_5 (by decide) rfl ?_
    refine ct_idiv (q := 8) dX7_isPlace_7 (by decide) rfl ?_
    refine ct_bipush (v := 30) (q := 10) dX7_isPlace_8 (by decide) rfl ?_
    refine ct_icmp_ge (q := 13) (tgt := 26) dX7_isPlace_10 (by decide) rfl (fun z22 => ?_) (fun z22 => ?_)
    · replace h := it_t h z22
      refine ct_iconst (v := 0) (q := 27) dX7_isPlace_26 (by decide) rfl ?_
      exact ct_zret dX7_isPlace_27 rfl (by decide) ⟨Nat.le_refl 0, Nat.le_refl 0⟩ (poI_of h)
    · replace h := it_f h z22
      refine ct_iload_0 (q := 14) dX7_isPlace_13 rfl ?_
      refine ct_bipush (v := 100) (q := 16) dX7_isPlace_14 (by decide) rfl ?_
      refine ct_irem (q := 17) dX7_isPlace_16 (by decide) rfl ?_
      refine ct_bipush (v := 30) (q := 19) dX7_isPlace_17 (by decide) rfl ?_
      refine ct_icmp_ge (q := 22) (tgt := 26) dX7_isPlace_19 (by decide) rfl (fun z23 => ?_) (fun z23 => ?_)
      · replace h := it_t h z23
        refine ct_iconst (v := 0) (q := 27) dX7_isPlace_26 (by decide) rfl ?_
        exact ct_zret dX7_isPlace_27 rfl (by decide) ⟨Nat.le_refl 0, Nat.le_refl 0⟩ (poI_of h)
      · replace h := it_f h z23
        refine ct_iconst (v := 1) (q := 23) dX7_isPlace_22 (by decide) rfl ?_
        refine ct_goto (q := 27) dX7_isPlace_23 (by decide) ?_
        exact ct_zret dX7_isPlace_27 rfl (by decide) ⟨Nat.le_refl 0, Nat.le_refl 0⟩ (poI_of h)

def fX7_comes (a0 : Nat) (x1 : Int32) (x2 : Int32) (x3 : Int32) (x4 : Int32) (x5 : Int32) (M : ctM) : Option (ctM) :=
  (gP kdM 7 0 a0 M).bind fun a21 =>
  (aI kdM lnM 9 a21 0 M).bind fun x22 =>
  (cV kdM 7 a0 (fX7_flameAt a0 x22 M)).bind fun r23 =>
  (gP kdM 7 0 a0 r23.2).bind fun a24 =>
  (sI kdM lnM 9 a24 r23.1 x1 r23.2).bind fun M25 =>
  (gP kdM 7 0 a0 M25).bind fun a26 =>
  (sI kdM lnM 9 a26 (r23.1 + 1) x2 M25).bind fun M27 =>
  (gP kdM 7 0 a0 M27).bind fun a28 =>
  (sI kdM lnM 9 a28 (r23.1 + 2) x3 M27).bind fun M29 =>
  (gP kdM 7 0 a0 M29).bind fun a30 =>
  (sI kdM lnM 9 a30 (r23.1 + 3) x4 M29).bind fun M31 =>
  (gP kdM 7 0 a0 M31).bind fun a32 =>
  (sI kdM lnM 9 a32 (r23.1 + 4) x5 M31).bind fun M33 =>
  (gP kdM 7 0 a0 M33).bind fun a34 =>
  (sI kdM lnM 9 a34 (r23.1 + 5) 999 M33).bind fun M35 =>
  (gP kdM 7 0 a0 M35).bind fun a36 =>
  (sI kdM lnM 9 a36 (r23.1 + 6) 0 M35).bind fun M37 =>
  (gP kdM 7 0 a0 M37).bind fun a38 =>
  (gP kdM 7 0 a0 M37).bind fun a39 =>
  (aI kdM lnM 9 a39 0 M37).bind fun x40 =>
  (sI kdM lnM 9 a38 (6 + x40) 0 M37).bind fun M41 =>
  (gP kdM 7 0 a0 M41).bind fun a42 =>
  (aI kdM lnM 9 a42 0 M41).bind fun x43 =>
  (sI kdM lnM 9 a42 0 (x43 + 1) M41).bind fun M44 =>
  some M44

set_option maxHeartbeats 4000000 in
set_option maxRecDepth 20000 in
theorem ctX7_comes {B : ctB} {n : Nat} (hB : ctOk B kdM lnM n) {a0 : Nat} {x1 : Int32} {x2 : Int32} {x3 : Int32} {x4 : Int32} {x5 : Int32} {M : ctM} {r : ctM} (h : fX7_comes a0 x1 x2 x3 x4 x5 M = some r) : ctC B mX7_comes (1, 0, 0) [.ref a0, .int x1, .int x2, .int x3, .int x4, .int x5] n M (poV r n) := by
  refine ctC_of (by decide) (Nat.le_of_ble_eq_true rfl) ?_
  show ctV B mX7_comes (1, 0, 0) (poV r n) 0 [some (.ref a0), some (.int x1), some (.int x2), some (.int x3), some (.int x4), some (.int x5), none] [] (0, 0) n M
  unfold fX7_comes at h
  refine ct_aload_0 (q := 1) dX7_comes_0 rfl ?_
  refine ct_aload_0 (q := 2) dX7_comes_1 rfl ?_
  obtain ⟨a21, ga21, h⟩ := ob h
  refine ct_getP (q := 5) hB dX7_comes_2 fl_RX7_7 rfl ga21 rfl ?_
  refine ct_iconst (v := 0) (q := 6) dX7_comes_5 (by decide) rfl ?_
  obtain ⟨x22, gx22, h⟩ := ob h
  refine ct_iald (q := 7) hB dX7_comes_6 gx22 rfl ?_
  obtain ⟨r23, gr23, h⟩ := ob h
  obtain ⟨er23, gr23⟩ := cV_spec gr23
  refine ct_cVi1 (q := 10) hB dX7_comes_7 lk_RX7_72 (by decide) (ctX7_flameAt hB gr23) er23 (by decide) rfl (Nat.le_of_ble_eq_true rfl) rfl ?_
  refine ct_istore_6 (q := 12) dX7_comes_10 (by decide) rfl rfl ?_
  refine ct_aload_0 (q := 13) dX7_comes_12 rfl ?_
  obtain ⟨a24, ga24, h⟩ := ob h
  refine ct_getP (q := 16) hB dX7_comes_13 fl_RX7_7 rfl ga24 rfl ?_
  refine ct_iload_6 (q := 18) dX7_comes_16 rfl ?_
  refine ct_iload_1 (q := 19) dX7_comes_18 rfl ?_
  obtain ⟨M25, gM25, h⟩ := ob h
  refine ct_iast (q := 20) hB dX7_comes_19 gM25 rfl ?_
  refine ct_aload_0 (q := 21) dX7_comes_20 rfl ?_
  obtain ⟨a26, ga26, h⟩ := ob h
  refine ct_getP (q := 24) hB dX7_comes_21 fl_RX7_7 rfl ga26 rfl ?_
  refine ct_iload_6 (q := 26) dX7_comes_24 rfl ?_
  refine ct_iconst (v := 1) (q := 27) dX7_comes_26 (by decide) rfl ?_
  refine ct_iadd (q := 28) dX7_comes_27 rfl ?_
  refine ct_iload_2 (q := 29) dX7_comes_28 rfl ?_
  obtain ⟨M27, gM27, h⟩ := ob h
  refine ct_iast (q := 30) hB dX7_comes_29 gM27 rfl ?_
  refine ct_aload_0 (q := 31) dX7_comes_30 rfl ?_
  obtain ⟨a28, ga28, h⟩ := ob h
  refine ct_getP (q := 34) hB dX7_comes_31 fl_RX7_7 rfl ga28 rfl ?_
  refine ct_iload_6 (q := 36) dX7_comes_34 rfl ?_
  refine ct_iconst (v := 2) (q := 37) dX7_comes_36 (by decide) rfl ?_
  refine ct_iadd (q := 38) dX7_comes_37 rfl ?_
  refine ct_iload_3 (q := 39) dX7_comes_38 rfl ?_
  obtain ⟨M29, gM29, h⟩ := ob h
  refine ct_iast (q := 40) hB dX7_comes_39 gM29 rfl ?_
  refine ct_aload_0 (q := 41) dX7_comes_40 rfl ?_
  obtain ⟨a30, ga30, h⟩ := ob h
  refine ct_getP (q := 44) hB dX7_comes_41 fl_RX7_7 rfl ga30 rfl ?_
  refine ct_iload_6 (q := 46) dX7_comes_44 rfl ?_
  refine ct_iconst (v := 3) (q := 47) dX7_comes_46 (by decide) rfl ?_
  refine ct_iadd (q := 48) dX7_comes_47 rfl ?_
  refine ct_iload_4 (q := 50) dX7_comes_48 rfl ?_
  obtain ⟨M31, gM31, h⟩ := ob h
  refine ct_iast (q := 51) hB dX7_comes_50 gM31 rfl ?_
  refine ct_aload_0 (q := 52) dX7_comes_51 rfl ?_
  obtain ⟨a32, ga32, h⟩ := ob h
  refine ct_getP (q := 55) hB dX7_comes_52 fl_RX7_7 rfl ga32 rfl ?_
  refine ct_iload_6 (q := 57) dX7_comes_55 rfl ?_
  refine ct_iconst (v := 4) (q := 58) dX7_comes_57 (by decide) rfl ?_
  refine ct_iadd (q := 59) dX7_comes_58 rfl ?_
  refine ct_iload_5 (q := 61) dX7_comes_59 rfl ?_
  obtain ⟨M33, gM33, h⟩ := ob h
  refine ct_iast (q := 62) hB dX7_comes_61 gM33 rfl ?_
  refine ct_aload_0 (q := 63) dX7_comes_62 rfl ?_
  obtain ⟨a34, ga34, h⟩ := ob h
  refine ct_getP (q := 66) hB dX7_comes_63 fl_RX7_7 rfl ga34 rfl ?_
  refine ct_iload_6 (q := 68) dX7_comes_66 rfl ?_
  refine ct_iconst (v := 5) (q := 69) dX7_comes_68 (by decide) rfl ?_
  refine ct_iadd (q := 70) dX7_comes_69 rfl ?_
  refine ct_sipush (v := 999) (q := 73) dX7_comes_70 (by decide) rfl ?_
  obtain ⟨M35, gM35, h⟩ := ob h
  refine ct_iast (q := 74) hB dX7_comes_73 gM35 rfl ?_
  refine ct_aload_0 (q := 75) dX7_comes_74 rfl ?_
  obtain ⟨a36, ga36, h⟩ := ob h
  refine ct_getP (q := 78) hB dX7_comes_75 fl_RX7_7 rfl ga36 rfl ?_
  refine ct_iload_6 (q := 80) dX7_comes_78 rfl ?_
  refine ct_bipush (v := 6) (q := 82) dX7_comes_80 (by decide) rfl ?_
  refine ct_iadd (q := 83) dX7_comes_82 rfl ?_
  refine ct_iconst (v := 0) (q := 84) dX7_comes_83 (by decide) rfl ?_
  obtain ⟨M37, gM37, h⟩ := ob h
  refine ct_iast (q := 85) hB dX7_comes_84 gM37 rfl ?_
  refine ct_aload_0 (q := 86) dX7_comes_85 rfl ?_
  obtain ⟨a38, ga38, h⟩ := ob h
  refine ct_getP (q := 89) hB dX7_comes_86 fl_RX7_7 rfl ga38 rfl ?_
  refine ct_bipush (v := 6) (q := 91) dX7_comes_89 (by decide) rfl ?_
  refine ct_aload_0 (q := 92) dX7_comes_91 rfl ?_
  obtain ⟨a39, ga39, h⟩ := ob h
  refine ct_getP (q := 95) hB dX7_comes_92 fl_RX7_7 rfl ga39 rfl ?_
  refine ct_iconst (v := 0) (q := 96) dX7_comes_95 (by decide) rfl ?_
  obtain ⟨x40, gx40, h⟩ := ob h
  refine ct_iald (q := 97) hB dX7_comes_96 gx40 rfl ?_
  refine ct_iadd (q := 98) dX7_comes_97 rfl ?_
  refine ct_iconst (v := 0) (q := 99) dX7_comes_98 (by decide) rfl ?_
  obtain ⟨M41, gM41, h⟩ := ob h
  refine ct_iast (q := 100) hB dX7_comes_99 gM41 rfl ?_
  refine ct_aload_0 (q := 101) dX7_comes_100 rfl ?_
  obtain ⟨a42, ga42, h⟩ := ob h
  refine ct_getP (q := 104) hB dX7_comes_101 fl_RX7_7 rfl ga42 rfl ?_
  refine ct_iconst (v := 0) (q := 105) dX7_comes_104 (by decide) rfl ?_
  refine ct_dup2 (q := 106) dX7_comes_105 rfl rfl rfl ?_
  obtain ⟨x43, gx43, h⟩ := ob h
  refine ct_iald (q := 107) hB dX7_comes_106 gx43 rfl ?_
  refine ct_iconst (v := 1) (q := 108) dX7_comes_107 (by decide) rfl ?_
  refine ct_iadd (q := 109) dX7_comes_108 rfl ?_
  obtain ⟨M44, gM44, h⟩ := ob h
  refine ct_iast (q := 110) hB dX7_comes_109 gM44 rfl ?_
  exact ct_vret dX7_comes_110 rfl ⟨Nat.le_refl 0, Nat.le_refl 0⟩ (poV_of h)

def fX7_flame (a0 : Nat) (x1 : Int32) (x2 : Int32) (x3 : Int32) (M : ctM) : Option (Int32 × ctM) :=
  (fX7_isIn ((x1 : Int32).toInt64) 0 5 M).bind fun r21 =>
  if r21.1 = 0 then
    some ((-1000000001), r21.2)
  else
    (fX7_isPlace x2 r21.2).bind fun r23 =>
    if r23.1 = 0 then
      some ((-1000000001), r23.2)
    else
      (fX7_isIn ((x3 : Int32).toInt64) 1 9 r23.2).bind fun r25 =>
      if r25.1 = 0 then
        some ((-1000000001), r25.2)
      else
        (gP kdM 7 0 a0 r25.2).bind fun a27 =>
        (aI kdM lnM 9 a27 0 r25.2).bind fun x28 =>
        if x28 = 8 then
          some ((-1000000003), r25.2)
        else
          (cV kdM 7 a0 (fX7_comes a0 x1 (x2 / 100) (x2 % 100) x3 0 r25.2)).bind fun r30 =>
          (gP kdM 7 0 a0 r30).bind fun a31 =>
          (aI kdM lnM 9 a31 0 r30).bind fun x32 =>
          some ((x32 - 1), r30)

set_option maxHeartbeats 4000000 in
set_option maxRecDepth 20000 in
theorem ctX7_flame {B : ctB} {n : Nat} (hB : ctOk B kdM lnM n) {a0 : Nat} {x1 : Int32} {x2 : Int32} {x3 : Int32} {M : ctM} {r : Int32 × ctM} (h : fX7_flame a0 x1 x2 x3 M = some r) : ctC B mX7_flame (2, 0, 0) [.ref a0, .int x1, .int x2, .int x3] n M (poI r n) := by
  refine ctC_of (by decide) (Nat.le_of_ble_eq_true rfl) ?_
  show ctV B mX7_flame (2, 0, 0) (poI r n) 0 [some (.ref a0), some (.int x1), some (.int x2), some (.int x3)] [] (0, 0) n M
  unfold fX7_flame at h
  refine ct_iload_1 (q := 1) dX7_flame_0 rfl ?_
  refine ct_i2l (q := 2) dX7_flame_1 rfl ?_
  refine ct_lconst (v := 0) (q := 3) dX7_flame_2 (by decide) rfl ?_
  refine ct_ldc2 (q := 6) dX7_flame_3 wd_911 rfl ?_
  obtain ⟨r21, gr21, h⟩ := ob h
  refine ct_cSi3 (q := 9) dX7_flame_6 lk_RX7_76 (by decide) (ctX7_isIn hB gr21) (Nat.le_of_ble_eq_true rfl) rfl ?_
  refine ct_if_eq (q := 12) (tgt := 31) dX7_flame_9 (by decide) rfl (fun z22 => ?_) (fun z22 => ?_)
  · replace h := it_t h z22
    refine ct_ldc (q := 33) dX7_flame_31 wd_919 rfl ?_
    exact ct_iret dX7_flame_33 rfl ⟨Nat.le_refl 0, Nat.le_refl 0⟩ (poI_of h)
  · replace h := it_f h z22
    refine ct_iload_2 (q := 13) dX7_flame_12 rfl ?_
    obtain ⟨r23, gr23, h⟩ := ob h
    refine ct_cSi1 (q := 16) dX7_flame_13 lk_RX7_87 (by decide) (ctX7_isPlace hB gr23) (Nat.le_of_ble_eq_true rfl) rfl ?_
    refine ct_if_eq (q := 19) (tgt := 31) dX7_flame_16 (by decide) rfl (fun z24 => ?_) (fun z24 => ?_)
    · replace h := it_t h z24
      refine ct_ldc (q := 33) dX7_flame_31 wd_919 rfl ?_
      exact ct_iret dX7_flame_33 rfl ⟨Nat.le_refl 0, Nat.le_refl 0⟩ (poI_of h)
    · replace h := it_f h z24
      refine ct_iload_3 (q := 20) dX7_flame_19 rfl ?_
      refine ct_i2l (q := 21) dX7_flame_20 rfl ?_
      refine ct_lconst (v := 1) (q := 22) dX7_flame_21 (by decide) rfl ?_
      refine ct_ldc2 (q := 25) dX7_flame_22 wd_918 rfl ?_
      obtain ⟨r25, gr25, h⟩ := ob h
      refine ct_cSi3 (q := 28) dX7_flame_25 lk_RX7_76 (by decide) (ctX7_isIn hB gr25) (Nat.le_of_ble_eq_true rfl) rfl ?_
      refine ct_if_ne (q := 31) (tgt := 34) dX7_flame_28 (by decide) rfl (fun z26 => ?_) (fun z26 => ?_)
      · replace h := it_f h z26
        refine ct_aload_0 (q := 35) dX7_flame_34 rfl ?_
        obtain ⟨a27, ga27, h⟩ := ob h
        refine ct_getP (q := 38) hB dX7_flame_35 fl_RX7_7 rfl ga27 rfl ?_
        refine ct_iconst (v := 0) (q := 39) dX7_flame_38 (by decide) rfl ?_
        obtain ⟨x28, gx28, h⟩ := ob h
        refine ct_iald (q := 40) hB dX7_flame_39 gx28 rfl ?_
        refine ct_bipush (v := 8) (q := 42) dX7_flame_40 (by decide) rfl ?_
        refine ct_icmp_ne (q := 45) (tgt := 48) dX7_flame_42 (by decide) rfl (fun z29 => ?_) (fun z29 => ?_)
        · replace h := it_f h z29
          refine ct_aload_0 (q := 49) dX7_flame_48 rfl ?_
          refine ct_iload_1 (q := 50) dX7_flame_49 rfl ?_
          refine ct_iload_2 (q := 51) dX7_flame_50 rfl ?_
          refine ct_bipush (v := 100) (q := 53) dX7_flame_51 (by decide) rfl ?_
          refine ct_idiv (q := 54) dX7_flame_53 (by decide) rfl ?_
          refine ct_iload_2 (q := 55) dX7_flame_54 rfl ?_
          refine ct_bipush (v := 100) (q := 57) dX7_flame_55 (by decide) rfl ?_
          refine ct_irem (q := 58) dX7_flame_57 (by decide) rfl ?_
          refine ct_iload_3 (q := 59) dX7_flame_58 rfl ?_
          refine ct_iconst (v := 0) (q := 60) dX7_flame_59 (by decide) rfl ?_
          obtain ⟨r30, gr30, h⟩ := ob h
          obtain ⟨er30, gr30⟩ := cV_spec gr30
          refine ct_cVv5 (q := 63) hB dX7_flame_60 lk_RX7_95 (by decide) (ctX7_comes hB gr30) er30 (by decide) rfl (Nat.le_of_ble_eq_true rfl) rfl ?_
          refine ct_aload_0 (q := 64) dX7_flame_63 rfl ?_
          obtain ⟨a31, ga31, h⟩ := ob h
          refine ct_getP (q := 67) hB dX7_flame_64 fl_RX7_7 rfl ga31 rfl ?_
          refine ct_iconst (v := 0) (q := 68) dX7_flame_67 (by decide) rfl ?_
          obtain ⟨x32, gx32, h⟩ := ob h
          refine ct_iald (q := 69) hB dX7_flame_68 gx32 rfl ?_
          refine ct_iconst (v := 1) (q := 70) dX7_flame_69 (by decide) rfl ?_
          refine ct_isub (q := 71) dX7_flame_70 rfl ?_
          exact ct_iret dX7_flame_71 rfl ⟨Nat.le_refl 0, Nat.le_refl 0⟩ (poI_of h)
        · replace h := it_t h z29
          refine ct_ldc (q := 47) dX7_flame_45 wd_920 rfl ?_
          exact ct_iret dX7_flame_47 rfl ⟨Nat.le_refl 0, Nat.le_refl 0⟩ (poI_of h)
      · replace h := it_t h z26
        refine ct_ldc (q := 33) dX7_flame_31 wd_919 rfl ?_
        exact ct_iret dX7_flame_33 rfl ⟨Nat.le_refl 0, Nat.le_refl 0⟩ (poI_of h)

def fX7_counts_b33 (k4 : Nat → Int32 → Int32 → Int32 → ctM → Option (Int32 × ctM)) (a0 : Nat) (x1 : Int32) (x3 : Int32) (xs0 : Int32) (M : ctM) : Option (Int32 × ctM) :=
  k4 a0 x1 xs0 (x3 + 1) M

set_option maxHeartbeats 4000000 in
set_option maxRecDepth 20000 in
theorem vX7_counts_b33 {B : ctB} {n : Nat} (hB : ctOk B kdM lnM n) {k4 : Nat → Int32 → Int32 → Int32 → ctM → Option (Int32 × ctM)} (hk4 : ∀ (a0 : Nat) (x1 : Int32) (x2 : Int32) (x3 : Int32) (M : ctM) (r : Int32 × ctM), k4 a0 x1 x2 x3 M = some r → ctV B mX7_counts (1, 0, 0) (poI r n) 4 [some (.ref a0), some (.int x1), some (.int x2), some (.int x3)] [] (0, 0) n M) : ∀ (a0 : Nat) (x1 : Int32) (x3 : Int32) (xs0 : Int32) (M : ctM) (r : Int32 × ctM), fX7_counts_b33 k4 a0 x1 x3 xs0 M = some r → ctV B mX7_counts (1, 0, 0) (poI r n) 33 [some (.ref a0), some (.int x1), none, some (.int x3)] [.int xs0] (0, 0) n M := by
  intro a0 x1 x3 xs0 M r h
  unfold fX7_counts_b33 at h
  refine ct_istore_2 (q := 34) dX7_counts_33 (by decide) rfl rfl ?_
  refine ct_iinc_3 (q := 37) (v := x3 + 1) dX7_counts_34 (by first | rfl | decide) (by decide) rfl rfl ?_
  refine ct_goto (q := 4) dX7_counts_37 (by decide) ?_
  exact ct_lessK (hk4 a0 x1 xs0 (x3 + 1) M r h) (And.intro rfl (And.intro rfl (And.intro rfl (And.intro rfl (trivial)))))

def fX7_counts_h4 : Nat → Nat → Int32 → Int32 → Int32 → ctM → Option (Int32 × ctM)
  | 0, _, _, _, _, _ => none
  | N + 1, a0, x1, x2, x3, M =>
    (gP kdM 7 0 a0 M).bind fun a21 =>
    (aI kdM lnM 9 a21 1 M).bind fun x22 =>
    if x22 ≤ x3 then
      some (x2, M)
    else
      (gP kdM 7 0 a0 M).bind fun a24 =>
      (cV kdM 7 a0 (fX7_textAt a0 x3 M)).bind fun r25 =>
      (aI kdM lnM 9 a24 r25.1 r25.2).bind fun x26 =>
      if x26 = x1 then
        fX7_counts_b33 (fX7_counts_h4 N) a0 x1 x3 x3 r25.2
      else
        fX7_counts_b33 (fX7_counts_h4 N) a0 x1 x3 x2 r25.2

set_option maxHeartbeats 4000000 in
set_option maxRecDepth 20000 in
theorem vX7_counts_h4 {B : ctB} {n : Nat} (hB : ctOk B kdM lnM n) : ∀ (N : Nat) (a0 : Nat) (x1 : Int32) (x2 : Int32) (x3 : Int32) (M : ctM) (r : Int32 × ctM), fX7_counts_h4 N a0 x1 x2 x3 M = some r → ctV B mX7_counts (1, 0, 0) (poI r n) 4 [some (.ref a0), some (.int x1), some (.int x2), some (.int x3)] [] (0, 0) n M := by
  intro N
  induction N with
  | zero => intro a0 x1 x2 x3 M r h; exact absurd h (by simp [fX7_counts_h4])
  | succ N ih =>
    intro a0 x1 x2 x3 M r h
    rw [fX7_counts_h4] at h
    refine ct_iload_3 (q := 5) dX7_counts_4 rfl ?_
    refine ct_aload_0 (q := 6) dX7_counts_5 rfl ?_
    obtain ⟨a21, ga21, h⟩ := ob h
    refine ct_getP (q := 9) hB dX7_counts_6 fl_RX7_7 rfl ga21 rfl ?_
    refine ct_iconst (v := 1) (q := 10) dX7_counts_9 (by decide) rfl ?_
    obtain ⟨x22, gx22, h⟩ := ob h
    refine ct_iald (q := 11) hB dX7_counts_10 gx22 rfl ?_
    refine ct_icmp_ge (q := 14) (tgt := 40) dX7_counts_11 (by decide) rfl (fun z23 => ?_) (fun z23 => ?_)
    · replace h := it_t h z23
      refine ct_iload_2 (q := 41) dX7_counts_40 rfl ?_
      exact ct_iret dX7_counts_41 rfl ⟨Nat.le_refl 0, Nat.le_refl 0⟩ (poI_of h)
    · replace h := it_f h z23
      refine ct_aload_0 (q := 15) dX7_counts_14 rfl ?_
      obtain ⟨a24, ga24, h⟩ := ob h
      refine ct_getP (q := 18) hB dX7_counts_15 fl_RX7_7 rfl ga24 rfl ?_
      refine ct_aload_0 (q := 19) dX7_counts_18 rfl ?_
      refine ct_iload_3 (q := 20) dX7_counts_19 rfl ?_
      obtain ⟨r25, gr25, h⟩ := ob h
      obtain ⟨er25, gr25⟩ := cV_spec gr25
      refine ct_cVi1 (q := 23) hB dX7_counts_20 lk_RX7_290 (by decide) (ctX7_textAt hB gr25) er25 (by decide) rfl (Nat.le_of_ble_eq_true rfl) rfl ?_
      obtain ⟨x26, gx26, h⟩ := ob h
      refine ct_iald (q := 24) hB dX7_counts_23 gx26 rfl ?_
      refine ct_iload_1 (q := 25) dX7_counts_24 rfl ?_
      refine ct_icmp_ne (q := 28) (tgt := 32) dX7_counts_25 (by decide) rfl (fun z27 => ?_) (fun z27 => ?_)
      · replace h := it_f h z27
        refine ct_iload_2 (q := 33) dX7_counts_32 rfl ?_
        exact ct_lessK (vX7_counts_b33 hB ih a0 x1 x3 x2 r25.2 r h) (And.intro rfl (And.intro rfl (And.intro rfl (trivial))))
      · replace h := it_t h z27
        refine ct_iload_3 (q := 29) dX7_counts_28 rfl ?_
        refine ct_goto (q := 33) dX7_counts_29 (by decide) ?_
        exact ct_lessK (vX7_counts_b33 hB ih a0 x1 x3 x3 r25.2 r h) (And.intro rfl (And.intro rfl (And.intro rfl (trivial))))

def fX7_counts (a0 : Nat) (x1 : Int32) (M : ctM) : Option (Int32 × ctM) :=
  fX7_counts_h4 4000 a0 x1 (-1) 0 M

set_option maxHeartbeats 4000000 in
set_option maxRecDepth 20000 in
theorem ctX7_counts {B : ctB} {n : Nat} (hB : ctOk B kdM lnM n) {a0 : Nat} {x1 : Int32} {M : ctM} {r : Int32 × ctM} (h : fX7_counts a0 x1 M = some r) : ctC B mX7_counts (1, 0, 0) [.ref a0, .int x1] n M (poI r n) := by
  refine ctC_of (by decide) (Nat.le_of_ble_eq_true rfl) ?_
  show ctV B mX7_counts (1, 0, 0) (poI r n) 0 [some (.ref a0), some (.int x1), none, none] [] (0, 0) n M
  unfold fX7_counts at h
  refine ct_iconst (v := -1) (q := 1) dX7_counts_0 (by decide) rfl ?_
  refine ct_istore_2 (q := 2) dX7_counts_1 (by decide) rfl rfl ?_
  refine ct_iconst (v := 0) (q := 3) dX7_counts_2 (by decide) rfl ?_
  refine ct_istore_3 (q := 4) dX7_counts_3 (by decide) rfl rfl ?_
  exact ct_lessK (vX7_counts_h4 hB  4000 a0 x1 (-1) 0 M r h) (And.intro rfl (And.intro rfl (And.intro rfl (And.intro rfl (trivial)))))

def fX7_joined_b205 (M : ctM) : Option (Int32 × ctM) :=
  some (1, M)

set_option maxHeartbeats 4000000 in
set_option maxRecDepth 20000 in
theorem vX7_joined_b205 {B : ctB} {n : Nat} (hB : ctOk B kdM lnM n) : ∀  (M : ctM) (r : Int32 × ctM), fX7_joined_b205  M = some r → ctV B mX7_joined (0, 0, 0) (poI r n) 205 [none, none, none] [] (0, 0) n M := by
  intro  M r h
  unfold fX7_joined_b205 at h
  refine ct_iconst (v := 1) (q := 206) dX7_joined_205 (by decide) rfl ?_
  refine ct_goto (q := 210) dX7_joined_206 (by decide) ?_
  exact ct_iret dX7_joined_210 rfl ⟨Nat.le_refl 0, Nat.le_refl 0⟩ (poI_of h)

def fX7_joined_b197 (x1 : Int32) (x2 : Int32) (M : ctM) : Option (Int32 × ctM) :=
  if x1 = 0 then
    if x2 = 0 then
      some (0, M)
    else
      fX7_joined_b205 M
  else
    fX7_joined_b205 M

set_option maxHeartbeats 4000000 in
set_option maxRecDepth 20000 in
theorem vX7_joined_b197 {B : ctB} {n : Nat} (hB : ctOk B kdM lnM n) : ∀ (x1 : Int32) (x2 : Int32) (M : ctM) (r : Int32 × ctM), fX7_joined_b197 x1 x2 M = some r → ctV B mX7_joined (0, 0, 0) (poI r n) 197 [none, some (.int x1), some (.int x2)] [] (0, 0) n M := by
  intro x1 x2 M r h
  unfold fX7_joined_b197 at h
  refine ct_iload_1 (q := 198) dX7_joined_197 rfl ?_
  refine ct_if_ne (q := 201) (tgt := 205) dX7_joined_198 (by decide) rfl (fun z21 => ?_) (fun z21 => ?_)
  · replace h := it_f h z21
    exact ct_lessK (vX7_joined_b205 hB   M r h) (trivial)
  · replace h := it_t h z21
    refine ct_iload_2 (q := 202) dX7_joined_201 rfl ?_
    refine ct_if_eq (q := 205) (tgt := 209) dX7_joined_202 (by decide) rfl (fun z22 => ?_) (fun z22 => ?_)
    · replace h := it_t h z22
      refine ct_iconst (v := 0) (q := 210) dX7_joined_209 (by decide) rfl ?_
      exact ct_iret dX7_joined_210 rfl ⟨Nat.le_refl 0, Nat.le_refl 0⟩ (poI_of h)
    · replace h := it_f h z22
      exact ct_lessK (vX7_joined_b205 hB   M r h) (trivial)

def fX7_joined (x0 : Int32) (x1 : Int32) (x2 : Int32) (M : ctM) : Option (Int32 × ctM) :=
  if x0 = 38 then
    if x1 = 0 then
      some (0, M)
    else
      if x2 = 0 then
        some (0, M)
      else
        some (1, M)
  else
  if x0 = 42 then
    some ((x1 * x2), M)
  else
  if x0 = 43 then
    some ((x1 + x2), M)
  else
  if x0 = 45 then
    some ((x1 - x2), M)
  else
  if x0 = 47 then
    if x2 = 0 then
      some (0, M)
    else
      if x2 = (-1) then
        some ((-x1), M)
      else
        if x2 = 0 then none else
        some ((x1 / x2), M)
  else
  if x0 = 60 then
    if x2 ≤ x1 then
      some (0, M)
    else
      some (1, M)
  else
  if x0 = 61 then
    if x1 = x2 then
      some (1, M)
    else
      some (0, M)
  else
  if x0 = 62 then
    if x1 ≤ x2 then
      some (0, M)
    else
      some (1, M)
  else
    fX7_joined_b197 x1 x2 M

set_option maxHeartbeats 4000000 in
set_option maxRecDepth 20000 in
theorem ctX7_joined {B : ctB} {n : Nat} (hB : ctOk B kdM lnM n) {x0 : Int32} {x1 : Int32} {x2 : Int32} {M : ctM} {r : Int32 × ctM} (h : fX7_joined x0 x1 x2 M = some r) : ctC B mX7_joined (0, 0, 0) [.int x0, .int x1, .int x2] n M (poI r n) := by
  refine ctC_of (by decide) (Nat.le_of_ble_eq_true rfl) ?_
  show ctV B mX7_joined (0, 0, 0) (poI r n) 0 [some (.int x0), some (.int x1), some (.int x2)] [] (0, 0) n M
  unfold fX7_joined at h
  refine ct_iload_0 (q := 1) dX7_joined_0 rfl ?_
  by_cases z21 : x0 = 38
  · replace h := it_t h z21
    refine ct_tsw (q := 183) 38 z21 dX7_joined_1 (by decide) (by decide) rfl (by decide) ?_
    refine ct_iload_1 (q := 184) dX7_joined_183 rfl ?_
    refine ct_if_eq (q := 187) (tgt := 195) dX7_joined_184 (by decide) rfl (fun z22 => ?_) (fun z22 => ?_)
    · replace h := it_t h z22
      refine ct_iconst (v := 0) (q := 196) dX7_joined_195 (by decide) rfl ?_
      exact ct_iret dX7_joined_196 rfl ⟨Nat.le_refl 0, Nat.le_refl 0⟩ (poI_of h)
    · replace h := it_f h z22
      refine ct_iload_2 (q := 188) dX7_joined_187 rfl ?_
      refine ct_if_eq (q := 191) (tgt := 195) dX7_joined_188 (by decide) rfl (fun z23 => ?_) (fun z23 => ?_)
      · replace h := it_t h z23
        refine ct_iconst (v := 0) (q := 196) dX7_joined_195 (by decide) rfl ?_
        exact ct_iret dX7_joined_196 rfl ⟨Nat.le_refl 0, Nat.le_refl 0⟩ (poI_of h)
      · replace h := it_f h z23
        refine ct_iconst (v := 1) (q := 192) dX7_joined_191 (by decide) rfl ?_
        refine ct_goto (q := 196) dX7_joined_192 (by decide) ?_
        exact ct_iret dX7_joined_196 rfl ⟨Nat.le_refl 0, Nat.le_refl 0⟩ (poI_of h)
  replace h := it_f h z21
  by_cases z24 : x0 = 42
  · replace h := it_t h z24
    refine ct_tsw (q := 124) 42 z24 dX7_joined_1 (by decide) (by decide) rfl (by decide) ?_
    refine ct_iload_1 (q := 125) dX7_joined_124 rfl ?_
    refine ct_iload_2 (q := 126) dX7_joined_125 rfl ?_
    refine ct_imul (q := 127) dX7_joined_126 rfl ?_
    exact ct_iret dX7_joined_127 rfl ⟨Nat.le_refl 0, Nat.le_refl 0⟩ (poI_of h)
  replace h := it_f h z24
  by_cases z25 : x0 = 43
  · replace h := it_t h z25
    refine ct_tsw (q := 116) 43 z25 dX7_joined_1 (by decide) (by decide) rfl (by decide) ?_
    refine ct_iload_1 (q := 117) dX7_joined_116 rfl ?_
    refine ct_iload_2 (q := 118) dX7_joined_117 rfl ?_
    refine ct_iadd (q := 119) dX7_joined_118 rfl ?_
    exact ct_iret dX7_joined_119 rfl ⟨Nat.le_refl 0, Nat.le_refl 0⟩ (poI_of h)
  replace h := it_f h z25
  by_cases z26 : x0 = 45
  · replace h := it_t h z26
    refine ct_tsw (q := 120) 45 z26 dX7_joined_1 (by decide) (by decide) rfl (by decide) ?_
    refine ct_iload_1 (q := 121) dX7_joined_120 rfl ?_
    refine ct_iload_2 (q := 122) dX7_joined_121 rfl ?_
    refine ct_isub (q := 123) dX7_joined_122 rfl ?_
    exact ct_iret dX7_joined_123 rfl ⟨Nat.le_refl 0, Nat.le_refl 0⟩ (poI_of h)
  replace h := it_f h z26
  by_cases z27 : x0 = 47
  · replace h := it_t h z27
    refine ct_tsw (q := 128) 47 z27 dX7_joined_1 (by decide) (by decide) rfl (by decide) ?_
    refine ct_iload_2 (q := 129) dX7_joined_128 rfl ?_
    refine ct_if_ne (q := 132) (tgt := 136) dX7_joined_129 (by decide) rfl (fun z28 => ?_) (fun z28 => ?_)
    · replace h := it_f h z28
      refine ct_iload_2 (q := 137) dX7_joined_136 rfl ?_
      refine ct_iconst (v := -1) (q := 138) dX7_joined_137 (by decide) rfl ?_
      refine ct_icmp_ne (q := 141) (tgt := 146) dX7_joined_138 (by decide) rfl (fun z29 => ?_) (fun z29 => ?_)
      · replace h := it_f h z29
        refine ct_iload_1 (q := 147) dX7_joined_146 rfl ?_
        refine ct_iload_2 (q := 148) dX7_joined_147 rfl ?_
        by_cases z30 : x2 = 0
        · exact absurd (it_t h z30) (by simp)
        replace h := it_f h z30
        refine ct_idiv (q := 149) dX7_joined_148 z30 rfl ?_
        exact ct_iret dX7_joined_149 rfl ⟨Nat.le_refl 0, Nat.le_refl 0⟩ (poI_of h)
      · replace h := it_t h z29
        refine ct_iload_1 (q := 142) dX7_joined_141 rfl ?_
        refine ct_ineg (q := 143) dX7_joined_142 rfl ?_
        refine ct_goto (q := 149) dX7_joined_143 (by decide) ?_
        exact ct_iret dX7_joined_149 rfl ⟨Nat.le_refl 0, Nat.le_refl 0⟩ (poI_of h)
    · replace h := it_t h z28
      refine ct_iconst (v := 0) (q := 133) dX7_joined_132 (by decide) rfl ?_
      refine ct_goto (q := 149) dX7_joined_133 (by decide) ?_
      exact ct_iret dX7_joined_149 rfl ⟨Nat.le_refl 0, Nat.le_refl 0⟩ (poI_of h)
  replace h := it_f h z27
  by_cases z31 : x0 = 60
  · replace h := it_t h z31
    refine ct_tsw (q := 150) 60 z31 dX7_joined_1 (by decide) (by decide) rfl (by decide) ?_
    refine ct_iload_1 (q := 151) dX7_joined_150 rfl ?_
    refine ct_iload_2 (q := 152) dX7_joined_151 rfl ?_
    refine ct_icmp_ge (q := 155) (tgt := 159) dX7_joined_152 (by decide) rfl (fun z32 => ?_) (fun z32 => ?_)
    · replace h := it_t h z32
      refine ct_iconst (v := 0) (q := 160) dX7_joined_159 (by decide) rfl ?_
      exact ct_iret dX7_joined_160 rfl ⟨Nat.le_refl 0, Nat.le_refl 0⟩ (poI_of h)
    · replace h := it_f h z32
      refine ct_iconst (v := 1) (q := 156) dX7_joined_155 (by decide) rfl ?_
      refine ct_goto (q := 160) dX7_joined_156 (by decide) ?_
      exact ct_iret dX7_joined_160 rfl ⟨Nat.le_refl 0, Nat.le_refl 0⟩ (poI_of h)
  replace h := it_f h z31
  by_cases z33 : x0 = 61
  · replace h := it_t h z33
    refine ct_tsw (q := 172) 61 z33 dX7_joined_1 (by decide) (by decide) rfl (by decide) ?_
    refine ct_iload_1 (q := 173) dX7_joined_172 rfl ?_
    refine ct_iload_2 (q := 174) dX7_joined_173 rfl ?_
    refine ct_icmp_ne (q := 177) (tgt := 181) dX7_joined_174 (by decide) rfl (fun z34 => ?_) (fun z34 => ?_)
    · replace h := it_f h z34
      refine ct_iconst (v := 0) (q := 182) dX7_joined_181 (by decide) rfl ?_
      exact ct_iret dX7_joined_182 rfl ⟨Nat.le_refl 0, Nat.le_refl 0⟩ (poI_of h)
    · replace h := it_t h z34
      refine ct_iconst (v := 1) (q := 178) dX7_joined_177 (by decide) rfl ?_
      refine ct_goto (q := 182) dX7_joined_178 (by decide) ?_
      exact ct_iret dX7_joined_182 rfl ⟨Nat.le_refl 0, Nat.le_refl 0⟩ (poI_of h)
  replace h := it_f h z33
  by_cases z35 : x0 = 62
  · replace h := it_t h z35
    refine ct_tsw (q := 161) 62 z35 dX7_joined_1 (by decide) (by decide) rfl (by decide) ?_
    refine ct_iload_1 (q := 162) dX7_joined_161 rfl ?_
    refine ct_iload_2 (q := 163) dX7_joined_162 rfl ?_
    refine ct_icmp_le (q := 166) (tgt := 170) dX7_joined_163 (by decide) rfl (fun z36 => ?_) (fun z36 => ?_)
    · replace h := it_t h z36
      refine ct_iconst (v := 0) (q := 171) dX7_joined_170 (by decide) rfl ?_
      exact ct_iret dX7_joined_171 rfl ⟨Nat.le_refl 0, Nat.le_refl 0⟩ (poI_of h)
    · replace h := it_f h z36
      refine ct_iconst (v := 1) (q := 167) dX7_joined_166 (by decide) rfl ?_
      refine ct_goto (q := 171) dX7_joined_167 (by decide) ?_
      exact ct_iret dX7_joined_171 rfl ⟨Nat.le_refl 0, Nat.le_refl 0⟩ (poI_of h)
  replace h := it_f h z35
  by_cases z37 : x0 = 39
  · refine ct_tsw (q := 197) 39 z37 dX7_joined_1 (by decide) (by decide) rfl (by decide) ?_
    exact ct_lessK (vX7_joined_b197 hB  x1 x2 M r h) (And.intro rfl (And.intro rfl (trivial)))
  by_cases z38 : x0 = 40
  · refine ct_tsw (q := 197) 40 z38 dX7_joined_1 (by decide) (by decide) rfl (by decide) ?_
    exact ct_lessK (vX7_joined_b197 hB  x1 x2 M r h) (And.intro rfl (And.intro rfl (trivial)))
  by_cases z39 : x0 = 41
  · refine ct_tsw (q := 197) 41 z39 dX7_joined_1 (by decide) (by decide) rfl (by decide) ?_
    exact ct_lessK (vX7_joined_b197 hB  x1 x2 M r h) (And.intro rfl (And.intro rfl (trivial)))
  by_cases z40 : x0 = 44
  · refine ct_tsw (q := 197) 44 z40 dX7_joined_1 (by decide) (by decide) rfl (by decide) ?_
    exact ct_lessK (vX7_joined_b197 hB  x1 x2 M r h) (And.intro rfl (And.intro rfl (trivial)))
  by_cases z41 : x0 = 46
  · refine ct_tsw (q := 197) 46 z41 dX7_joined_1 (by decide) (by decide) rfl (by decide) ?_
    exact ct_lessK (vX7_joined_b197 hB  x1 x2 M r h) (And.intro rfl (And.intro rfl (trivial)))
  by_cases z42 : x0 = 48
  · refine ct_tsw (q := 197) 48 z42 dX7_joined_1 (by decide) (by decide) rfl (by decide) ?_
    exact ct_lessK (vX7_joined_b197 hB  x1 x2 M r h) (And.intro rfl (And.intro rfl (trivial)))
  by_cases z43 : x0 = 49
  · refine ct_tsw (q := 197) 49 z43 dX7_joined_1 (by decide) (by decide) rfl (by decide) ?_
    exact ct_lessK (vX7_joined_b197 hB  x1 x2 M r h) (And.intro rfl (And.intro rfl (trivial)))
  by_cases z44 : x0 = 50
  · refine ct_tsw (q := 197) 50 z44 dX7_joined_1 (by decide) (by decide) rfl (by decide) ?_
    exact ct_lessK (vX7_joined_b197 hB  x1 x2 M r h) (And.intro rfl (And.intro rfl (trivial)))
  by_cases z45 : x0 = 51
  · refine ct_tsw (q := 197) 51 z45 dX7_joined_1 (by decide) (by decide) rfl (by decide) ?_
    exact ct_lessK (vX7_joined_b197 hB  x1 x2 M r h) (And.intro rfl (And.intro rfl (trivial)))
  by_cases z46 : x0 = 52
  · refine ct_tsw (q := 197) 52 z46 dX7_joined_1 (by decide) (by decide) rfl (by decide) ?_
    exact ct_lessK (vX7_joined_b197 hB  x1 x2 M r h) (And.intro rfl (And.intro rfl (trivial)))
  by_cases z47 : x0 = 53
  · refine ct_tsw (q := 197) 53 z47 dX7_joined_1 (by decide) (by decide) rfl (by decide) ?_
    exact ct_lessK (vX7_joined_b197 hB  x1 x2 M r h) (And.intro rfl (And.intro rfl (trivial)))
  by_cases z48 : x0 = 54
  · refine ct_tsw (q := 197) 54 z48 dX7_joined_1 (by decide) (by decide) rfl (by decide) ?_
    exact ct_lessK (vX7_joined_b197 hB  x1 x2 M r h) (And.intro rfl (And.intro rfl (trivial)))
  by_cases z49 : x0 = 55
  · refine ct_tsw (q := 197) 55 z49 dX7_joined_1 (by decide) (by decide) rfl (by decide) ?_
    exact ct_lessK (vX7_joined_b197 hB  x1 x2 M r h) (And.intro rfl (And.intro rfl (trivial)))
  by_cases z50 : x0 = 56
  · refine ct_tsw (q := 197) 56 z50 dX7_joined_1 (by decide) (by decide) rfl (by decide) ?_
    exact ct_lessK (vX7_joined_b197 hB  x1 x2 M r h) (And.intro rfl (And.intro rfl (trivial)))
  by_cases z51 : x0 = 57
  · refine ct_tsw (q := 197) 57 z51 dX7_joined_1 (by decide) (by decide) rfl (by decide) ?_
    exact ct_lessK (vX7_joined_b197 hB  x1 x2 M r h) (And.intro rfl (And.intro rfl (trivial)))
  by_cases z52 : x0 = 58
  · refine ct_tsw (q := 197) 58 z52 dX7_joined_1 (by decide) (by decide) rfl (by decide) ?_
    exact ct_lessK (vX7_joined_b197 hB  x1 x2 M r h) (And.intro rfl (And.intro rfl (trivial)))
  by_cases z53 : x0 = 59
  · refine ct_tsw (q := 197) 59 z53 dX7_joined_1 (by decide) (by decide) rfl (by decide) ?_
    exact ct_lessK (vX7_joined_b197 hB  x1 x2 M r h) (And.intro rfl (And.intro rfl (trivial)))
  refine ct_tswD (q := 197) dX7_joined_1 (by have := And.intro (lv_neT z21 (show Int32.toInt (38) = 38 by decide)) trivial; have y0 := lv_neT z21 (show Int32.toInt (38) = 38 by decide); have y1 := lv_neT z37 (show Int32.toInt (39) = 39 by decide); have y2 := lv_neT z38 (show Int32.toInt (40) = 40 by decide); have y3 := lv_neT z39 (show Int32.toInt (41) = 41 by decide); have y4 := lv_neT z24 (show Int32.toInt (42) = 42 by decide); have y5 := lv_neT z25 (show Int32.toInt (43) = 43 by decide); have y6 := lv_neT z40 (show Int32.toInt (44) = 44 by decide); have y7 := lv_neT z26 (show Int32.toInt (45) = 45 by decide); have y8 := lv_neT z41 (show Int32.toInt (46) = 46 by decide); have y9 := lv_neT z27 (show Int32.toInt (47) = 47 by decide); have y10 := lv_neT z42 (show Int32.toInt (48) = 48 by decide); have y11 := lv_neT z43 (show Int32.toInt (49) = 49 by decide); have y12 := lv_neT z44 (show Int32.toInt (50) = 50 by decide); have y13 := lv_neT z45 (show Int32.toInt (51) = 51 by decide); have y14 := lv_neT z46 (show Int32.toInt (52) = 52 by decide); have y15 := lv_neT z47 (show Int32.toInt (53) = 53 by decide); have y16 := lv_neT z48 (show Int32.toInt (54) = 54 by decide); have y17 := lv_neT z49 (show Int32.toInt (55) = 55 by decide); have y18 := lv_neT z50 (show Int32.toInt (56) = 56 by decide); have y19 := lv_neT z51 (show Int32.toInt (57) = 57 by decide); have y20 := lv_neT z52 (show Int32.toInt (58) = 58 by decide); have y21 := lv_neT z53 (show Int32.toInt (59) = 59 by decide); have y22 := lv_neT z31 (show Int32.toInt (60) = 60 by decide); have y23 := lv_neT z33 (show Int32.toInt (61) = 61 by decide); have y24 := lv_neT z35 (show Int32.toInt (62) = 62 by decide); omega) (by decide) ?_
  exact ct_lessK (vX7_joined_b197 hB  x1 x2 M r h) (And.intro rfl (And.intro rfl (trivial)))

def fX7_worked_b157 (k4 : Nat → Int32 → Int32 → Int32 → ctM → Option (Int32 × ctM)) (a0 : Nat) (x1 : Int32) (x2 : Int32) (x3 : Int32) (M : ctM) : Option (Int32 × ctM) :=
  k4 a0 x1 x2 (x3 + 1) M

set_option maxHeartbeats 4000000 in
set_option maxRecDepth 20000 in
theorem vX7_worked_b157 {B : ctB} {n : Nat} (hB : ctOk B kdM lnM n) {k4 : Nat → Int32 → Int32 → Int32 → ctM → Option (Int32 × ctM)} (hk4 : ∀ (a0 : Nat) (x1 : Int32) (x2 : Int32) (x3 : Int32) (M : ctM) (r : Int32 × ctM), k4 a0 x1 x2 x3 M = some r → ctV B mX7_worked (1, 0, 0) (poI r n) 4 [some (.ref a0), some (.int x1), some (.int x2), some (.int x3), none, none] [] (0, 0) n M) : ∀ (a0 : Nat) (x1 : Int32) (x2 : Int32) (x3 : Int32) (M : ctM) (r : Int32 × ctM), fX7_worked_b157 k4 a0 x1 x2 x3 M = some r → ctV B mX7_worked (1, 0, 0) (poI r n) 157 [some (.ref a0), some (.int x1), some (.int x2), some (.int x3), none, none] [] (0, 0) n M := by
  intro a0 x1 x2 x3 M r h
  unfold fX7_worked_b157 at h
  refine ct_iinc_3 (q := 160) (v := x3 + 1) dX7_worked_157 (by first | rfl | decide) (by decide) rfl rfl ?_
  refine ct_goto (q := 4) dX7_worked_160 (by decide) ?_
  exact ct_lessK (hk4 a0 x1 x2 (x3 + 1) M r h) (And.intro rfl (And.intro rfl (And.intro rfl (And.intro rfl (trivial)))))

def fX7_worked_b123 (k4 : Nat → Int32 → Int32 → Int32 → ctM → Option (Int32 × ctM)) (a0 : Nat) (x1 : Int32) (x2 : Int32) (x3 : Int32) (as0 : Nat) (xs1 : Int32) (xs2 : Int32) (M : ctM) : Option (Int32 × ctM) :=
  (sI kdM lnM 9 as0 xs1 xs2 M).bind fun M21 =>
  fX7_worked_b157 k4 a0 x1 x2 x3 M21

set_option maxHeartbeats 4000000 in
set_option maxRecDepth 20000 in
theorem vX7_worked_b123 {B : ctB} {n : Nat} (hB : ctOk B kdM lnM n) {k4 : Nat → Int32 → Int32 → Int32 → ctM → Option (Int32 × ctM)} (hk4 : ∀ (a0 : Nat) (x1 : Int32) (x2 : Int32) (x3 : Int32) (M : ctM) (r : Int32 × ctM), k4 a0 x1 x2 x3 M = some r → ctV B mX7_worked (1, 0, 0) (poI r n) 4 [some (.ref a0), some (.int x1), some (.int x2), some (.int x3), none, none] [] (0, 0) n M) : ∀ (a0 : Nat) (x1 : Int32) (x2 : Int32) (x3 : Int32) (as0 : Nat) (xs1 : Int32) (xs2 : Int32) (M : ctM) (r : Int32 × ctM), fX7_worked_b123 k4 a0 x1 x2 x3 as0 xs1 xs2 M = some r → ctV B mX7_worked (1, 0, 0) (poI r n) 123 [some (.ref a0), some (.int x1), some (.int x2), some (.int x3), none, none] [.int xs2, .int xs1, .ref as0] (0, 0) n M := by
  intro a0 x1 x2 x3 as0 xs1 xs2 M r h
  unfold fX7_worked_b123 at h
  obtain ⟨M21, gM21, h⟩ := ob h
  refine ct_iast (q := 124) hB dX7_worked_123 gM21 rfl ?_
  refine ct_goto (q := 157) dX7_worked_124 (by decide) ?_
  exact ct_lessK (vX7_worked_b157 hB hk4 a0 x1 x2 x3 M21 r h) (And.intro rfl (And.intro rfl (And.intro rfl (And.intro rfl (trivial)))))

def fX7_worked_b86 (k4 : Nat → Int32 → Int32 → Int32 → ctM → Option (Int32 × ctM)) (a0 : Nat) (x1 : Int32) (x2 : Int32) (x3 : Int32) (as0 : Nat) (xs1 : Int32) (xs2 : Int32) (M : ctM) : Option (Int32 × ctM) :=
  (sI kdM lnM 9 as0 xs1 xs2 M).bind fun M21 =>
  fX7_worked_b157 k4 a0 x1 (x2 + 1) x3 M21

set_option maxHeartbeats 4000000 in
set_option maxRecDepth 20000 in
theorem vX7_worked_b86 {B : ctB} {n : Nat} (hB : ctOk B kdM lnM n) {k4 : Nat → Int32 → Int32 → Int32 → ctM → Option (Int32 × ctM)} (hk4 : ∀ (a0 : Nat) (x1 : Int32) (x2 : Int32) (x3 : Int32) (M : ctM) (r : Int32 × ctM), k4 a0 x1 x2 x3 M = some r → ctV B mX7_worked (1, 0, 0) (poI r n) 4 [some (.ref a0), some (.int x1), some (.int x2), some (.int x3), none, none] [] (0, 0) n M) : ∀ (a0 : Nat) (x1 : Int32) (x2 : Int32) (x3 : Int32) (as0 : Nat) (xs1 : Int32) (xs2 : Int32) (M : ctM) (r : Int32 × ctM), fX7_worked_b86 k4 a0 x1 x2 x3 as0 xs1 xs2 M = some r → ctV B mX7_worked (1, 0, 0) (poI r n) 86 [some (.ref a0), some (.int x1), some (.int x2), some (.int x3), none, none] [.int xs2, .int xs1, .ref as0] (0, 0) n M := by
  intro a0 x1 x2 x3 as0 xs1 xs2 M r h
  unfold fX7_worked_b86 at h
  obtain ⟨M21, gM21, h⟩ := ob h
  refine ct_iast (q := 87) hB dX7_worked_86 gM21 rfl ?_
  refine ct_iinc_2 (q := 90) (v := x2 + 1) dX7_worked_87 (by first | rfl | decide) (by decide) rfl rfl ?_
  refine ct_goto (q := 157) dX7_worked_90 (by decide) ?_
  exact ct_lessK (vX7_worked_b157 hB hk4 a0 x1 (x2 + 1) x3 M21 r h) (And.intro rfl (And.intro rfl (And.intro rfl (And.intro rfl (trivial)))))

def fX7_worked_h4 : Nat → Nat → Int32 → Int32 → Int32 → ctM → Option (Int32 × ctM)
  | 0, _, _, _, _, _ => none
  | N + 1, a0, x1, x2, x3, M =>
    (gP kdM 7 0 a0 M).bind fun a21 =>
    (cV kdM 7 a0 (fX7_textAt a0 x1 M)).bind fun r22 =>
    (aI kdM lnM 9 a21 (r22.1 + 2) r22.2).bind fun x23 =>
    if x23 ≤ x3 then
      (gP kdM 7 30 a0 r22.2).bind fun a25 =>
      (aI kdM lnM 9 a25 0 r22.2).bind fun x26 =>
      some (x26, r22.2)
    else
      (gP kdM 7 0 a0 r22.2).bind fun a27 =>
      (cV kdM 7 a0 (fX7_textAt a0 x1 r22.2)).bind fun r28 =>
      (aI kdM lnM 9 a27 ((r28.1 + 4) + (2 * x3)) r28.2).bind fun x29 =>
      (gP kdM 7 0 a0 r28.2).bind fun a30 =>
      (cV kdM 7 a0 (fX7_textAt a0 x1 r28.2)).bind fun r31 =>
      (aI kdM lnM 9 a30 (((r31.1 + 4) + (2 * x3)) + 1) r31.2).bind fun x32 =>
      if x29 = 2 then
        if x32 = 33 then
          (gP kdM 7 30 a0 r31.2).bind fun a42 =>
          (gP kdM 7 30 a0 r31.2).bind fun a43 =>
          (aI kdM lnM 9 a43 (x2 - 1) r31.2).bind fun x44 =>
          if x44 = 0 then
            fX7_worked_b123 (fX7_worked_h4 N) a0 x1 x2 x3 a42 (x2 - 1) 1 r31.2
          else
            fX7_worked_b123 (fX7_worked_h4 N) a0 x1 x2 x3 a42 (x2 - 1) 0 r31.2
        else
          (gP kdM 7 30 a0 r31.2).bind fun a35 =>
          (gP kdM 7 30 a0 r31.2).bind fun a36 =>
          (aI kdM lnM 9 a36 ((x2 + (-1)) - 1) r31.2).bind fun x37 =>
          (gP kdM 7 30 a0 r31.2).bind fun a38 =>
          (aI kdM lnM 9 a38 (x2 + (-1)) r31.2).bind fun x39 =>
          (fX7_joined x32 x37 x39 r31.2).bind fun r40 =>
          (sI kdM lnM 9 a35 ((x2 + (-1)) - 1) r40.1 r40.2).bind fun M41 =>
          fX7_worked_b157 (fX7_worked_h4 N) a0 x1 (x2 + (-1)) x3 M41
      else
        (gP kdM 7 30 a0 r31.2).bind fun a46 =>
        if x29 = 0 then
          fX7_worked_b86 (fX7_worked_h4 N) a0 x1 x2 x3 a46 x2 x32 r31.2
        else
          (gP kdM 7 29 a0 r31.2).bind fun a48 =>
          (aI kdM lnM 9 a48 x32 r31.2).bind fun x49 =>
          fX7_worked_b86 (fX7_worked_h4 N) a0 x1 x2 x3 a46 x2 x49 r31.2

set_option maxHeartbeats 4000000 in
set_option maxRecDepth 20000 in
theorem vX7_worked_h4 {B : ctB} {n : Nat} (hB : ctOk B kdM lnM n) : ∀ (N : Nat) (a0 : Nat) (x1 : Int32) (x2 : Int32) (x3 : Int32) (M : ctM) (r : Int32 × ctM), fX7_worked_h4 N a0 x1 x2 x3 M = some r → ctV B mX7_worked (1, 0, 0) (poI r n) 4 [some (.ref a0), some (.int x1), some (.int x2), some (.int x3), none, none] [] (0, 0) n M := by
  intro N
  induction N with
  | zero => intro a0 x1 x2 x3 M r h; exact absurd h (by simp [fX7_worked_h4])
  | succ N ih =>
    intro a0 x1 x2 x3 M r h
    rw [fX7_worked_h4] at h
    refine ct_iload_3 (q := 5) dX7_worked_4 rfl ?_
    refine ct_aload_0 (q := 6) dX7_worked_5 rfl ?_
    obtain ⟨a21, ga21, h⟩ := ob h
    refine ct_getP (q := 9) hB dX7_worked_6 fl_RX7_7 rfl ga21 rfl ?_
    refine ct_aload_0 (q := 10) dX7_worked_9 rfl ?_
    refine ct_iload_1 (q := 11) dX7_worked_10 rfl ?_
    obtain ⟨r22, gr22, h⟩ := ob h
    obtain ⟨er22, gr22⟩ := cV_spec gr22
    refine ct_cVi1 (q := 14) hB dX7_worked_11 lk_RX7_290 (by decide) (ctX7_textAt hB gr22) er22 (by decide) rfl (Nat.le_of_ble_eq_true rfl) rfl ?_
    refine ct_iconst (v := 2) (q := 15) dX7_worked_14 (by decide) rfl ?_
    refine ct_iadd (q := 16) dX7_worked_15 rfl ?_
    obtain ⟨x23, gx23, h⟩ := ob h
    refine ct_iald (q := 17) hB dX7_worked_16 gx23 rfl ?_
    refine ct_icmp_ge (q := 20) (tgt := 163) dX7_worked_17 (by decide) rfl (fun z24 => ?_) (fun z24 => ?_)
    · replace h := it_t h z24
      refine ct_aload_0 (q := 164) dX7_worked_163 rfl ?_
      obtain ⟨a25, ga25, h⟩ := ob h
      refine ct_getP (q := 167) hB dX7_worked_164 fl_RX7_59 rfl ga25 rfl ?_
      refine ct_iconst (v := 0) (q := 168) dX7_worked_167 (by decide) rfl ?_
      obtain ⟨x26, gx26, h⟩ := ob h
      refine ct_iald (q := 169) hB dX7_worked_168 gx26 rfl ?_
      exact ct_iret dX7_worked_169 rfl ⟨Nat.le_refl 0, Nat.le_refl 0⟩ (poI_of h)
    · replace h := it_f h z24
      refine ct_aload_0 (q := 21) dX7_worked_20 rfl ?_
      obtain ⟨a27, ga27, h⟩ := ob h
      refine ct_getP (q := 24) hB dX7_worked_21 fl_RX7_7 rfl ga27 rfl ?_
      refine ct_aload_0 (q := 25) dX7_worked_24 rfl ?_
      refine ct_iload_1 (q := 26) dX7_worked_25 rfl ?_
      obtain ⟨r28, gr28, h⟩ := ob h
      obtain ⟨er28, gr28⟩ := cV_spec gr28
      refine ct_cVi1 (q := 29) hB dX7_worked_26 lk_RX7_290 (by decide) (ctX7_textAt hB gr28) er28 (by decide) rfl (Nat.le_of_ble_eq_true rfl) rfl ?_
      refine ct_iconst (v := 4) (q := 30) dX7_worked_29 (by decide) rfl ?_
      refine ct_iadd (q := 31) dX7_worked_30 rfl ?_
      refine ct_iconst (v := 2) (q := 32) dX7_worked_31 (by decide) rfl ?_
      refine ct_iload_3 (q := 33) dX7_worked_32 rfl ?_
      refine ct_imul (q := 34) dX7_worked_33 rfl ?_
      refine ct_iadd (q := 35) dX7_worked_34 rfl ?_
      obtain ⟨x29, gx29, h⟩ := ob h
      refine ct_iald (q := 36) hB dX7_worked_35 gx29 rfl ?_
      refine ct_istore_4 (q := 38) dX7_worked_36 (by decide) rfl rfl ?_
      refine ct_aload_0 (q := 39) dX7_worked_38 rfl ?_
      obtain ⟨a30, ga30, h⟩ := ob h
      refine ct_getP (q := 42) hB dX7_worked_39 fl_RX7_7 rfl ga30 rfl ?_
      refine ct_aload_0 (q := 43) dX7_worked_42 rfl ?_
      refine ct_iload_1 (q := 44) dX7_worked_43 rfl ?_
      obtain ⟨r31, gr31, h⟩ := ob h
      obtain ⟨er31, gr31⟩ := cV_spec gr31
      refine ct_cVi1 (q := 47) hB dX7_worked_44 lk_RX7_290 (by decide) (ctX7_textAt hB gr31) er31 (by decide) rfl (Nat.le_of_ble_eq_true rfl) rfl ?_
      refine ct_iconst (v := 4) (q := 48) dX7_worked_47 (by decide) rfl ?_
      refine ct_iadd (q := 49) dX7_worked_48 rfl ?_
      refine ct_iconst (v := 2) (q := 50) dX7_worked_49 (by decide) rfl ?_
      refine ct_iload_3 (q := 51) dX7_worked_50 rfl ?_
      refine ct_imul (q := 52) dX7_worked_51 rfl ?_
      refine ct_iadd (q := 53) dX7_worked_52 rfl ?_
      refine ct_iconst (v := 1) (q := 54) dX7_worked_53 (by decide) rfl ?_
      refine ct_iadd (q := 55) dX7_worked_54 rfl ?_
      obtain ⟨x32, gx32, h⟩ := ob h
      refine ct_iald (q := 56) hB dX7_worked_55 gx32 rfl ?_
      refine ct_istore_5 (q := 58) dX7_worked_56 (by decide) rfl rfl ?_
      refine ct_iload_4 (q := 60) dX7_worked_58 rfl ?_
      refine ct_iconst (v := 2) (q := 61) dX7_worked_60 (by decide) rfl ?_
      refine ct_icmp_eq (q := 64) (tgt := 93) dX7_worked_61 (by decide) rfl (fun z33 => ?_) (fun z33 => ?_)
      · replace h := it_t h z33
        refine ct_iload_5 (q := 95) dX7_worked_93 rfl ?_
        refine ct_bipush (v := 33) (q := 97) dX7_worked_95 (by decide) rfl ?_
        refine ct_icmp_ne (q := 100) (tgt := 127) dX7_worked_97 (by decide) rfl (fun z34 => ?_) (fun z34 => ?_)
        · replace h := it_f h z34
          refine ct_iinc_2 (q := 130) (v := x2 + (-1)) dX7_worked_127 (by first | rfl | decide) (by decide) rfl rfl ?_
          refine ct_aload_0 (q := 131) dX7_worked_130 rfl ?_
          obtain ⟨a35, ga35, h⟩ := ob h
          refine ct_getP (q := 134) hB dX7_worked_131 fl_RX7_59 rfl ga35 rfl ?_
          refine ct_iload_2 (q := 135) dX7_worked_134 rfl ?_
          refine ct_iconst (v := 1) (q := 136) dX7_worked_135 (by decide) rfl ?_
          refine ct_isub (q := 137) dX7_worked_136 rfl ?_
          refine ct_iload_5 (q := 139) dX7_worked_137 rfl ?_
          refine ct_aload_0 (q := 140) dX7_worked_139 rfl ?_
          obtain ⟨a36, ga36, h⟩ := ob h
          refine ct_getP (q := 143) hB dX7_worked_140 fl_RX7_59 rfl ga36 rfl ?_
          refine ct_iload_2 (q := 144) dX7_worked_143 rfl ?_
          refine ct_iconst (v := 1) (q := 145) dX7_worked_144 (by decide) rfl ?_
          refine ct_isub (q := 146) dX7_worked_145 rfl ?_
          obtain ⟨x37, gx37, h⟩ := ob h
          refine ct_iald (q := 147) hB dX7_worked_146 gx37 rfl ?_
          refine ct_aload_0 (q := 148) dX7_worked_147 rfl ?_
          obtain ⟨a38, ga38, h⟩ := ob h
          refine ct_getP (q := 151) hB dX7_worked_148 fl_RX7_59 rfl ga38 rfl ?_
          refine ct_iload_2 (q := 152) dX7_worked_151 rfl ?_
          obtain ⟨x39, gx39, h⟩ := ob h
          refine ct_iald (q := 153) hB dX7_worked_152 gx39 rfl ?_
          obtain ⟨r40, gr40, h⟩ := ob h
          refine ct_cSi3 (q := 156) dX7_worked_153 lk_RX7_304 (by decide) (ctX7_joined hB gr40) (Nat.le_of_ble_eq_true rfl) rfl ?_
          obtain ⟨M41, gM41, h⟩ := ob h
          refine ct_iast (q := 157) hB dX7_worked_156 gM41 rfl ?_
          exact ct_lessK (vX7_worked_b157 hB ih a0 x1 (x2 + (-1)) x3 M41 r h) (And.intro rfl (And.intro rfl (And.intro rfl (And.intro rfl (trivial)))))
        · replace h := it_t h z34
          refine ct_aload_0 (q := 101) dX7_worked_100 rfl ?_
          obtain ⟨a42, ga42, h⟩ := ob h
          refine ct_getP (q := 104) hB dX7_worked_101 fl_RX7_59 rfl ga42 rfl ?_
          refine ct_iload_2 (q := 105) dX7_worked_104 rfl ?_
          refine ct_iconst (v := 1) (q := 106) dX7_worked_105 (by decide) rfl ?_
          refine ct_isub (q := 107) dX7_worked_106 rfl ?_
          refine ct_aload_0 (q := 108) dX7_worked_107 rfl ?_
          obtain ⟨a43, ga43, h⟩ := ob h
          refine ct_getP (q := 111) hB dX7_worked_108 fl_RX7_59 rfl ga43 rfl ?_
          refine ct_iload_2 (q := 112) dX7_worked_111 rfl ?_
          refine ct_iconst (v := 1) (q := 113) dX7_worked_112 (by decide) rfl ?_
          refine ct_isub (q := 114) dX7_worked_113 rfl ?_
          obtain ⟨x44, gx44, h⟩ := ob h
          refine ct_iald (q := 115) hB dX7_worked_114 gx44 rfl ?_
          refine ct_if_ne (q := 118) (tgt := 122) dX7_worked_115 (by decide) rfl (fun z45 => ?_) (fun z45 => ?_)
          · replace h := it_f h z45
            refine ct_iconst (v := 0) (q := 123) dX7_worked_122 (by decide) rfl ?_
            exact ct_lessK (vX7_worked_b123 hB ih a0 x1 x2 x3 a42 (x2 - 1) 0 r31.2 r h) (And.intro rfl (And.intro rfl (And.intro rfl (And.intro rfl (trivial)))))
          · replace h := it_t h z45
            refine ct_iconst (v := 1) (q := 119) dX7_worked_118 (by decide) rfl ?_
            refine ct_goto (q := 123) dX7_worked_119 (by decide) ?_
            exact ct_lessK (vX7_worked_b123 hB ih a0 x1 x2 x3 a42 (x2 - 1) 1 r31.2 r h) (And.intro rfl (And.intro rfl (And.intro rfl (And.intro rfl (trivial)))))
      · replace h := it_f h z33
        refine ct_aload_0 (q := 65) dX7_worked_64 rfl ?_
        obtain ⟨a46, ga46, h⟩ := ob h
        refine ct_getP (q := 68) hB dX7_worked_65 fl_RX7_59 rfl ga46 rfl ?_
        refine ct_iload_2 (q := 69) dX7_worked_68 rfl ?_
        refine ct_iload_4 (q := 71) dX7_worked_69 rfl ?_
        refine ct_if_ne (q := 74) (tgt := 79) dX7_worked_71 (by decide) rfl (fun z47 => ?_) (fun z47 => ?_)
        · replace h := it_f h z47
          refine ct_aload_0 (q := 80) dX7_worked_79 rfl ?_
          obtain ⟨a48, ga48, h⟩ := ob h
          refine ct_getP (q := 83) hB dX7_worked_80 fl_RX7_56 rfl ga48 rfl ?_
          refine ct_iload_5 (q := 85) dX7_worked_83 rfl ?_
          obtain ⟨x49, gx49, h⟩ := ob h
          refine ct_iald (q := 86) hB dX7_worked_85 gx49 rfl ?_
          exact ct_lessK (vX7_worked_b86 hB ih a0 x1 x2 x3 a46 x2 x49 r31.2 r h) (And.intro rfl (And.intro rfl (And.intro rfl (And.intro rfl (trivial)))))
        · replace h := it_t h z47
          refine ct_iload_5 (q := 76) dX7_worked_74 rfl ?_
          refine ct_goto (q := 86) dX7_worked_76 (by decide) ?_
          exact ct_lessK (vX7_worked_b86 hB ih a0 x1 x2 x3 a46 x2 x32 r31.2 r h) (And.intro rfl (And.intro rfl (And.intro rfl (And.intro rfl (trivial)))))

def fX7_worked (a0 : Nat) (x1 : Int32) (M : ctM) : Option (Int32 × ctM) :=
  fX7_worked_h4 4000 a0 x1 0 0 M

set_option maxHeartbeats 4000000 in
set_option maxRecDepth 20000 in
theorem ctX7_worked {B : ctB} {n : Nat} (hB : ctOk B kdM lnM n) {a0 : Nat} {x1 : Int32} {M : ctM} {r : Int32 × ctM} (h : fX7_worked a0 x1 M = some r) : ctC B mX7_worked (1, 0, 0) [.ref a0, .int x1] n M (poI r n) := by
  refine ctC_of (by decide) (Nat.le_of_ble_eq_true rfl) ?_
  show ctV B mX7_worked (1, 0, 0) (poI r n) 0 [some (.ref a0), some (.int x1), none, none, none, none] [] (0, 0) n M
  unfold fX7_worked at h
  refine ct_iconst (v := 0) (q := 1) dX7_worked_0 (by decide) rfl ?_
  refine ct_istore_2 (q := 2) dX7_worked_1 (by decide) rfl rfl ?_
  refine ct_iconst (v := 0) (q := 3) dX7_worked_2 (by decide) rfl ?_
  refine ct_istore_3 (q := 4) dX7_worked_3 (by decide) rfl rfl ?_
  exact ct_lessK (vX7_worked_h4 hB  4000 a0 x1 0 0 M r h) (And.intro rfl (And.intro rfl (And.intro rfl (And.intro rfl (trivial)))))

def fX7_pace_b53 (a0 : Nat) (x1 : Int32) (x3 : Int32) (M : ctM) : Option (Int32 × ctM) :=
  (cV kdM 7 a0 (fX7_of a0 x1 0 M)).bind fun r21 =>
  if r21.1 = 1 then
    some ((x3 + 1), r21.2)
  else
  if r21.1 = 2 then
    some ((x3 / 2), r21.2)
  else
  if r21.1 = 3 then
    some ((2 * (x3 + 1)), r21.2)
  else
  if r21.1 = 4 then
    some (0, r21.2)
  else
  if r21.1 = 5 then
    some ((x3 + 2), r21.2)
  else
    some (x3, r21.2)

set_option maxHeartbeats 4000000 in
set_option maxRecDepth 20000 in
theorem vX7_pace_b53 {B : ctB} {n : Nat} (hB : ctOk B kdM lnM n) : ∀ (a0 : Nat) (x1 : Int32) (x3 : Int32) (M : ctM) (r : Int32 × ctM), fX7_pace_b53 a0 x1 x3 M = some r → ctV B mX7_pace (2, 0, 0) (poI r n) 53 [some (.ref a0), some (.int x1), none, some (.int x3), none] [] (0, 0) n M := by
  intro a0 x1 x3 M r h
  unfold fX7_pace_b53 at h
  refine ct_aload_0 (q := 54) dX7_pace_53 rfl ?_
  refine ct_iload_1 (q := 55) dX7_pace_54 rfl ?_
  refine ct_iconst (v := 0) (q := 56) dX7_pace_55 (by decide) rfl ?_
  obtain ⟨r21, gr21, h⟩ := ob h
  obtain ⟨er21, gr21⟩ := cV_spec gr21
  refine ct_cVi2 (q := 59) hB dX7_pace_56 lk_RX7_80 (by decide) (ctX7_of hB gr21) er21 (by decide) rfl (Nat.le_of_ble_eq_true rfl) rfl ?_
  by_cases z22 : r21.1 = 1
  · replace h := it_t h z22
    refine ct_tsw (q := 92) 1 z22 dX7_pace_59 (by decide) (by decide) rfl (by decide) ?_
    refine ct_iload_3 (q := 93) dX7_pace_92 rfl ?_
    refine ct_iconst (v := 1) (q := 94) dX7_pace_93 (by decide) rfl ?_
    refine ct_iadd (q := 95) dX7_pace_94 rfl ?_
    exact ct_iret dX7_pace_95 rfl ⟨Nat.le_refl 0, Nat.le_refl 0⟩ (poI_of h)
  replace h := it_f h z22
  by_cases z23 : r21.1 = 2
  · replace h := it_t h z23
    refine ct_tsw (q := 96) 2 z23 dX7_pace_59 (by decide) (by decide) rfl (by decide) ?_
    refine ct_iload_3 (q := 97) dX7_pace_96 rfl ?_
    refine ct_iconst (v := 2) (q := 98) dX7_pace_97 (by decide) rfl ?_
    refine ct_idiv (q := 99) dX7_pace_98 (by decide) rfl ?_
    exact ct_iret dX7_pace_99 rfl ⟨Nat.le_refl 0, Nat.le_refl 0⟩ (poI_of h)
  replace h := it_f h z23
  by_cases z24 : r21.1 = 3
  · replace h := it_t h z24
    refine ct_tsw (q := 100) 3 z24 dX7_pace_59 (by decide) (by decide) rfl (by decide) ?_
    refine ct_iconst (v := 2) (q := 101) dX7_pace_100 (by decide) rfl ?_
    refine ct_iload_3 (q := 102) dX7_pace_101 rfl ?_
    refine ct_iconst (v := 1) (q := 103) dX7_pace_102 (by decide) rfl ?_
    refine ct_iadd (q := 104) dX7_pace_103 rfl ?_
    refine ct_imul (q := 105) dX7_pace_104 rfl ?_
    exact ct_iret dX7_pace_105 rfl ⟨Nat.le_refl 0, Nat.le_refl 0⟩ (poI_of h)
  replace h := it_f h z24
  by_cases z25 : r21.1 = 4
  · replace h := it_t h z25
    refine ct_tsw (q := 106) 4 z25 dX7_pace_59 (by decide) (by decide) rfl (by decide) ?_
    refine ct_iconst (v := 0) (q := 107) dX7_pace_106 (by decide) rfl ?_
    exact ct_iret dX7_pace_107 rfl ⟨Nat.le_refl 0, Nat.le_refl 0⟩ (poI_of h)
  replace h := it_f h z25
  by_cases z26 : r21.1 = 5
  · replace h := it_t h z26
    refine ct_tsw (q := 108) 5 z26 dX7_pace_59 (by decide) (by decide) rfl (by decide) ?_
    refine ct_iload_3 (q := 109) dX7_pace_108 rfl ?_
    refine ct_iconst (v := 2) (q := 110) dX7_pace_109 (by decide) rfl ?_
    refine ct_iadd (q := 111) dX7_pace_110 rfl ?_
    exact ct_iret dX7_pace_111 rfl ⟨Nat.le_refl 0, Nat.le_refl 0⟩ (poI_of h)
  replace h := it_f h z26
  refine ct_tswD (q := 112) dX7_pace_59 (by have := And.intro (lv_neT z22 (show Int32.toInt (1) = 1 by decide)) trivial; have y0 := lv_neT z22 (show Int32.toInt (1) = 1 by decide); have y1 := lv_neT z23 (show Int32.toInt (2) = 2 by decide); have y2 := lv_neT z24 (show Int32.toInt (3) = 3 by decide); have y3 := lv_neT z25 (show Int32.toInt (4) = 4 by decide); have y4 := lv_neT z26 (show Int32.toInt (5) = 5 by decide); omega) (by decide) ?_
  refine ct_iload_3 (q := 113) dX7_pace_112 rfl ?_
  exact ct_iret dX7_pace_113 rfl ⟨Nat.le_refl 0, Nat.le_refl 0⟩ (poI_of h)

def fX7_pace (a0 : Nat) (x1 : Int32) (M : ctM) : Option (Int32 × ctM) :=
  (cV kdM 7 a0 (fX7_of a0 x1 3 M)).bind fun r21 =>
  (cV kdM 7 a0 (fX7_counts a0 0 r21.2)).bind fun r22 =>
  if r22.1 < 0 then
    fX7_pace_b53 a0 x1 (12 - r21.1) r22.2
  else
    (gP kdM 7 29 a0 r22.2).bind fun a24 =>
    (sI kdM lnM 9 a24 115 r21.1 r22.2).bind fun M25 =>
    (gP kdM 7 29 a0 M25).bind fun a26 =>
    (sI kdM lnM 9 a26 110 x1 M25).bind fun M27 =>
    (cV kdM 7 a0 (fX7_worked a0 r22.1 M27)).bind fun r28 =>
    (fX7_within r28.1 0 40 r28.2).bind fun r29 =>
    fX7_pace_b53 a0 x1 r29.1 r29.2

set_option maxHeartbeats 4000000 in
set_option maxRecDepth 20000 in
theorem ctX7_pace {B : ctB} {n : Nat} (hB : ctOk B kdM lnM n) {a0 : Nat} {x1 : Int32} {M : ctM} {r : Int32 × ctM} (h : fX7_pace a0 x1 M = some r) : ctC B mX7_pace (2, 0, 0) [.ref a0, .int x1] n M (poI r n) := by
  refine ctC_of (by decide) (Nat.le_of_ble_eq_true rfl) ?_
  show ctV B mX7_pace (2, 0, 0) (poI r n) 0 [some (.ref a0), some (.int x1), none, none, none] [] (0, 0) n M
  unfold fX7_pace at h
  refine ct_aload_0 (q := 1) dX7_pace_0 rfl ?_
  refine ct_iload_1 (q := 2) dX7_pace_1 rfl ?_
  refine ct_iconst (v := 3) (q := 3) dX7_pace_2 (by decide) rfl ?_
  obtain ⟨r21, gr21, h⟩ := ob h
  obtain ⟨er21, gr21⟩ := cV_spec gr21
  refine ct_cVi2 (q := 6) hB dX7_pace_3 lk_RX7_80 (by decide) (ctX7_of hB gr21) er21 (by decide) rfl (Nat.le_of_ble_eq_true rfl) rfl ?_
  refine ct_istore_2 (q := 7) dX7_pace_6 (by decide) rfl rfl ?_
  refine ct_bipush (v := 12) (q := 9) dX7_pace_7 (by decide) rfl ?_
  refine ct_iload_2 (q := 10) dX7_pace_9 rfl ?_
  refine ct_isub (q := 11) dX7_pace_10 rfl ?_
  refine ct_istore_3 (q := 12) dX7_pace_11 (by decide) rfl rfl ?_
  refine ct_aload_0 (q := 13) dX7_pace_12 rfl ?_
  refine ct_iconst (v := 0) (q := 14) dX7_pace_13 (by decide) rfl ?_
  obtain ⟨r22, gr22, h⟩ := ob h
  obtain ⟨er22, gr22⟩ := cV_spec gr22
  refine ct_cVi1 (q := 17) hB dX7_pace_14 lk_RX7_99 (by decide) (ctX7_counts hB gr22) er22 (by decide) rfl (Nat.le_of_ble_eq_true rfl) rfl ?_
  refine ct_istore_4 (q := 19) dX7_pace_17 (by decide) rfl rfl ?_
  refine ct_iload_4 (q := 21) dX7_pace_19 rfl ?_
  refine ct_if_lt (q := 24) (tgt := 53) dX7_pace_21 (by decide) rfl (fun z23 => ?_) (fun z23 => ?_)
  · replace h := it_t h z23
    exact ct_lessK (vX7_pace_b53 hB  a0 x1 (12 - r21.1) r22.2 r h) (And.intro rfl (And.intro rfl (And.intro rfl (trivial))))
  · replace h := it_f h z23
    refine ct_aload_0 (q := 25) dX7_pace_24 rfl ?_
    obtain ⟨a24, ga24, h⟩ := ob h
    refine ct_getP (q := 28) hB dX7_pace_25 fl_RX7_56 rfl ga24 rfl ?_
    refine ct_bipush (v := 115) (q := 30) dX7_pace_28 (by decide) rfl ?_
    refine ct_iload_2 (q := 31) dX7_pace_30 rfl ?_
    obtain ⟨M25, gM25, h⟩ := ob h
    refine ct_iast (q := 32) hB dX7_pace_31 gM25 rfl ?_
    refine ct_aload_0 (q := 33) dX7_pace_32 rfl ?_
    obtain ⟨a26, ga26, h⟩ := ob h
    refine ct_getP (q := 36) hB dX7_pace_33 fl_RX7_56 rfl ga26 rfl ?_
    refine ct_bipush (v := 110) (q := 38) dX7_pace_36 (by decide) rfl ?_
    refine ct_iload_1 (q := 39) dX7_pace_38 rfl ?_
    obtain ⟨M27, gM27, h⟩ := ob h
    refine ct_iast (q := 40) hB dX7_pace_39 gM27 rfl ?_
    refine ct_aload_0 (q := 41) dX7_pace_40 rfl ?_
    refine ct_iload_4 (q := 43) dX7_pace_41 rfl ?_
    obtain ⟨r28, gr28, h⟩ := ob h
    obtain ⟨er28, gr28⟩ := cV_spec gr28
    refine ct_cVi1 (q := 46) hB dX7_pace_43 lk_RX7_102 (by decide) (ctX7_worked hB gr28) er28 (by decide) rfl (Nat.le_of_ble_eq_true rfl) rfl ?_
    refine ct_iconst (v := 0) (q := 47) dX7_pace_46 (by decide) rfl ?_
    refine ct_bipush (v := 40) (q := 49) dX7_pace_47 (by decide) rfl ?_
    obtain ⟨r29, gr29, h⟩ := ob h
    refine ct_cSi3 (q := 52) dX7_pace_49 lk_RX7_105 (by decide) (ctX7_within hB gr29) (Nat.le_of_ble_eq_true rfl) rfl ?_
    refine ct_istore_3 (q := 53) dX7_pace_52 (by decide) rfl rfl ?_
    exact ct_lessK (vX7_pace_b53 hB  a0 x1 r29.1 r29.2 r h) (And.intro rfl (And.intro rfl (And.intro rfl (trivial))))

def fX7_worth (a0 : Nat) (x1 : Int32) (M : ctM) : Option (Int32 × ctM) :=
  (cV kdM 7 a0 (fX7_of a0 x1 3 M)).bind fun r21 =>
  (cV kdM 7 a0 (fX7_of a0 x1 0 r21.2)).bind fun r22 =>
  if r22.1 = 1 then
    some ((r21.1 + 4), r22.2)
  else
  if r22.1 = 2 then
    some ((9 - r21.1), r22.2)
  else
  if r22.1 = 3 then
    some ((2 * (r21.1 + 4)), r22.2)
  else
  if r22.1 = 4 then
    some ((7 - r21.1), r22.2)
  else
  if r22.1 = 5 then
    some ((r21.1 * r21.1), r22.2)
  else
    some (r21.1, r22.2)

set_option maxHeartbeats 4000000 in
set_option maxRecDepth 20000 in
theorem ctX7_worth {B : ctB} {n : Nat} (hB : ctOk B kdM lnM n) {a0 : Nat} {x1 : Int32} {M : ctM} {r : Int32 × ctM} (h : fX7_worth a0 x1 M = some r) : ctC B mX7_worth (2, 0, 0) [.ref a0, .int x1] n M (poI r n) := by
  refine ctC_of (by decide) (Nat.le_of_ble_eq_true rfl) ?_
  show ctV B mX7_worth (2, 0, 0) (poI r n) 0 [some (.ref a0), some (.int x1), none] [] (0, 0) n M
  unfold fX7_worth at h
  refine ct_aload_0 (q := 1) dX7_worth_0 rfl ?_
  refine ct_iload_1 (q := 2) dX7_worth_1 rfl ?_
  refine ct_iconst (v := 3) (q := 3) dX7_worth_2 (by decide) rfl ?_
  obtain ⟨r21, gr21, h⟩ := ob h
  obtain ⟨er21, gr21⟩ := cV_spec gr21
  refine ct_cVi2 (q := 6) hB dX7_worth_3 lk_RX7_80 (by decide) (ctX7_of hB gr21) er21 (by decide) rfl (Nat.le_of_ble_eq_true rfl) rfl ?_
  refine ct_istore_2 (q := 7) dX7_worth_6 (by decide) rfl rfl ?_
  refine ct_aload_0 (q := 8) dX7_worth_7 rfl ?_
  refine ct_iload_1 (q := 9) dX7_worth_8 rfl ?_
  refine ct_iconst (v := 0) (q := 10) dX7_worth_9 (by decide) rfl ?_
  obtain ⟨r22, gr22, h⟩ := ob h
  obtain ⟨er22, gr22⟩ := cV_spec gr22
  refine ct_cVi2 (q := 13) hB dX7_worth_10 lk_RX7_80 (by decide) (ctX7_of hB gr22) er22 (by decide) rfl (Nat.le_of_ble_eq_true rfl) rfl ?_
  by_cases z23 : r22.1 = 1
  · replace h := it_t h z23
    refine ct_tsw (q := 48) 1 z23 dX7_worth_13 (by decide) (by decide) rfl (by decide) ?_
    refine ct_iload_2 (q := 49) dX7_worth_48 rfl ?_
    refine ct_iconst (v := 4) (q := 50) dX7_worth_49 (by decide) rfl ?_
    refine ct_iadd (q := 51) dX7_worth_50 rfl ?_
    exact ct_iret dX7_worth_51 rfl ⟨Nat.le_refl 0, Nat.le_refl 0⟩ (poI_of h)
  replace h := it_f h z23
  by_cases z24 : r22.1 = 2
  · replace h := it_t h z24
    refine ct_tsw (q := 52) 2 z24 dX7_worth_13 (by decide) (by decide) rfl (by decide) ?_
    refine ct_bipush (v := 9) (q := 54) dX7_worth_52 (by decide) rfl ?_
    refine ct_iload_2 (q := 55) dX7_worth_54 rfl ?_
    refine ct_isub (q := 56) dX7_worth_55 rfl ?_
    exact ct_iret dX7_worth_56 rfl ⟨Nat.le_refl 0, Nat.le_refl 0⟩ (poI_of h)
  replace h := it_f h z24
  by_cases z25 : r22.1 = 3
  · replace h := it_t h z25
    refine ct_tsw (q := 57) 3 z25 dX7_worth_13 (by decide) (by decide) rfl (by decide) ?_
    refine ct_iconst (v := 2) (q := 58) dX7_worth_57 (by decide) rfl ?_
    refine ct_iload_2 (q := 59) dX7_worth_58 rfl ?_
    refine ct_iconst (v := 4) (q := 60) dX7_worth_59 (by decide) rfl ?_
    refine ct_iadd (q := 61) dX7_worth_60 rfl ?_
    refine ct_imul (q := 62) dX7_worth_61 rfl ?_
    exact ct_iret dX7_worth_62 rfl ⟨Nat.le_refl 0, Nat.le_refl 0⟩ (poI_of h)
  replace h := it_f h z25
  by_cases z26 : r22.1 = 4
  · replace h := it_t h z26
    refine ct_tsw (q := 63) 4 z26 dX7_worth_13 (by decide) (by decide) rfl (by decide) ?_
    refine ct_bipush (v := 7) (q := 65) dX7_worth_63 (by decide) rfl ?_
    refine ct_iload_2 (q := 66) dX7_worth_65 rfl ?_
    refine ct_isub (q := 67) dX7_worth_66 rfl ?_
    exact ct_iret dX7_worth_67 rfl ⟨Nat.le_refl 0, Nat.le_refl 0⟩ (poI_of h)
  replace h := it_f h z26
  by_cases z27 : r22.1 = 5
  · replace h := it_t h z27
    refine ct_tsw (q := 68) 5 z27 dX7_worth_13 (by decide) (by decide) rfl (by decide) ?_
    refine ct_iload_2 (q := 69) dX7_worth_68 rfl ?_
    refine ct_iload_2 (q := 70) dX7_worth_69 rfl ?_
    refine ct_imul (q := 71) dX7_worth_70 rfl ?_
    exact ct_iret dX7_worth_71 rfl ⟨Nat.le_refl 0, Nat.le_refl 0⟩ (poI_of h)
  replace h := it_f h z27
  refine ct_tswD (q := 72) dX7_worth_13 (by have := And.intro (lv_neT z23 (show Int32.toInt (1) = 1 by decide)) trivial; have y0 := lv_neT z23 (show Int32.toInt (1) = 1 by decide); have y1 := lv_neT z24 (show Int32.toInt (2) = 2 by decide); have y2 := lv_neT z25 (show Int32.toInt (3) = 3 by decide); have y3 := lv_neT z26 (show Int32.toInt (4) = 4 by decide); have y4 := lv_neT z27 (show Int32.toInt (5) = 5 by decide); omega) (by decide) ?_
  refine ct_iload_2 (q := 73) dX7_worth_72 rfl ?_
  exact ct_iret dX7_worth_73 rfl ⟨Nat.le_refl 0, Nat.le_refl 0⟩ (poI_of h)

def fX7_off (x0 : Int32) (x1 : Int32) (M : ctM) : Option (Int32 × ctM) :=
  if x0 ≤ x1 then
    some ((x1 - x0), M)
  else
    some ((x0 - x1), M)

set_option maxHeartbeats 4000000 in
set_option maxRecDepth 20000 in
theorem ctX7_off {B : ctB} {n : Nat} (hB : ctOk B kdM lnM n) {x0 : Int32} {x1 : Int32} {M : ctM} {r : Int32 × ctM} (h : fX7_off x0 x1 M = some r) : ctC B mX7_off (0, 0, 0) [.int x0, .int x1] n M (poI r n) := by
  refine ctC_of (by decide) (Nat.le_of_ble_eq_true rfl) ?_
  show ctV B mX7_off (0, 0, 0) (poI r n) 0 [some (.int x0), some (.int x1)] [] (0, 0) n M
  unfold fX7_off at h
  refine ct_iload_0 (q := 1) dX7_off_0 rfl ?_
  refine ct_iload_1 (q := 2) dX7_off_1 rfl ?_
  refine ct_icmp_le (q := 5) (tgt := 11) dX7_off_2 (by decide) rfl (fun z21 => ?_) (fun z21 => ?_)
  · replace h := it_t h z21
    refine ct_iload_1 (q := 12) dX7_off_11 rfl ?_
    refine ct_iload_0 (q := 13) dX7_off_12 rfl ?_
    refine ct_isub (q := 14) dX7_off_13 rfl ?_
    exact ct_iret dX7_off_14 rfl ⟨Nat.le_refl 0, Nat.le_refl 0⟩ (poI_of h)
  · replace h := it_f h z21
    refine ct_iload_0 (q := 6) dX7_off_5 rfl ?_
    refine ct_iload_1 (q := 7) dX7_off_6 rfl ?_
    refine ct_isub (q := 8) dX7_off_7 rfl ?_
    refine ct_goto (q := 14) dX7_off_8 (by decide) ?_
    exact ct_iret dX7_off_14 rfl ⟨Nat.le_refl 0, Nat.le_refl 0⟩ (poI_of h)

def fX7_ahead (x0 : Int32) (x1 : Int32) (M : ctM) : Option (Int32 × ctM) :=
  if (-60) ≤ (x0 - x1) then
    if (x0 - x1) ≤ 59 then
      some ((x0 - x1), M)
    else
      some (((x0 - x1) - 120), M)
  else
    some (((x0 - x1) + 120), M)

set_option maxHeartbeats 4000000 in
set_option maxRecDepth 20000 in
theorem ctX7_ahead {B : ctB} {n : Nat} (hB : ctOk B kdM lnM n) {x0 : Int32} {x1 : Int32} {M : ctM} {r : Int32 × ctM} (h : fX7_ahead x0 x1 M = some r) : ctC B mX7_ahead (0, 0, 0) [.int x0, .int x1] n M (poI r n) := by
  refine ctC_of (by decide) (Nat.le_of_ble_eq_true rfl) ?_
  show ctV B mX7_ahead (0, 0, 0) (poI r n) 0 [some (.int x0), some (.int x1), none] [] (0, 0) n M
  unfold fX7_ahead at h
  refine ct_iload_0 (q := 1) dX7_ahead_0 rfl ?_
  refine ct_iload_1 (q := 2) dX7_ahead_1 rfl ?_
  refine ct_isub (q := 3) dX7_ahead_2 rfl ?_
  refine ct_istore_2 (q := 4) dX7_ahead_3 (by decide) rfl rfl ?_
  refine ct_iload_2 (q := 5) dX7_ahead_4 rfl ?_
  refine ct_bipush (v := -60) (q := 7) dX7_ahead_5 (by decide) rfl ?_
  refine ct_icmp_ge (q := 10) (tgt := 17) dX7_ahead_7 (by decide) rfl (fun z21 => ?_) (fun z21 => ?_)
  · replace h := it_t h z21
    refine ct_iload_2 (q := 18) dX7_ahead_17 rfl ?_
    refine ct_bipush (v := 59) (q := 20) dX7_ahead_18 (by decide) rfl ?_
    refine ct_icmp_le (q := 23) (tgt := 30) dX7_ahead_20 (by decide) rfl (fun z22 => ?_) (fun z22 => ?_)
    · replace h := it_t h z22
      refine ct_iload_2 (q := 31) dX7_ahead_30 rfl ?_
      exact ct_iret dX7_ahead_31 rfl ⟨Nat.le_refl 0, Nat.le_refl 0⟩ (poI_of h)
    · replace h := it_f h z22
      refine ct_iload_2 (q := 24) dX7_ahead_23 rfl ?_
      refine ct_bipush (v := 120) (q := 26) dX7_ahead_24 (by decide) rfl ?_
      refine ct_isub (q := 27) dX7_ahead_26 rfl ?_
      refine ct_goto (q := 31) dX7_ahead_27 (by decide) ?_
      exact ct_iret dX7_ahead_31 rfl ⟨Nat.le_refl 0, Nat.le_refl 0⟩ (poI_of h)
  · replace h := it_f h z21
    refine ct_iload_2 (q := 11) dX7_ahead_10 rfl ?_
    refine ct_bipush (v := 120) (q := 13) dX7_ahead_11 (by decide) rfl ?_
    refine ct_iadd (q := 14) dX7_ahead_13 rfl ?_
    refine ct_goto (q := 31) dX7_ahead_14 (by decide) ?_
    exact ct_iret dX7_ahead_31 rfl ⟨Nat.le_refl 0, Nat.le_refl 0⟩ (poI_of h)

def fX7_pushOf (a0 : Nat) (x1 : Int32) (x2 : Int32) (M : ctM) : Option (Int32 × ctM) :=
  (cV kdM 7 a0 (fX7_isLit a0 x1 M)).bind fun r21 =>
  if r21.1 = 0 then
    some (0, r21.2)
  else
    (cV kdM 7 a0 (fX7_isLit a0 x2 r21.2)).bind fun r23 =>
    if r23.1 = 0 then
      some (0, r23.2)
    else
      (gP kdM 7 0 a0 r23.2).bind fun a25 =>
      (aI kdM lnM 9 a25 (6 + x1) r23.2).bind fun x26 =>
      if ((x26 >>> (x2 &&& 31)) &&& 1) = 1 then
        some (0, r23.2)
      else
        (cV kdM 7 a0 (fX7_of a0 x1 1 r23.2)).bind fun r28 =>
        (cV kdM 7 a0 (fX7_of a0 x2 1 r28.2)).bind fun r29 =>
        (fX7_off r28.1 r29.1 r29.2).bind fun r30 =>
        (cV kdM 7 a0 (fX7_of a0 x1 2 r30.2)).bind fun r31 =>
        (cV kdM 7 a0 (fX7_of a0 x2 2 r31.2)).bind fun r32 =>
        (fX7_off r31.1 r32.1 r32.2).bind fun r33 =>
        (cV kdM 7 a0 (fX7_of a0 x2 4 r33.2)).bind fun r34 =>
        (cV kdM 7 a0 (fX7_of a0 x1 4 r34.2)).bind fun r35 =>
        (fX7_ahead r34.1 r35.1 r35.2).bind fun r36 =>
        (cV kdM 7 a0 (fX7_counts a0 1 r36.2)).bind fun r37 =>
        if 0 ≤ r37.1 then
          (gP kdM 7 29 a0 r37.2).bind fun a39 =>
          (sI kdM lnM 9 a39 100 (r30.1 + r33.1) r37.2).bind fun M40 =>
          (gP kdM 7 29 a0 M40).bind fun a41 =>
          (sI kdM lnM 9 a41 112 r36.1 M40).bind fun M42 =>
          (gP kdM 7 29 a0 M42).bind fun a43 =>
          (cV kdM 7 a0 (fX7_of a0 x2 3 M42)).bind fun r44 =>
          (sI kdM lnM 9 a43 115 r44.1 r44.2).bind fun M45 =>
          (cV kdM 7 a0 (fX7_worked a0 r37.1 M45)).bind fun r46 =>
          (fX7_within r46.1 (-20) 20 r46.2).bind fun r47 =>
          some (r47.1, r47.2)
        else
          (gP kdM 7 0 a0 r37.2).bind fun a48 =>
          (aI kdM lnM 9 a48 3 r37.2).bind fun x49 =>
          if x49 < (r30.1 + r33.1) then
            (gP kdM 7 0 a0 r37.2).bind fun a51 =>
            (aI kdM lnM 9 a51 4 r37.2).bind fun x52 =>
            if x52 < (r30.1 + r33.1) then
              some (0, r37.2)
            else
              some (((-r36.1) / 4), r37.2)
          else
            some ((r36.1 / 4), r37.2)

set_option maxHeartbeats 4000000 in
set_option maxRecDepth 20000 in
theorem ctX7_pushOf {B : ctB} {n : Nat} (hB : ctOk B kdM lnM n) {a0 : Nat} {x1 : Int32} {x2 : Int32} {M : ctM} {r : Int32 × ctM} (h : fX7_pushOf a0 x1 x2 M = some r) : ctC B mX7_pushOf (3, 0, 0) [.ref a0, .int x1, .int x2] n M (poI r n) := by
  refine ctC_of (by decide) (Nat.le_of_ble_eq_true rfl) ?_
  show ctV B mX7_pushOf (3, 0, 0) (poI r n) 0 [some (.ref a0), some (.int x1), some (.int x2), none, none, none] [] (0, 0) n M
  unfold fX7_pushOf at h
  refine ct_aload_0 (q := 1) dX7_pushOf_0 rfl ?_
  refine ct_iload_1 (q := 2) dX7_pushOf_1 rfl ?_
  obtain ⟨r21, gr21, h⟩ := ob h
  obtain ⟨er21, gr21⟩ := cV_spec gr21
  refine ct_cVi1 (q := 5) hB dX7_pushOf_2 lk_RX7_109 (by decide) (ctX7_isLit hB gr21) er21 (by decide) rfl (Nat.le_of_ble_eq_true rfl) rfl ?_
  refine ct_if_eq (q := 8) (tgt := 33) dX7_pushOf_5 (by decide) rfl (fun z22 => ?_) (fun z22 => ?_)
  · replace h := it_t h z22
    refine ct_iconst (v := 0) (q := 34) dX7_pushOf_33 (by decide) rfl ?_
    exact ct_iret dX7_pushOf_34 rfl ⟨Nat.le_refl 0, Nat.le_refl 0⟩ (poI_of h)
  · replace h := it_f h z22
    refine ct_aload_0 (q := 9) dX7_pushOf_8 rfl ?_
    refine ct_iload_2 (q := 10) dX7_pushOf_9 rfl ?_
    obtain ⟨r23, gr23, h⟩ := ob h
    obtain ⟨er23, gr23⟩ := cV_spec gr23
    refine ct_cVi1 (q := 13) hB dX7_pushOf_10 lk_RX7_109 (by decide) (ctX7_isLit hB gr23) er23 (by decide) rfl (Nat.le_of_ble_eq_true rfl) rfl ?_
    refine ct_if_eq (q := 16) (tgt := 33) dX7_pushOf_13 (by decide) rfl (fun z24 => ?_) (fun z24 => ?_)
    · replace h := it_t h z24
      refine ct_iconst (v := 0) (q := 34) dX7_pushOf_33 (by decide) rfl ?_
      exact ct_iret dX7_pushOf_34 rfl ⟨Nat.le_refl 0, Nat.le_refl 0⟩ (poI_of h)
    · replace h := it_f h z24
      refine ct_aload_0 (q := 17) dX7_pushOf_16 rfl ?_
      obtain ⟨a25, ga25, h⟩ := ob h
      refine ct_getP (q := 20) hB dX7_pushOf_17 fl_RX7_7 rfl ga25 rfl ?_
      refine ct_bipush (v := 6) (q := 22) dX7_pushOf_20 (by decide) rfl ?_
      refine ct_iload_1 (q := 23) dX7_pushOf_22 rfl ?_
      refine ct_iadd (q := 24) dX7_pushOf_23 rfl ?_
      obtain ⟨x26, gx26, h⟩ := ob h
      refine ct_iald (q := 25) hB dX7_pushOf_24 gx26 rfl ?_
      refine ct_iload_2 (q := 26) dX7_pushOf_25 rfl ?_
      refine ct_ishr (q := 27) dX7_pushOf_26 rfl ?_
      refine ct_iconst (v := 1) (q := 28) dX7_pushOf_27 (by decide) rfl ?_
      refine ct_iand (q := 29) dX7_pushOf_28 rfl ?_
      refine ct_iconst (v := 1) (q := 30) dX7_pushOf_29 (by decide) rfl ?_
      refine ct_icmp_ne (q := 33) (tgt := 35) dX7_pushOf_30 (by decide) rfl (fun z27 => ?_) (fun z27 => ?_)
      · replace h := it_f h z27
        refine ct_aload_0 (q := 36) dX7_pushOf_35 rfl ?_
        refine ct_iload_1 (q := 37) dX7_pushOf_36 rfl ?_
        refine ct_iconst (v := 1) (q := 38) dX7_pushOf_37 (by decide) rfl ?_
        obtain ⟨r28, gr28, h⟩ := ob h
        obtain ⟨er28, gr28⟩ := cV_spec gr28
        refine ct_cVi2 (q := 41) hB dX7_pushOf_38 lk_RX7_80 (by decide) (ctX7_of hB gr28) er28 (by decide) rfl (Nat.le_of_ble_eq_true rfl) rfl ?_
        refine ct_aload_0 (q := 42) dX7_pushOf_41 rfl ?_
        refine ct_iload_2 (q := 43) dX7_pushOf_42 rfl ?_
        refine ct_iconst (v := 1) (q := 44) dX7_pushOf_43 (by decide) rfl ?_
        obtain ⟨r29, gr29, h⟩ := ob h
        obtain ⟨er29, gr29⟩ := cV_spec gr29
        refine ct_cVi2 (q := 47) hB dX7_pushOf_44 lk_RX7_80 (by decide) (ctX7_of hB gr29) er29 (by decide) rfl (Nat.le_of_ble_eq_true rfl) rfl ?_
        obtain ⟨r30, gr30, h⟩ := ob h
        refine ct_cSi2 (q := 50) dX7_pushOf_47 lk_RX7_112 (by decide) (ctX7_off hB gr30) (Nat.le_of_ble_eq_true rfl) rfl ?_
        refine ct_aload_0 (q := 51) dX7_pushOf_50 rfl ?_
        refine ct_iload_1 (q := 52) dX7_pushOf_51 rfl ?_
        refine ct_iconst (v := 2) (q := 53) dX7_pushOf_52 (by decide) rfl ?_
        obtain ⟨r31, gr31, h⟩ := ob h
        obtain ⟨er31, gr31⟩ := cV_spec gr31
        refine ct_cVi2 (q := 56) hB dX7_pushOf_53 lk_RX7_80 (by decide) (ctX7_of hB gr31) er31 (by decide) rfl (Nat.le_of_ble_eq_true rfl) rfl ?_
        refine ct_aload_0 (q := 57) dX7_pushOf_56 rfl ?_
        refine ct_iload_2 (q := 58) dX7_pushOf_57 rfl ?_
        refine ct_iconst (v := 2) (q := 59) dX7_pushOf_58 (by decide) rfl ?_
        obtain ⟨r32, gr32, h⟩ := ob h
        obtain ⟨er32, gr32⟩ := cV_spec gr32
        refine ct_cVi2 (q := 62) hB dX7_pushOf_59 lk_RX7_80 (by decide) (ctX7_of hB gr32) er32 (by decide) rfl (Nat.le_of_ble_eq_true rfl) rfl ?_
        obtain ⟨r33, gr33, h⟩ := ob h
        refine ct_cSi2 (q := 65) dX7_pushOf_62 lk_RX7_112 (by decide) (ctX7_off hB gr33) (Nat.le_of_ble_eq_true rfl) rfl ?_
        refine ct_iadd (q := 66) dX7_pushOf_65 rfl ?_
        refine ct_istore_3 (q := 67) dX7_pushOf_66 (by decide) rfl rfl ?_
        refine ct_aload_0 (q := 68) dX7_pushOf_67 rfl ?_
        refine ct_iload_2 (q := 69) dX7_pushOf_68 rfl ?_
        refine ct_iconst (v := 4) (q := 70) dX7_pushOf_69 (by decide) rfl ?_
        obtain ⟨r34, gr34, h⟩ := ob h
        obtain ⟨er34, gr34⟩ := cV_spec gr34
        refine ct_cVi2 (q := 73) hB dX7_pushOf_70 lk_RX7_80 (by decide) (ctX7_of hB gr34) er34 (by decide) rfl (Nat.le_of_ble_eq_true rfl) rfl ?_
        refine ct_aload_0 (q := 74) dX7_pushOf_73 rfl ?_
        refine ct_iload_1 (q := 75) dX7_pushOf_74 rfl ?_
        refine ct_iconst (v := 4) (q := 76) dX7_pushOf_75 (by decide) rfl ?_
        obtain ⟨r35, gr35, h⟩ := ob h
        obtain ⟨er35, gr35⟩ := cV_spec gr35
        refine ct_cVi2 (q := 79) hB dX7_pushOf_76 lk_RX7_80 (by decide) (ctX7_of hB gr35) er35 (by decide) rfl (Nat.le_of_ble_eq_true rfl) rfl ?_
        obtain ⟨r36, gr36, h⟩ := ob h
        refine ct_cSi2 (q := 82) dX7_pushOf_79 lk_RX7_115 (by decide) (ctX7_ahead hB gr36) (Nat.le_of_ble_eq_true rfl) rfl ?_
        refine ct_istore_4 (q := 84) dX7_pushOf_82 (by decide) rfl rfl ?_
        refine ct_aload_0 (q := 85) dX7_pushOf_84 rfl ?_
        refine ct_iconst (v := 1) (q := 86) dX7_pushOf_85 (by decide) rfl ?_
        obtain ⟨r37, gr37, h⟩ := ob h
        obtain ⟨er37, gr37⟩ := cV_spec gr37
        refine ct_cVi1 (q := 89) hB dX7_pushOf_86 lk_RX7_99 (by decide) (ctX7_counts hB gr37) er37 (by decide) rfl (Nat.le_of_ble_eq_true rfl) rfl ?_
        refine ct_istore_5 (q := 91) dX7_pushOf_89 (by decide) rfl rfl ?_
        refine ct_iload_5 (q := 93) dX7_pushOf_91 rfl ?_
        refine ct_if_ge (q := 96) (tgt := 133) dX7_pushOf_93 (by decide) rfl (fun z38 => ?_) (fun z38 => ?_)
        · replace h := it_t h z38
          refine ct_aload_0 (q := 134) dX7_pushOf_133 rfl ?_
          obtain ⟨a39, ga39, h⟩ := ob h
          refine ct_getP (q := 137) hB dX7_pushOf_134 fl_RX7_56 rfl ga39 rfl ?_
          refine ct_bipush (v := 100) (q := 139) dX7_pushOf_137 (by decide) rfl ?_
          refine ct_iload_3 (q := 140) dX7_pushOf_139 rfl ?_
          obtain ⟨M40, gM40, h⟩ := ob h
          refine ct_iast (q := 141) hB dX7_pushOf_140 gM40 rfl ?_
          refine ct_aload_0 (q := 142) dX7_pushOf_141 rfl ?_
          obtain ⟨a41, ga41, h⟩ := ob h
          refine ct_getP (q := 145) hB dX7_pushOf_142 fl_RX7_56 rfl ga41 rfl ?_
          refine ct_bipush (v := 112) (q := 147) dX7_pushOf_145 (by decide) rfl ?_
          refine ct_iload_4 (q := 149) dX7_pushOf_147 rfl ?_
          obtain ⟨M42, gM42, h⟩ := ob h
          refine ct_iast (q := 150) hB dX7_pushOf_149 gM42 rfl ?_
          refine ct_aload_0 (q := 151) dX7_pushOf_150 rfl ?_
          obtain ⟨a43, ga43, h⟩ := ob h
          refine ct_getP (q := 154) hB dX7_pushOf_151 fl_RX7_56 rfl ga43 rfl ?_
          refine ct_bipush (v := 115) (q := 156) dX7_pushOf_154 (by decide) rfl ?_
          refine ct_aload_0 (q := 157) dX7_pushOf_156 rfl ?_
          refine ct_iload_2 (q := 158) dX7_pushOf_157 rfl ?_
          refine ct_iconst (v := 3) (q := 159) dX7_pushOf_158 (by decide) rfl ?_
          obtain ⟨r44, gr44, h⟩ := ob h
          obtain ⟨er44, gr44⟩ := cV_spec gr44
          refine ct_cVi2 (q := 162) hB dX7_pushOf_159 lk_RX7_80 (by decide) (ctX7_of hB gr44) er44 (by decide) rfl (Nat.le_of_ble_eq_true rfl) rfl ?_
          obtain ⟨M45, gM45, h⟩ := ob h
          refine ct_iast (q := 163) hB dX7_pushOf_162 gM45 rfl ?_
          refine ct_aload_0 (q := 164) dX7_pushOf_163 rfl ?_
          refine ct_iload_5 (q := 166) dX7_pushOf_164 rfl ?_
          obtain ⟨r46, gr46, h⟩ := ob h
          obtain ⟨er46, gr46⟩ := cV_spec gr46
          refine ct_cVi1 (q := 169) hB dX7_pushOf_166 lk_RX7_102 (by decide) (ctX7_worked hB gr46) er46 (by decide) rfl (Nat.le_of_ble_eq_true rfl) rfl ?_
          refine ct_bipush (v := -20) (q := 171) dX7_pushOf_169 (by decide) rfl ?_
          refine ct_bipush (v := 20) (q := 173) dX7_pushOf_171 (by decide) rfl ?_
          obtain ⟨r47, gr47, h⟩ := ob h
          refine ct_cSi3 (q := 176) dX7_pushOf_173 lk_RX7_105 (by decide) (ctX7_within hB gr47) (Nat.le_of_ble_eq_true rfl) rfl ?_
          exact ct_iret dX7_pushOf_176 rfl ⟨Nat.le_refl 0, Nat.le_refl 0⟩ (poI_of h)
        · replace h := it_f h z38
          refine ct_iload_3 (q := 97) dX7_pushOf_96 rfl ?_
          refine ct_aload_0 (q := 98) dX7_pushOf_97 rfl ?_
          obtain ⟨a48, ga48, h⟩ := ob h
          refine ct_getP (q := 101) hB dX7_pushOf_98 fl_RX7_7 rfl ga48 rfl ?_
          refine ct_iconst (v := 3) (q := 102) dX7_pushOf_101 (by decide) rfl ?_
          obtain ⟨x49, gx49, h⟩ := ob h
          refine ct_iald (q := 103) hB dX7_pushOf_102 gx49 rfl ?_
          refine ct_icmp_gt (q := 106) (tgt := 113) dX7_pushOf_103 (by decide) rfl (fun z50 => ?_) (fun z50 => ?_)
          · replace h := it_t h z50
            refine ct_iload_3 (q := 114) dX7_pushOf_113 rfl ?_
            refine ct_aload_0 (q := 115) dX7_pushOf_114 rfl ?_
            obtain ⟨a51, ga51, h⟩ := ob h
            refine ct_getP (q := 118) hB dX7_pushOf_115 fl_RX7_7 rfl ga51 rfl ?_
            refine ct_iconst (v := 4) (q := 119) dX7_pushOf_118 (by decide) rfl ?_
            obtain ⟨x52, gx52, h⟩ := ob h
            refine ct_iald (q := 120) hB dX7_pushOf_119 gx52 rfl ?_
            refine ct_icmp_gt (q := 123) (tgt := 131) dX7_pushOf_120 (by decide) rfl (fun z53 => ?_) (fun z53 => ?_)
            · replace h := it_t h z53
              refine ct_iconst (v := 0) (q := 132) dX7_pushOf_131 (by decide) rfl ?_
              exact ct_iret dX7_pushOf_132 rfl ⟨Nat.le_refl 0, Nat.le_refl 0⟩ (poI_of h)
            · replace h := it_f h z53
              refine ct_iload_4 (q := 125) dX7_pushOf_123 rfl ?_
              refine ct_ineg (q := 126) dX7_pushOf_125 rfl ?_
              refine ct_iconst (v := 4) (q := 127) dX7_pushOf_126 (by decide) rfl ?_
              refine ct_idiv (q := 128) dX7_pushOf_127 (by decide) rfl ?_
              refine ct_goto (q := 132) dX7_pushOf_128 (by decide) ?_
              exact ct_iret dX7_pushOf_132 rfl ⟨Nat.le_refl 0, Nat.le_refl 0⟩ (poI_of h)
          · replace h := it_f h z50
            refine ct_iload_4 (q := 108) dX7_pushOf_106 rfl ?_
            refine ct_iconst (v := 4) (q := 109) dX7_pushOf_108 (by decide) rfl ?_
            refine ct_idiv (q := 110) dX7_pushOf_109 (by decide) rfl ?_
            refine ct_goto (q := 132) dX7_pushOf_110 (by decide) ?_
            exact ct_iret dX7_pushOf_132 rfl ⟨Nat.le_refl 0, Nat.le_refl 0⟩ (poI_of h)
      · replace h := it_t h z27
        refine ct_iconst (v := 0) (q := 34) dX7_pushOf_33 (by decide) rfl ?_
        exact ct_iret dX7_pushOf_34 rfl ⟨Nat.le_refl 0, Nat.le_refl 0⟩ (poI_of h)

def fX7_pushes_b30 (k4 : Nat → Int32 → Int32 → Int32 → ctM → Option (Int32 × ctM)) (a0 : Nat) (x1 : Int32) (x3 : Int32) (xs0 : Int32) (xs1 : Int32) (M : ctM) : Option (Int32 × ctM) :=
  k4 a0 x1 (xs0 + xs1) (x3 + 1) M

set_option maxHeartbeats 4000000 in
set_option maxRecDepth 20000 in
theorem vX7_pushes_b30 {B : ctB} {n : Nat} (hB : ctOk B kdM lnM n) {k4 : Nat → Int32 → Int32 → Int32 → ctM → Option (Int32 × ctM)} (hk4 : ∀ (a0 : Nat) (x1 : Int32) (x2 : Int32) (x3 : Int32) (M : ctM) (r : Int32 × ctM), k4 a0 x1 x2 x3 M = some r → ctV B mX7_pushes (4, 0, 0) (poI r n) 4 [some (.ref a0), some (.int x1), some (.int x2), some (.int x3)] [] (0, 0) n M) : ∀ (a0 : Nat) (x1 : Int32) (x3 : Int32) (xs0 : Int32) (xs1 : Int32) (M : ctM) (r : Int32 × ctM), fX7_pushes_b30 k4 a0 x1 x3 xs0 xs1 M = some r → ctV B mX7_pushes (4, 0, 0) (poI r n) 30 [some (.ref a0), some (.int x1), none, some (.int x3)] [.int xs1, .int xs0] (0, 0) n M := by
  intro a0 x1 x3 xs0 xs1 M r h
  unfold fX7_pushes_b30 at h
  refine ct_iadd (q := 31) dX7_pushes_30 rfl ?_
  refine ct_istore_2 (q := 32) dX7_pushes_31 (by decide) rfl rfl ?_
  refine ct_iinc_3 (q := 35) (v := x3 + 1) dX7_pushes_32 (by first | rfl | decide) (by decide) rfl rfl ?_
  refine ct_goto (q := 4) dX7_pushes_35 (by decide) ?_
  exact ct_lessK (hk4 a0 x1 (xs0 + xs1) (x3 + 1) M r h) (And.intro rfl (And.intro rfl (And.intro rfl (And.intro rfl (trivial)))))

def fX7_pushes_h4 : Nat → Nat → Int32 → Int32 → Int32 → ctM → Option (Int32 × ctM)
  | 0, _, _, _, _, _ => none
  | N + 1, a0, x1, x2, x3, M =>
    (gP kdM 7 0 a0 M).bind fun a21 =>
    (aI kdM lnM 9 a21 0 M).bind fun x22 =>
    if x22 ≤ x3 then
      some (x2, M)
    else
      if x3 = x1 then
        fX7_pushes_b30 (fX7_pushes_h4 N) a0 x1 x3 x2 0 M
      else
        (cV kdM 7 a0 (fX7_pushOf a0 x1 x3 M)).bind fun r25 =>
        fX7_pushes_b30 (fX7_pushes_h4 N) a0 x1 x3 x2 r25.1 r25.2

set_option maxHeartbeats 4000000 in
set_option maxRecDepth 20000 in
theorem vX7_pushes_h4 {B : ctB} {n : Nat} (hB : ctOk B kdM lnM n) : ∀ (N : Nat) (a0 : Nat) (x1 : Int32) (x2 : Int32) (x3 : Int32) (M : ctM) (r : Int32 × ctM), fX7_pushes_h4 N a0 x1 x2 x3 M = some r → ctV B mX7_pushes (4, 0, 0) (poI r n) 4 [some (.ref a0), some (.int x1), some (.int x2), some (.int x3)] [] (0, 0) n M := by
  intro N
  induction N with
  | zero => intro a0 x1 x2 x3 M r h; exact absurd h (by simp [fX7_pushes_h4])
  | succ N ih =>
    intro a0 x1 x2 x3 M r h
    rw [fX7_pushes_h4] at h
    refine ct_iload_3 (q := 5) dX7_pushes_4 rfl ?_
    refine ct_aload_0 (q := 6) dX7_pushes_5 rfl ?_
    obtain ⟨a21, ga21, h⟩ := ob h
    refine ct_getP (q := 9) hB dX7_pushes_6 fl_RX7_7 rfl ga21 rfl ?_
    refine ct_iconst (v := 0) (q := 10) dX7_pushes_9 (by decide) rfl ?_
    obtain ⟨x22, gx22, h⟩ := ob h
    refine ct_iald (q := 11) hB dX7_pushes_10 gx22 rfl ?_
    refine ct_icmp_ge (q := 14) (tgt := 38) dX7_pushes_11 (by decide) rfl (fun z23 => ?_) (fun z23 => ?_)
    · replace h := it_t h z23
      refine ct_iload_2 (q := 39) dX7_pushes_38 rfl ?_
      exact ct_iret dX7_pushes_39 rfl ⟨Nat.le_refl 0, Nat.le_refl 0⟩ (poI_of h)
    · replace h := it_f h z23
      refine ct_iload_2 (q := 15) dX7_pushes_14 rfl ?_
      refine ct_iload_3 (q := 16) dX7_pushes_15 rfl ?_
      refine ct_iload_1 (q := 17) dX7_pushes_16 rfl ?_
      refine ct_icmp_ne (q := 20) (tgt := 24) dX7_pushes_17 (by decide) rfl (fun z24 => ?_) (fun z24 => ?_)
      · replace h := it_f h z24
        refine ct_aload_0 (q := 25) dX7_pushes_24 rfl ?_
        refine ct_iload_1 (q := 26) dX7_pushes_25 rfl ?_
        refine ct_iload_3 (q := 27) dX7_pushes_26 rfl ?_
        obtain ⟨r25, gr25, h⟩ := ob h
        obtain ⟨er25, gr25⟩ := cV_spec gr25
        refine ct_cVi2 (q := 30) hB dX7_pushes_27 lk_RX7_118 (by decide) (ctX7_pushOf hB gr25) er25 (by decide) rfl (Nat.le_of_ble_eq_true rfl) rfl ?_
        exact ct_lessK (vX7_pushes_b30 hB ih a0 x1 x3 x2 r25.1 r25.2 r h) (And.intro rfl (And.intro rfl (And.intro rfl (trivial))))
      · replace h := it_t h z24
        refine ct_iconst (v := 0) (q := 21) dX7_pushes_20 (by decide) rfl ?_
        refine ct_goto (q := 30) dX7_pushes_21 (by decide) ?_
        exact ct_lessK (vX7_pushes_b30 hB ih a0 x1 x3 x2 0 M r h) (And.intro rfl (And.intro rfl (And.intro rfl (trivial))))

def fX7_pushes (a0 : Nat) (x1 : Int32) (M : ctM) : Option (Int32 × ctM) :=
  fX7_pushes_h4 4000 a0 x1 0 0 M

set_option maxHeartbeats 4000000 in
set_option maxRecDepth 20000 in
theorem ctX7_pushes {B : ctB} {n : Nat} (hB : ctOk B kdM lnM n) {a0 : Nat} {x1 : Int32} {M : ctM} {r : Int32 × ctM} (h : fX7_pushes a0 x1 M = some r) : ctC B mX7_pushes (4, 0, 0) [.ref a0, .int x1] n M (poI r n) := by
  refine ctC_of (by decide) (Nat.le_of_ble_eq_true rfl) ?_
  show ctV B mX7_pushes (4, 0, 0) (poI r n) 0 [some (.ref a0), some (.int x1), none, none] [] (0, 0) n M
  unfold fX7_pushes at h
  refine ct_iconst (v := 0) (q := 1) dX7_pushes_0 (by decide) rfl ?_
  refine ct_istore_2 (q := 2) dX7_pushes_1 (by decide) rfl rfl ?_
  refine ct_iconst (v := 0) (q := 3) dX7_pushes_2 (by decide) rfl ?_
  refine ct_istore_3 (q := 4) dX7_pushes_3 (by decide) rfl rfl ?_
  exact ct_lessK (vX7_pushes_h4 hB  4000 a0 x1 0 0 M r h) (And.intro rfl (And.intro rfl (And.intro rfl (And.intro rfl (trivial)))))

def fX7_told (a0 : Nat) (x1 : Int32) (x2 : Int32) (M : ctM) : Option (Int32 × ctM) :=
  (cV kdM 7 a0 (fX7_isFlame a0 x1 M)).bind fun r21 =>
  if r21.1 = 0 then
    some ((-1000000001), r21.2)
  else
    (fX7_isIn ((x2 : Int32).toInt64) 0 6 r21.2).bind fun r23 =>
    if r23.1 = 0 then
      if x2 = 7 then
        (cV kdM 7 a0 (fX7_pace a0 x1 r23.2)).bind fun r30 =>
        some (r30.1, r30.2)
      else
        if x2 = 8 then
          (cV kdM 7 a0 (fX7_pushes a0 x1 r23.2)).bind fun r29 =>
          some (r29.1, r29.2)
        else
          if x2 = 9 then
            (cV kdM 7 a0 (fX7_worth a0 x1 r23.2)).bind fun r28 =>
            some (r28.1, r28.2)
          else
            some ((-1000000001), r23.2)
    else
      (cV kdM 7 a0 (fX7_of a0 x1 x2 r23.2)).bind fun r31 =>
      some (r31.1, r31.2)

set_option maxHeartbeats 4000000 in
set_option maxRecDepth 20000 in
theorem ctX7_told {B : ctB} {n : Nat} (hB : ctOk B kdM lnM n) {a0 : Nat} {x1 : Int32} {x2 : Int32} {M : ctM} {r : Int32 × ctM} (h : fX7_told a0 x1 x2 M = some r) : ctC B mX7_told (5, 0, 0) [.ref a0, .int x1, .int x2] n M (poI r n) := by
  refine ctC_of (by decide) (Nat.le_of_ble_eq_true rfl) ?_
  show ctV B mX7_told (5, 0, 0) (poI r n) 0 [some (.ref a0), some (.int x1), some (.int x2)] [] (0, 0) n M
  unfold fX7_told at h
  refine ct_aload_0 (q := 1) dX7_told_0 rfl ?_
  refine ct_iload_1 (q := 2) dX7_told_1 rfl ?_
  obtain ⟨r21, gr21, h⟩ := ob h
  obtain ⟨er21, gr21⟩ := cV_spec gr21
  refine ct_cVi1 (q := 5) hB dX7_told_2 lk_RX7_121 (by decide) (ctX7_isFlame hB gr21) er21 (by decide) rfl (Nat.le_of_ble_eq_true rfl) rfl ?_
  refine ct_if_ne (q := 8) (tgt := 11) dX7_told_5 (by decide) rfl (fun z22 => ?_) (fun z22 => ?_)
  · replace h := it_f h z22
    refine ct_iload_2 (q := 12) dX7_told_11 rfl ?_
    refine ct_i2l (q := 13) dX7_told_12 rfl ?_
    refine ct_lconst (v := 0) (q := 14) dX7_told_13 (by decide) rfl ?_
    refine ct_ldc2 (q := 17) dX7_told_14 wd_937 rfl ?_
    obtain ⟨r23, gr23, h⟩ := ob h
    refine ct_cSi3 (q := 20) dX7_told_17 lk_RX7_76 (by decide) (ctX7_isIn hB gr23) (Nat.le_of_ble_eq_true rfl) rfl ?_
    refine ct_if_eq (q := 23) (tgt := 30) dX7_told_20 (by decide) rfl (fun z24 => ?_) (fun z24 => ?_)
    · replace h := it_t h z24
      refine ct_iload_2 (q := 31) dX7_told_30 rfl ?_
      refine ct_bipush (v := 7) (q := 33) dX7_told_31 (by decide) rfl ?_
      refine ct_icmp_ne (q := 36) (tgt := 44) dX7_told_33 (by decide) rfl (fun z25 => ?_) (fun z25 => ?_)
      · replace h := it_f h z25
        refine ct_iload_2 (q := 45) dX7_told_44 rfl ?_
        refine ct_bipush (v := 8) (q := 47) dX7_told_45 (by decide) rfl ?_
        refine ct_icmp_ne (q := 50) (tgt := 58) dX7_told_47 (by decide) rfl (fun z26 => ?_) (fun z26 => ?_)
        · replace h := it_f h z26
          refine ct_iload_2 (q := 59) dX7_told_58 rfl ?_
          refine ct_bipush (v := 9) (q := 61) dX7_told_59 (by decide) rfl ?_
          refine ct_icmp_ne (q := 64) (tgt := 72) dX7_told_61 (by decide) rfl (fun z27 => ?_) (fun z27 => ?_)
          · replace h := it_f h z27
            refine ct_ldc (q := 74) dX7_told_72 wd_919 rfl ?_
            exact ct_iret dX7_told_74 rfl ⟨Nat.le_refl 0, Nat.le_refl 0⟩ (poI_of h)
          · replace h := it_t h z27
            refine ct_aload_0 (q := 65) dX7_told_64 rfl ?_
            refine ct_iload_1 (q := 66) dX7_told_65 rfl ?_
            obtain ⟨r28, gr28, h⟩ := ob h
            obtain ⟨er28, gr28⟩ := cV_spec gr28
            refine ct_cVi1 (q := 69) hB dX7_told_66 lk_RX7_132 (by decide) (ctX7_worth hB gr28) er28 (by decide) rfl (Nat.le_of_ble_eq_true rfl) rfl ?_
            refine ct_goto (q := 74) dX7_told_69 (by decide) ?_
            exact ct_iret dX7_told_74 rfl ⟨Nat.le_refl 0, Nat.le_refl 0⟩ (poI_of h)
        · replace h := it_t h z26
          refine ct_aload_0 (q := 51) dX7_told_50 rfl ?_
          refine ct_iload_1 (q := 52) dX7_told_51 rfl ?_
          obtain ⟨r29, gr29, h⟩ := ob h
          obtain ⟨er29, gr29⟩ := cV_spec gr29
          refine ct_cVi1 (q := 55) hB dX7_told_52 lk_RX7_129 (by decide) (ctX7_pushes hB gr29) er29 (by decide) rfl (Nat.le_of_ble_eq_true rfl) rfl ?_
          refine ct_goto (q := 74) dX7_told_55 (by decide) ?_
          exact ct_iret dX7_told_74 rfl ⟨Nat.le_refl 0, Nat.le_refl 0⟩ (poI_of h)
      · replace h := it_t h z25
        refine ct_aload_0 (q := 37) dX7_told_36 rfl ?_
        refine ct_iload_1 (q := 38) dX7_told_37 rfl ?_
        obtain ⟨r30, gr30, h⟩ := ob h
        obtain ⟨er30, gr30⟩ := cV_spec gr30
        refine ct_cVi1 (q := 41) hB dX7_told_38 lk_RX7_126 (by decide) (ctX7_pace hB gr30) er30 (by decide) rfl (Nat.le_of_ble_eq_true rfl) rfl ?_
        refine ct_goto (q := 74) dX7_told_41 (by decide) ?_
        exact ct_iret dX7_told_74 rfl ⟨Nat.le_refl 0, Nat.le_refl 0⟩ (poI_of h)
    · replace h := it_f h z24
      refine ct_aload_0 (q := 24) dX7_told_23 rfl ?_
      refine ct_iload_1 (q := 25) dX7_told_24 rfl ?_
      refine ct_iload_2 (q := 26) dX7_told_25 rfl ?_
      obtain ⟨r31, gr31, h⟩ := ob h
      obtain ⟨er31, gr31⟩ := cV_spec gr31
      refine ct_cVi2 (q := 29) hB dX7_told_26 lk_RX7_80 (by decide) (ctX7_of hB gr31) er31 (by decide) rfl (Nat.le_of_ble_eq_true rfl) rfl ?_
      exact ct_iret dX7_told_29 rfl ⟨Nat.le_refl 0, Nat.le_refl 0⟩ (poI_of h)
  · replace h := it_t h z22
    refine ct_ldc (q := 10) dX7_told_8 wd_919 rfl ?_
    exact ct_iret dX7_told_10 rfl ⟨Nat.le_refl 0, Nat.le_refl 0⟩ (poI_of h)

def fX7_isOf_b29 (M : ctM) : Option (Int32 × ctM) :=
  some (1, M)

set_option maxHeartbeats 4000000 in
set_option maxRecDepth 20000 in
theorem vX7_isOf_b29 {B : ctB} {n : Nat} (hB : ctOk B kdM lnM n) : ∀  (M : ctM) (r : Int32 × ctM), fX7_isOf_b29  M = some r → ctV B mX7_isOf (0, 0, 0) (poI r n) 29 [none, none] [] (0, 0) n M := by
  intro  M r h
  unfold fX7_isOf_b29 at h
  refine ct_iconst (v := 1) (q := 30) dX7_isOf_29 (by decide) rfl ?_
  refine ct_goto (q := 34) dX7_isOf_30 (by decide) ?_
  exact ct_zret dX7_isOf_34 rfl (by decide) ⟨Nat.le_refl 0, Nat.le_refl 0⟩ (poI_of h)

def fX7_isOf_b19 (x0 : Int32) (x1 : Int32) (M : ctM) : Option (Int32 × ctM) :=
  if x1 = 2 then
    if x0 = 4 then
      fX7_isOf_b29 M
    else
      some (0, M)
  else
    some (0, M)

set_option maxHeartbeats 4000000 in
set_option maxRecDepth 20000 in
theorem vX7_isOf_b19 {B : ctB} {n : Nat} (hB : ctOk B kdM lnM n) : ∀ (x0 : Int32) (x1 : Int32) (M : ctM) (r : Int32 × ctM), fX7_isOf_b19 x0 x1 M = some r → ctV B mX7_isOf (0, 0, 0) (poI r n) 19 [some (.int x0), some (.int x1)] [] (0, 0) n M := by
  intro x0 x1 M r h
  unfold fX7_isOf_b19 at h
  refine ct_iload_1 (q := 20) dX7_isOf_19 rfl ?_
  refine ct_iconst (v := 2) (q := 21) dX7_isOf_20 (by decide) rfl ?_
  refine ct_icmp_ne (q := 24) (tgt := 33) dX7_isOf_21 (by decide) rfl (fun z21 => ?_) (fun z21 => ?_)
  · replace h := it_f h z21
    refine ct_iconst (v := 0) (q := 34) dX7_isOf_33 (by decide) rfl ?_
    exact ct_zret dX7_isOf_34 rfl (by decide) ⟨Nat.le_refl 0, Nat.le_refl 0⟩ (poI_of h)
  · replace h := it_t h z21
    refine ct_iload_0 (q := 25) dX7_isOf_24 rfl ?_
    refine ct_iconst (v := 4) (q := 26) dX7_isOf_25 (by decide) rfl ?_
    refine ct_icmp_ne (q := 29) (tgt := 33) dX7_isOf_26 (by decide) rfl (fun z22 => ?_) (fun z22 => ?_)
    · replace h := it_f h z22
      refine ct_iconst (v := 0) (q := 34) dX7_isOf_33 (by decide) rfl ?_
      exact ct_zret dX7_isOf_34 rfl (by decide) ⟨Nat.le_refl 0, Nat.le_refl 0⟩ (poI_of h)
    · replace h := it_t h z22
      exact ct_lessK (vX7_isOf_b29 hB   M r h) (trivial)

def fX7_isOf (x0 : Int32) (x1 : Int32) (M : ctM) : Option (Int32 × ctM) :=
  if x0 = x1 then
    fX7_isOf_b29 M
  else
    if x1 = 0 then
      fX7_isOf_b29 M
    else
      if x1 = 1 then
        if x0 = 3 then
          fX7_isOf_b29 M
        else
          fX7_isOf_b19 x0 x1 M
      else
        fX7_isOf_b19 x0 x1 M

set_option maxHeartbeats 4000000 in
set_option maxRecDepth 20000 in
theorem ctX7_isOf {B : ctB} {n : Nat} (hB : ctOk B kdM lnM n) {x0 : Int32} {x1 : Int32} {M : ctM} {r : Int32 × ctM} (h : fX7_isOf x0 x1 M = some r) : ctC B mX7_isOf (0, 0, 0) [.int x0, .int x1] n M (poI r n) := by
  refine ctC_of (by decide) (Nat.le_of_ble_eq_true rfl) ?_
  show ctV B mX7_isOf (0, 0, 0) (poI r n) 0 [some (.int x0), some (.int x1)] [] (0, 0) n M
  unfold fX7_isOf at h
  refine ct_iload_0 (q := 1) dX7_isOf_0 rfl ?_
  refine ct_iload_1 (q := 2) dX7_isOf_1 rfl ?_
  refine ct_icmp_eq (q := 5) (tgt := 29) dX7_isOf_2 (by decide) rfl (fun z21 => ?_) (fun z21 => ?_)
  · replace h := it_t h z21
    exact ct_lessK (vX7_isOf_b29 hB   M r h) (trivial)
  · replace h := it_f h z21
    refine ct_iload_1 (q := 6) dX7_isOf_5 rfl ?_
    refine ct_if_eq (q := 9) (tgt := 29) dX7_isOf_6 (by decide) rfl (fun z22 => ?_) (fun z22 => ?_)
    · replace h := it_t h z22
      exact ct_lessK (vX7_isOf_b29 hB   M r h) (trivial)
    · replace h := it_f h z22
      refine ct_iload_1 (q := 10) dX7_isOf_9 rfl ?_
      refine ct_iconst (v := 1) (q := 11) dX7_isOf_10 (by decide) rfl ?_
      refine ct_icmp_ne (q := 14) (tgt := 19) dX7_isOf_11 (by decide) rfl (fun z23 => ?_) (fun z23 => ?_)
      · replace h := it_f h z23
        exact ct_lessK (vX7_isOf_b19 hB  x0 x1 M r h) (And.intro rfl (And.intro rfl (trivial)))
      · replace h := it_t h z23
        refine ct_iload_0 (q := 15) dX7_isOf_14 rfl ?_
        refine ct_iconst (v := 3) (q := 16) dX7_isOf_15 (by decide) rfl ?_
        refine ct_icmp_eq (q := 19) (tgt := 29) dX7_isOf_16 (by decide) rfl (fun z24 => ?_) (fun z24 => ?_)
        · replace h := it_t h z24
          exact ct_lessK (vX7_isOf_b29 hB   M r h) (trivial)
        · replace h := it_f h z24
          exact ct_lessK (vX7_isOf_b19 hB  x0 x1 M r h) (And.intro rfl (And.intro rfl (trivial)))

def fX7_as (a0 : Nat) (x1 : Int32) (x2 : Int32) (M : ctM) : Option (Int32 × ctM) :=
  (cV kdM 7 a0 (fX7_isFlame a0 x1 M)).bind fun r21 =>
  if r21.1 = 0 then
    some ((-1000000001), r21.2)
  else
    (fX7_isIn ((x2 : Int32).toInt64) 0 5 r21.2).bind fun r23 =>
    if r23.1 = 0 then
      some ((-1000000001), r23.2)
    else
      (cV kdM 7 a0 (fX7_of a0 x1 0 r23.2)).bind fun r25 =>
      (fX7_isOf r25.1 x2 r25.2).bind fun r26 =>
      if r26.1 = 0 then
        some ((-1000000012), r26.2)
      else
        (cV kdM 7 a0 (fX7_of a0 x1 3 r26.2)).bind fun r28 =>
        some (r28.1, r28.2)

set_option maxHeartbeats 4000000 in
set_option maxRecDepth 20000 in
theorem ctX7_as {B : ctB} {n : Nat} (hB : ctOk B kdM lnM n) {a0 : Nat} {x1 : Int32} {x2 : Int32} {M : ctM} {r : Int32 × ctM} (h : fX7_as a0 x1 x2 M = some r) : ctC B mX7_as (2, 0, 0) [.ref a0, .int x1, .int x2] n M (poI r n) := by
  refine ctC_of (by decide) (Nat.le_of_ble_eq_true rfl) ?_
  show ctV B mX7_as (2, 0, 0) (poI r n) 0 [some (.ref a0), some (.int x1), some (.int x2)] [] (0, 0) n M
  unfold fX7_as at h
  refine ct_aload_0 (q := 1) dX7_as_0 rfl ?_
  refine ct_iload_1 (q := 2) dX7_as_1 rfl ?_
  obtain ⟨r21, gr21, h⟩ := ob h
  obtain ⟨er21, gr21⟩ := cV_spec gr21
  refine ct_cVi1 (q := 5) hB dX7_as_2 lk_RX7_121 (by decide) (ctX7_isFlame hB gr21) er21 (by decide) rfl (Nat.le_of_ble_eq_true rfl) rfl ?_
  refine ct_if_eq (q := 8) (tgt := 20) dX7_as_5 (by decide) rfl (fun z22 => ?_) (fun z22 => ?_)
  · replace h := it_t h z22
    refine ct_ldc (q := 22) dX7_as_20 wd_919 rfl ?_
    exact ct_iret dX7_as_22 rfl ⟨Nat.le_refl 0, Nat.le_refl 0⟩ (poI_of h)
  · replace h := it_f h z22
    refine ct_iload_2 (q := 9) dX7_as_8 rfl ?_
    refine ct_i2l (q := 10) dX7_as_9 rfl ?_
    refine ct_lconst (v := 0) (q := 11) dX7_as_10 (by decide) rfl ?_
    refine ct_ldc2 (q := 14) dX7_as_11 wd_911 rfl ?_
    obtain ⟨r23, gr23, h⟩ := ob h
    refine ct_cSi3 (q := 17) dX7_as_14 lk_RX7_76 (by decide) (ctX7_isIn hB gr23) (Nat.le_of_ble_eq_true rfl) rfl ?_
    refine ct_if_ne (q := 20) (tgt := 23) dX7_as_17 (by decide) rfl (fun z24 => ?_) (fun z24 => ?_)
    · replace h := it_f h z24
      refine ct_aload_0 (q := 24) dX7_as_23 rfl ?_
      refine ct_iload_1 (q := 25) dX7_as_24 rfl ?_
      refine ct_iconst (v := 0) (q := 26) dX7_as_25 (by decide) rfl ?_
      obtain ⟨r25, gr25, h⟩ := ob h
      obtain ⟨er25, gr25⟩ := cV_spec gr25
      refine ct_cVi2 (q := 29) hB dX7_as_26 lk_RX7_80 (by decide) (ctX7_of hB gr25) er25 (by decide) rfl (Nat.le_of_ble_eq_true rfl) rfl ?_
      refine ct_iload_2 (q := 30) dX7_as_29 rfl ?_
      obtain ⟨r26, gr26, h⟩ := ob h
      refine ct_cSi2 (q := 33) dX7_as_30 lk_RX7_135 (by decide) (ctX7_isOf hB gr26) (Nat.le_of_ble_eq_true rfl) rfl ?_
      refine ct_if_eq (q := 36) (tgt := 45) dX7_as_33 (by decide) rfl (fun z27 => ?_) (fun z27 => ?_)
      · replace h := it_t h z27
        refine ct_ldc (q := 47) dX7_as_45 wd_993 rfl ?_
        exact ct_iret dX7_as_47 rfl ⟨Nat.le_refl 0, Nat.le_refl 0⟩ (poI_of h)
      · replace h := it_f h z27
        refine ct_aload_0 (q := 37) dX7_as_36 rfl ?_
        refine ct_iload_1 (q := 38) dX7_as_37 rfl ?_
        refine ct_iconst (v := 3) (q := 39) dX7_as_38 (by decide) rfl ?_
        obtain ⟨r28, gr28, h⟩ := ob h
        obtain ⟨er28, gr28⟩ := cV_spec gr28
        refine ct_cVi2 (q := 42) hB dX7_as_39 lk_RX7_80 (by decide) (ctX7_of hB gr28) er28 (by decide) rfl (Nat.le_of_ble_eq_true rfl) rfl ?_
        refine ct_goto (q := 47) dX7_as_42 (by decide) ?_
        exact ct_iret dX7_as_47 rfl ⟨Nat.le_refl 0, Nat.le_refl 0⟩ (poI_of h)
    · replace h := it_t h z24
      refine ct_ldc (q := 22) dX7_as_20 wd_919 rfl ?_
      exact ct_iret dX7_as_22 rfl ⟨Nat.le_refl 0, Nat.le_refl 0⟩ (poI_of h)

def fX7_turns (a0 : Nat) (x1 : Int32) (x2 : Int32) (M : ctM) : Option (Int32 × ctM) :=
  (cV kdM 7 a0 (fX7_isFlame a0 x1 M)).bind fun r21 =>
  if r21.1 = 0 then
    some ((-1000000001), r21.2)
  else
    (fX7_isIn ((x2 : Int32).toInt64) 0 5 r21.2).bind fun r23 =>
    if r23.1 = 0 then
      some ((-1000000001), r23.2)
    else
      (cV kdM 7 a0 (fX7_flameAt a0 x1 r23.2)).bind fun r25 =>
      (cV kdM 7 a0 (fX7_becomes a0 r25.1 x2 r25.2)).bind fun r26 =>
      some (r26.1, r26.2)

set_option maxHeartbeats 4000000 in
set_option maxRecDepth 20000 in
theorem ctX7_turns {B : ctB} {n : Nat} (hB : ctOk B kdM lnM n) {a0 : Nat} {x1 : Int32} {x2 : Int32} {M : ctM} {r : Int32 × ctM} (h : fX7_turns a0 x1 x2 M = some r) : ctC B mX7_turns (2, 0, 0) [.ref a0, .int x1, .int x2] n M (poI r n) := by
  refine ctC_of (by decide) (Nat.le_of_ble_eq_true rfl) ?_
  show ctV B mX7_turns (2, 0, 0) (poI r n) 0 [some (.ref a0), some (.int x1), some (.int x2)] [] (0, 0) n M
  unfold fX7_turns at h
  refine ct_aload_0 (q := 1) dX7_turns_0 rfl ?_
  refine ct_iload_1 (q := 2) dX7_turns_1 rfl ?_
  obtain ⟨r21, gr21, h⟩ := ob h
  obtain ⟨er21, gr21⟩ := cV_spec gr21
  refine ct_cVi1 (q := 5) hB dX7_turns_2 lk_RX7_121 (by decide) (ctX7_isFlame hB gr21) er21 (by decide) rfl (Nat.le_of_ble_eq_true rfl) rfl ?_
  refine ct_if_eq (q := 8) (tgt := 33) dX7_turns_5 (by decide) rfl (fun z22 => ?_) (fun z22 => ?_)
  · replace h := it_t h z22
    refine ct_ldc (q := 35) dX7_turns_33 wd_919 rfl ?_
    exact ct_iret dX7_turns_35 rfl ⟨Nat.le_refl 0, Nat.le_refl 0⟩ (poI_of h)
  · replace h := it_f h z22
    refine ct_iload_2 (q := 9) dX7_turns_8 rfl ?_
    refine ct_i2l (q := 10) dX7_turns_9 rfl ?_
    refine ct_lconst (v := 0) (q := 11) dX7_turns_10 (by decide) rfl ?_
    refine ct_ldc2 (q := 14) dX7_turns_11 wd_911 rfl ?_
    obtain ⟨r23, gr23, h⟩ := ob h
    refine ct_cSi3 (q := 17) dX7_turns_14 lk_RX7_76 (by decide) (ctX7_isIn hB gr23) (Nat.le_of_ble_eq_true rfl) rfl ?_
    refine ct_if_eq (q := 20) (tgt := 33) dX7_turns_17 (by decide) rfl (fun z24 => ?_) (fun z24 => ?_)
    · replace h := it_t h z24
      refine ct_ldc (q := 35) dX7_turns_33 wd_919 rfl ?_
      exact ct_iret dX7_turns_35 rfl ⟨Nat.le_refl 0, Nat.le_refl 0⟩ (poI_of h)
    · replace h := it_f h z24
      refine ct_aload_0 (q := 21) dX7_turns_20 rfl ?_
      refine ct_aload_0 (q := 22) dX7_turns_21 rfl ?_
      refine ct_iload_1 (q := 23) dX7_turns_22 rfl ?_
      obtain ⟨r25, gr25, h⟩ := ob h
      obtain ⟨er25, gr25⟩ := cV_spec gr25
      refine ct_cVi1 (q := 26) hB dX7_turns_23 lk_RX7_72 (by decide) (ctX7_flameAt hB gr25) er25 (by decide) rfl (Nat.le_of_ble_eq_true rfl) rfl ?_
      refine ct_iload_2 (q := 27) dX7_turns_26 rfl ?_
      obtain ⟨r26, gr26, h⟩ := ob h
      obtain ⟨er26, gr26⟩ := cV_spec gr26
      refine ct_cVi2 (q := 30) hB dX7_turns_27 lk_RX7_140 (by decide) (ctX7_becomes hB gr26) er26 (by decide) rfl (Nat.le_of_ble_eq_true rfl) rfl ?_
      refine ct_goto (q := 35) dX7_turns_30 (by decide) ?_
      exact ct_iret dX7_turns_35 rfl ⟨Nat.le_refl 0, Nat.le_refl 0⟩ (poI_of h)

def fX7_set_b55 (a0 : Nat) (x1 : Int32) (x2 : Int32) (x3 : Int32) (xs0 : Int32) (M : ctM) : Option (Int32 × ctM) :=
  (cV kdM 7 a0 (fX7_isFlame a0 x1 M)).bind fun r21 =>
  if r21.1 = 0 then
    some ((-1000000001), r21.2)
  else
    if xs0 = 0 then
      some ((-1000000001), r21.2)
    else
      (cV kdM 7 a0 (fX7_flameAt a0 x1 r21.2)).bind fun r24 =>
      (cV kdM 7 a0 (fX7_becomes a0 ((r24.1 + 3) + x2) x3 r24.2)).bind fun r25 =>
      some (r25.1, r25.2)

set_option maxHeartbeats 4000000 in
set_option maxRecDepth 20000 in
theorem vX7_set_b55 {B : ctB} {n : Nat} (hB : ctOk B kdM lnM n) : ∀ (a0 : Nat) (x1 : Int32) (x2 : Int32) (x3 : Int32) (xs0 : Int32) (M : ctM) (r : Int32 × ctM), fX7_set_b55 a0 x1 x2 x3 xs0 M = some r → ctV B mX7_set (2, 0, 0) (poI r n) 55 [some (.ref a0), some (.int x1), some (.int x2), some (.int x3), none] [.int xs0] (0, 0) n M := by
  intro a0 x1 x2 x3 xs0 M r h
  unfold fX7_set_b55 at h
  refine ct_istore_4 (q := 57) dX7_set_55 (by decide) rfl rfl ?_
  refine ct_aload_0 (q := 58) dX7_set_57 rfl ?_
  refine ct_iload_1 (q := 59) dX7_set_58 rfl ?_
  obtain ⟨r21, gr21, h⟩ := ob h
  obtain ⟨er21, gr21⟩ := cV_spec gr21
  refine ct_cVi1 (q := 62) hB dX7_set_59 lk_RX7_121 (by decide) (ctX7_isFlame hB gr21) er21 (by decide) rfl (Nat.le_of_ble_eq_true rfl) rfl ?_
  refine ct_if_eq (q := 65) (tgt := 87) dX7_set_62 (by decide) rfl (fun z22 => ?_) (fun z22 => ?_)
  · replace h := it_t h z22
    refine ct_ldc (q := 89) dX7_set_87 wd_919 rfl ?_
    exact ct_iret dX7_set_89 rfl ⟨Nat.le_refl 0, Nat.le_refl 0⟩ (poI_of h)
  · replace h := it_f h z22
    refine ct_iload_4 (q := 67) dX7_set_65 rfl ?_
    refine ct_if_eq (q := 70) (tgt := 87) dX7_set_67 (by decide) rfl (fun z23 => ?_) (fun z23 => ?_)
    · replace h := it_t h z23
      refine ct_ldc (q := 89) dX7_set_87 wd_919 rfl ?_
      exact ct_iret dX7_set_89 rfl ⟨Nat.le_refl 0, Nat.le_refl 0⟩ (poI_of h)
    · replace h := it_f h z23
      refine ct_aload_0 (q := 71) dX7_set_70 rfl ?_
      refine ct_aload_0 (q := 72) dX7_set_71 rfl ?_
      refine ct_iload_1 (q := 73) dX7_set_72 rfl ?_
      obtain ⟨r24, gr24, h⟩ := ob h
      obtain ⟨er24, gr24⟩ := cV_spec gr24
      refine ct_cVi1 (q := 76) hB dX7_set_73 lk_RX7_72 (by decide) (ctX7_flameAt hB gr24) er24 (by decide) rfl (Nat.le_of_ble_eq_true rfl) rfl ?_
      refine ct_iconst (v := 3) (q := 77) dX7_set_76 (by decide) rfl ?_
      refine ct_iadd (q := 78) dX7_set_77 rfl ?_
      refine ct_iload_2 (q := 79) dX7_set_78 rfl ?_
      refine ct_iadd (q := 80) dX7_set_79 rfl ?_
      refine ct_iload_3 (q := 81) dX7_set_80 rfl ?_
      obtain ⟨r25, gr25, h⟩ := ob h
      obtain ⟨er25, gr25⟩ := cV_spec gr25
      refine ct_cVi2 (q := 84) hB dX7_set_81 lk_RX7_140 (by decide) (ctX7_becomes hB gr25) er25 (by decide) rfl (Nat.le_of_ble_eq_true rfl) rfl ?_
      refine ct_goto (q := 89) dX7_set_84 (by decide) ?_
      exact ct_iret dX7_set_89 rfl ⟨Nat.le_refl 0, Nat.le_refl 0⟩ (poI_of h)

def fX7_set_b54 (a0 : Nat) (x1 : Int32) (x2 : Int32) (x3 : Int32) (M : ctM) : Option (Int32 × ctM) :=
  fX7_set_b55 a0 x1 x2 x3 0 M

set_option maxHeartbeats 4000000 in
set_option maxRecDepth 20000 in
theorem vX7_set_b54 {B : ctB} {n : Nat} (hB : ctOk B kdM lnM n) : ∀ (a0 : Nat) (x1 : Int32) (x2 : Int32) (x3 : Int32) (M : ctM) (r : Int32 × ctM), fX7_set_b54 a0 x1 x2 x3 M = some r → ctV B mX7_set (2, 0, 0) (poI r n) 54 [some (.ref a0), some (.int x1), some (.int x2), some (.int x3), none] [] (0, 0) n M := by
  intro a0 x1 x2 x3 M r h
  unfold fX7_set_b54 at h
  refine ct_iconst (v := 0) (q := 55) dX7_set_54 (by decide) rfl ?_
  exact ct_lessK (vX7_set_b55 hB  a0 x1 x2 x3 0 M r h) (And.intro rfl (And.intro rfl (And.intro rfl (And.intro rfl (trivial)))))

def fX7_set (a0 : Nat) (x1 : Int32) (x2 : Int32) (x3 : Int32) (M : ctM) : Option (Int32 × ctM) :=
  if x2 = 0 then
    (fX7_isIn ((x3 : Int32).toInt64) 1 9 M).bind fun r27 =>
    fX7_set_b55 a0 x1 x2 x3 r27.1 r27.2
  else
    if x2 = 1 then
      (fX7_isIn ((x3 : Int32).toInt64) 0 119 M).bind fun r26 =>
      fX7_set_b55 a0 x1 x2 x3 r26.1 r26.2
    else
      if x2 = 2 then
        (fX7_isIn ((x3 : Int32).toInt64) 0 999 M).bind fun r24 =>
        if r24.1 = 0 then
          fX7_set_b54 a0 x1 x2 x3 r24.2
        else
          fX7_set_b55 a0 x1 x2 x3 1 r24.2
      else
        fX7_set_b54 a0 x1 x2 x3 M

set_option maxHeartbeats 4000000 in
set_option maxRecDepth 20000 in
theorem ctX7_set {B : ctB} {n : Nat} (hB : ctOk B kdM lnM n) {a0 : Nat} {x1 : Int32} {x2 : Int32} {x3 : Int32} {M : ctM} {r : Int32 × ctM} (h : fX7_set a0 x1 x2 x3 M = some r) : ctC B mX7_set (2, 0, 0) [.ref a0, .int x1, .int x2, .int x3] n M (poI r n) := by
  refine ctC_of (by decide) (Nat.le_of_ble_eq_true rfl) ?_
  show ctV B mX7_set (2, 0, 0) (poI r n) 0 [some (.ref a0), some (.int x1), some (.int x2), some (.int x3), none] [] (0, 0) n M
  unfold fX7_set at h
  refine ct_iload_2 (q := 1) dX7_set_0 rfl ?_
  refine ct_if_ne (q := 4) (tgt := 16) dX7_set_1 (by decide) rfl (fun z21 => ?_) (fun z21 => ?_)
  · replace h := it_f h z21
    refine ct_iload_2 (q := 17) dX7_set_16 rfl ?_
    refine ct_iconst (v := 1) (q := 18) dX7_set_17 (by decide) rfl ?_
    refine ct_icmp_ne (q := 21) (tgt := 33) dX7_set_18 (by decide) rfl (fun z22 => ?_) (fun z22 => ?_)
    · replace h := it_f h z22
      refine ct_iload_2 (q := 34) dX7_set_33 rfl ?_
      refine ct_iconst (v := 2) (q := 35) dX7_set_34 (by decide) rfl ?_
      refine ct_icmp_ne (q := 38) (tgt := 54) dX7_set_35 (by decide) rfl (fun z23 => ?_) (fun z23 => ?_)
      · replace h := it_f h z23
        exact ct_lessK (vX7_set_b54 hB  a0 x1 x2 x3 M r h) (And.intro rfl (And.intro rfl (And.intro rfl (And.intro rfl (trivial)))))
      · replace h := it_t h z23
        refine ct_iload_3 (q := 39) dX7_set_38 rfl ?_
        refine ct_i2l (q := 40) dX7_set_39 rfl ?_
        refine ct_lconst (v := 0) (q := 41) dX7_set_40 (by decide) rfl ?_
        refine ct_ldc2 (q := 44) dX7_set_41 wd_1007 rfl ?_
        obtain ⟨r24, gr24, h⟩ := ob h
        refine ct_cSi3 (q := 47) dX7_set_44 lk_RX7_76 (by decide) (ctX7_isIn hB gr24) (Nat.le_of_ble_eq_true rfl) rfl ?_
        refine ct_if_eq (q := 50) (tgt := 54) dX7_set_47 (by decide) rfl (fun z25 => ?_) (fun z25 => ?_)
        · replace h := it_t h z25
          exact ct_lessK (vX7_set_b54 hB  a0 x1 x2 x3 r24.2 r h) (And.intro rfl (And.intro rfl (And.intro rfl (And.intro rfl (trivial)))))
        · replace h := it_f h z25
          refine ct_iconst (v := 1) (q := 51) dX7_set_50 (by decide) rfl ?_
          refine ct_goto (q := 55) dX7_set_51 (by decide) ?_
          exact ct_lessK (vX7_set_b55 hB  a0 x1 x2 x3 1 r24.2 r h) (And.intro rfl (And.intro rfl (And.intro rfl (And.intro rfl (trivial)))))
    · replace h := it_t h z22
      refine ct_iload_3 (q := 22) dX7_set_21 rfl ?_
      refine ct_i2l (q := 23) dX7_set_22 rfl ?_
      refine ct_lconst (v := 0) (q := 24) dX7_set_23 (by decide) rfl ?_
      refine ct_ldc2 (q := 27) dX7_set_24 wd_1006 rfl ?_
      obtain ⟨r26, gr26, h⟩ := ob h
      refine ct_cSi3 (q := 30) dX7_set_27 lk_RX7_76 (by decide) (ctX7_isIn hB gr26) (Nat.le_of_ble_eq_true rfl) rfl ?_
      refine ct_goto (q := 55) dX7_set_30 (by decide) ?_
      exact ct_lessK (vX7_set_b55 hB  a0 x1 x2 x3 r26.1 r26.2 r h) (And.intro rfl (And.intro rfl (And.intro rfl (And.intro rfl (trivial)))))
  · replace h := it_t h z21
    refine ct_iload_3 (q := 5) dX7_set_4 rfl ?_
    refine ct_i2l (q := 6) dX7_set_5 rfl ?_
    refine ct_lconst (v := 1) (q := 7) dX7_set_6 (by decide) rfl ?_
    refine ct_ldc2 (q := 10) dX7_set_7 wd_918 rfl ?_
    obtain ⟨r27, gr27, h⟩ := ob h
    refine ct_cSi3 (q := 13) dX7_set_10 lk_RX7_76 (by decide) (ctX7_isIn hB gr27) (Nat.le_of_ble_eq_true rfl) rfl ?_
    refine ct_goto (q := 55) dX7_set_13 (by decide) ?_
    exact ct_lessK (vX7_set_b55 hB  a0 x1 x2 x3 r27.1 r27.2 r h) (And.intro rfl (And.intro rfl (And.intro rfl (And.intro rfl (trivial)))))

def fX7_move (a0 : Nat) (x1 : Int32) (x2 : Int32) (M : ctM) : Option (Int32 × ctM) :=
  (cV kdM 7 a0 (fX7_isFlame a0 x1 M)).bind fun r21 =>
  if r21.1 = 0 then
    some ((-1000000001), r21.2)
  else
    (fX7_isPlace x2 r21.2).bind fun r23 =>
    if r23.1 = 0 then
      some ((-1000000001), r23.2)
    else
      (cV kdM 7 a0 (fX7_flameAt a0 x1 r23.2)).bind fun r25 =>
      (cV kdM 7 a0 (fX7_becomes a0 (r25.1 + 1) (x2 / 100) r25.2)).bind fun r26 =>
      (cV kdM 7 a0 (fX7_flameAt a0 x1 r26.2)).bind fun r27 =>
      (cV kdM 7 a0 (fX7_becomes a0 (r27.1 + 2) (x2 % 100) r27.2)).bind fun r28 =>
      (fX7_off r26.1 (x2 / 100) r28.2).bind fun r29 =>
      (fX7_off r28.1 (x2 % 100) r29.2).bind fun r30 =>
      some ((r29.1 + r30.1), r30.2)

set_option maxHeartbeats 4000000 in
set_option maxRecDepth 20000 in
theorem ctX7_move {B : ctB} {n : Nat} (hB : ctOk B kdM lnM n) {a0 : Nat} {x1 : Int32} {x2 : Int32} {M : ctM} {r : Int32 × ctM} (h : fX7_move a0 x1 x2 M = some r) : ctC B mX7_move (2, 0, 0) [.ref a0, .int x1, .int x2] n M (poI r n) := by
  refine ctC_of (by decide) (Nat.le_of_ble_eq_true rfl) ?_
  show ctV B mX7_move (2, 0, 0) (poI r n) 0 [some (.ref a0), some (.int x1), some (.int x2), none, none] [] (0, 0) n M
  unfold fX7_move at h
  refine ct_aload_0 (q := 1) dX7_move_0 rfl ?_
  refine ct_iload_1 (q := 2) dX7_move_1 rfl ?_
  obtain ⟨r21, gr21, h⟩ := ob h
  obtain ⟨er21, gr21⟩ := cV_spec gr21
  refine ct_cVi1 (q := 5) hB dX7_move_2 lk_RX7_121 (by decide) (ctX7_isFlame hB gr21) er21 (by decide) rfl (Nat.le_of_ble_eq_true rfl) rfl ?_
  refine ct_if_eq (q := 8) (tgt := 15) dX7_move_5 (by decide) rfl (fun z22 => ?_) (fun z22 => ?_)
  · replace h := it_t h z22
    refine ct_ldc (q := 17) dX7_move_15 wd_919 rfl ?_
    exact ct_iret dX7_move_17 rfl ⟨Nat.le_refl 0, Nat.le_refl 0⟩ (poI_of h)
  · replace h := it_f h z22
    refine ct_iload_2 (q := 9) dX7_move_8 rfl ?_
    obtain ⟨r23, gr23, h⟩ := ob h
    refine ct_cSi1 (q := 12) dX7_move_9 lk_RX7_87 (by decide) (ctX7_isPlace hB gr23) (Nat.le_of_ble_eq_true rfl) rfl ?_
    refine ct_if_ne (q := 15) (tgt := 18) dX7_move_12 (by decide) rfl (fun z24 => ?_) (fun z24 => ?_)
    · replace h := it_f h z24
      refine ct_aload_0 (q := 19) dX7_move_18 rfl ?_
      refine ct_aload_0 (q := 20) dX7_move_19 rfl ?_
      refine ct_iload_1 (q := 21) dX7_move_20 rfl ?_
      obtain ⟨r25, gr25, h⟩ := ob h
      obtain ⟨er25, gr25⟩ := cV_spec gr25
      refine ct_cVi1 (q := 24) hB dX7_move_21 lk_RX7_72 (by decide) (ctX7_flameAt hB gr25) er25 (by decide) rfl (Nat.le_of_ble_eq_true rfl) rfl ?_
      refine ct_iconst (v := 1) (q := 25) dX7_move_24 (by decide) rfl ?_
      refine ct_iadd (q := 26) dX7_move_25 rfl ?_
      refine ct_iload_2 (q := 27) dX7_move_26 rfl ?_
      refine ct_bipush (v := 100) (q := 29) dX7_move_27 (by decide) rfl ?_
      refine ct_idiv (q := 30) dX7_move_29 (by decide) rfl ?_
      obtain ⟨r26, gr26, h⟩ := ob h
      obtain ⟨er26, gr26⟩ := cV_spec gr26
      refine ct_cVi2 (q := 33) hB dX7_move_30 lk_RX7_140 (by decide) (ctX7_becomes hB gr26) er26 (by decide) rfl (Nat.le_of_ble_eq_true rfl) rfl ?_
      refine ct_istore_3 (q := 34) dX7_move_33 (by decide) rfl rfl ?_
      refine ct_aload_0 (q := 35) dX7_move_34 rfl ?_
      refine ct_aload_0 (q := 36) dX7_move_35 rfl ?_
      refine ct_iload_1 (q := 37) dX7_move_36 rfl ?_
      obtain ⟨r27, gr27, h⟩ := ob h
      obtain ⟨er27, gr27⟩ := cV_spec gr27
      refine ct_cVi1 (q := 40) hB dX7_move_37 lk_RX7_72 (by decide) (ctX7_flameAt hB gr27) er27 (by decide) rfl (Nat.le_of_ble_eq_true rfl) rfl ?_
      refine ct_iconst (v := 2) (q := 41) dX7_move_40 (by decide) rfl ?_
      refine ct_iadd (q := 42) dX7_move_41 rfl ?_
      refine ct_iload_2 (q := 43) dX7_move_42 rfl ?_
      refine ct_bipush (v := 100) (q := 45) dX7_move_43 (by decide) rfl ?_
      refine ct_irem (q := 46) dX7_move_45 (by decide) rfl ?_
      obtain ⟨r28, gr28, h⟩ := ob h
      obtain ⟨er28, gr28⟩ := cV_spec gr28
      refine ct_cVi2 (q := 49) hB dX7_move_46 lk_RX7_140 (by decide) (ctX7_becomes hB gr28) er28 (by decide) rfl (Nat.le_of_ble_eq_true rfl) rfl ?_
      refine ct_istore_4 (q := 51) dX7_move_49 (by decide) rfl rfl ?_
      refine ct_iload_3 (q := 52) dX7_move_51 rfl ?_
      refine ct_iload_2 (q := 53) dX7_move_52 rfl ?_
      refine ct_bipush (v := 100) (q := 55) dX7_move_53 (by decide) rfl ?_
      refine ct_idiv (q := 56) dX7_move_55 (by decide) rfl ?_
      obtain ⟨r29, gr29, h⟩ := ob h
      refine ct_cSi2 (q := 59) dX7_move_56 lk_RX7_112 (by decide) (ctX7_off hB gr29) (Nat.le_of_ble_eq_true rfl) rfl ?_
      refine ct_iload_4 (q := 61) dX7_move_59 rfl ?_
      refine ct_iload_2 (q := 62) dX7_move_61 rfl ?_
      refine ct_bipush (v := 100) (q := 64) dX7_move_62 (by decide) rfl ?_
      refine ct_irem (q := 65) dX7_move_64 (by decide) rfl ?_
      obtain ⟨r30, gr30, h⟩ := ob h
      refine ct_cSi2 (q := 68) dX7_move_65 lk_RX7_112 (by decide) (ctX7_off hB gr30) (Nat.le_of_ble_eq_true rfl) rfl ?_
      refine ct_iadd (q := 69) dX7_move_68 rfl ?_
      exact ct_iret dX7_move_69 rfl ⟨Nat.le_refl 0, Nat.le_refl 0⟩ (poI_of h)
    · replace h := it_t h z24
      refine ct_ldc (q := 17) dX7_move_15 wd_919 rfl ?_
      exact ct_iret dX7_move_17 rfl ⟨Nat.le_refl 0, Nat.le_refl 0⟩ (poI_of h)

def fX7_glass (a0 : Nat) (x1 : Int32) (x2 : Int32) (x3 : Int32) (M : ctM) : Option (Int32 × ctM) :=
  (cV kdM 7 a0 (fX7_isFlame a0 x1 M)).bind fun r21 =>
  if r21.1 = 0 then
    some ((-1000000001), r21.2)
  else
    (cV kdM 7 a0 (fX7_isFlame a0 x2 r21.2)).bind fun r23 =>
    if r23.1 = 0 then
      some ((-1000000001), r23.2)
    else
      if x1 = x2 then
        some ((-1000000001), r23.2)
      else
        (fX7_isIn ((x3 : Int32).toInt64) 0 1 r23.2).bind fun r26 =>
        if r26.1 = 0 then
          some ((-1000000001), r26.2)
        else
          (gP kdM 7 0 a0 r26.2).bind fun a28 =>
          (aI kdM lnM 9 a28 (6 + x1) r26.2).bind fun x29 =>
          if ((x29 >>> (x2 &&& 31)) &&& 1) = x3 then
            some (((x29 >>> (x2 &&& 31)) &&& 1), r26.2)
          else
            (gP kdM 7 0 a0 r26.2).bind fun a31 =>
            (aI kdM lnM 9 a31 (6 + x1) r26.2).bind fun x32 =>
            (sI kdM lnM 9 a31 (6 + x1) (x32 ^^^ (1 <<< (x2 &&& 31))) r26.2).bind fun M33 =>
            (gP kdM 7 0 a0 M33).bind fun a34 =>
            (aI kdM lnM 9 a34 (6 + x2) M33).bind fun x35 =>
            (sI kdM lnM 9 a34 (6 + x2) (x35 ^^^ (1 <<< (x1 &&& 31))) M33).bind fun M36 =>
            some (((x29 >>> (x2 &&& 31)) &&& 1), M36)

set_option maxHeartbeats 4000000 in
set_option maxRecDepth 20000 in
theorem ctX7_glass {B : ctB} {n : Nat} (hB : ctOk B kdM lnM n) {a0 : Nat} {x1 : Int32} {x2 : Int32} {x3 : Int32} {M : ctM} {r : Int32 × ctM} (h : fX7_glass a0 x1 x2 x3 M = some r) : ctC B mX7_glass (2, 0, 0) [.ref a0, .int x1, .int x2, .int x3] n M (poI r n) := by
  refine ctC_of (by decide) (Nat.le_of_ble_eq_true rfl) ?_
  show ctV B mX7_glass (2, 0, 0) (poI r n) 0 [some (.ref a0), some (.int x1), some (.int x2), some (.int x3), none] [] (0, 0) n M
  unfold fX7_glass at h
  refine ct_aload_0 (q := 1) dX7_glass_0 rfl ?_
  refine ct_iload_1 (q := 2) dX7_glass_1 rfl ?_
  obtain ⟨r21, gr21, h⟩ := ob h
  obtain ⟨er21, gr21⟩ := cV_spec gr21
  refine ct_cVi1 (q := 5) hB dX7_glass_2 lk_RX7_121 (by decide) (ctX7_isFlame hB gr21) er21 (by decide) rfl (Nat.le_of_ble_eq_true rfl) rfl ?_
  refine ct_if_eq (q := 8) (tgt := 31) dX7_glass_5 (by decide) rfl (fun z22 => ?_) (fun z22 => ?_)
  · replace h := it_t h z22
    refine ct_ldc (q := 33) dX7_glass_31 wd_919 rfl ?_
    exact ct_iret dX7_glass_33 rfl ⟨Nat.le_refl 0, Nat.le_refl 0⟩ (poI_of h)
  · replace h := it_f h z22
    refine ct_aload_0 (q := 9) dX7_glass_8 rfl ?_
    refine ct_iload_2 (q := 10) dX7_glass_9 rfl ?_
    obtain ⟨r23, gr23, h⟩ := ob h
    obtain ⟨er23, gr23⟩ := cV_spec gr23
    refine ct_cVi1 (q := 13) hB dX7_glass_10 lk_RX7_121 (by decide) (ctX7_isFlame hB gr23) er23 (by decide) rfl (Nat.le_of_ble_eq_true rfl) rfl ?_
    refine ct_if_eq (q := 16) (tgt := 31) dX7_glass_13 (by decide) rfl (fun z24 => ?_) (fun z24 => ?_)
    · replace h := it_t h z24
      refine ct_ldc (q := 33) dX7_glass_31 wd_919 rfl ?_
      exact ct_iret dX7_glass_33 rfl ⟨Nat.le_refl 0, Nat.le_refl 0⟩ (poI_of h)
    · replace h := it_f h z24
      refine ct_iload_1 (q := 17) dX7_glass_16 rfl ?_
      refine ct_iload_2 (q := 18) dX7_glass_17 rfl ?_
      refine ct_icmp_eq (q := 21) (tgt := 31) dX7_glass_18 (by decide) rfl (fun z25 => ?_) (fun z25 => ?_)
      · replace h := it_t h z25
        refine ct_ldc (q := 33) dX7_glass_31 wd_919 rfl ?_
        exact ct_iret dX7_glass_33 rfl ⟨Nat.le_refl 0, Nat.le_refl 0⟩ (poI_of h)
      · replace h := it_f h z25
        refine ct_iload_3 (q := 22) dX7_glass_21 rfl ?_
        refine ct_i2l (q := 23) dX7_glass_22 rfl ?_
        refine ct_lconst (v := 0) (q := 24) dX7_glass_23 (by decide) rfl ?_
        refine ct_lconst (v := 1) (q := 25) dX7_glass_24 (by decide) rfl ?_
        obtain ⟨r26, gr26, h⟩ := ob h
        refine ct_cSi3 (q := 28) dX7_glass_25 lk_RX7_76 (by decide) (ctX7_isIn hB gr26) (Nat.le_of_ble_eq_true rfl) rfl ?_
        refine ct_if_ne (q := 31) (tgt := 34) dX7_glass_28 (by decide) rfl (fun z27 => ?_) (fun z27 => ?_)
        · replace h := it_f h z27
          refine ct_aload_0 (q := 35) dX7_glass_34 rfl ?_
          obtain ⟨a28, ga28, h⟩ := ob h
          refine ct_getP (q := 38) hB dX7_glass_35 fl_RX7_7 rfl ga28 rfl ?_
          refine ct_bipush (v := 6) (q := 40) dX7_glass_38 (by decide) rfl ?_
          refine ct_iload_1 (q := 41) dX7_glass_40 rfl ?_
          refine ct_iadd (q := 42) dX7_glass_41 rfl ?_
          obtain ⟨x29, gx29, h⟩ := ob h
          refine ct_iald (q := 43) hB dX7_glass_42 gx29 rfl ?_
          refine ct_iload_2 (q := 44) dX7_glass_43 rfl ?_
          refine ct_ishr (q := 45) dX7_glass_44 rfl ?_
          refine ct_iconst (v := 1) (q := 46) dX7_glass_45 (by decide) rfl ?_
          refine ct_iand (q := 47) dX7_glass_46 rfl ?_
          refine ct_istore_4 (q := 49) dX7_glass_47 (by decide) rfl rfl ?_
          refine ct_iload_4 (q := 51) dX7_glass_49 rfl ?_
          refine ct_iload_3 (q := 52) dX7_glass_51 rfl ?_
          refine ct_icmp_eq (q := 55) (tgt := 85) dX7_glass_52 (by decide) rfl (fun z30 => ?_) (fun z30 => ?_)
          · replace h := it_t h z30
            refine ct_iload_4 (q := 87) dX7_glass_85 rfl ?_
            exact ct_iret dX7_glass_87 rfl ⟨Nat.le_refl 0, Nat.le_refl 0⟩ (poI_of h)
          · replace h := it_f h z30
            refine ct_aload_0 (q := 56) dX7_glass_55 rfl ?_
            obtain ⟨a31, ga31, h⟩ := ob h
            refine ct_getP (q := 59) hB dX7_glass_56 fl_RX7_7 rfl ga31 rfl ?_
            refine ct_bipush (v := 6) (q := 61) dX7_glass_59 (by decide) rfl ?_
            refine ct_iload_1 (q := 62) dX7_glass_61 rfl ?_
            refine ct_iadd (q := 63) dX7_glass_62 rfl ?_
            refine ct_dup2 (q := 64) dX7_glass_63 rfl rfl rfl ?_
            obtain ⟨x32, gx32, h⟩ := ob h
            refine ct_iald (q := 65) hB dX7_glass_64 gx32 rfl ?_
            refine ct_iconst (v := 1) (q := 66) dX7_glass_65 (by decide) rfl ?_
            refine ct_iload_2 (q := 67) dX7_glass_66 rfl ?_
            refine ct_ishl (q := 68) dX7_glass_67 rfl ?_
            refine ct_ixor (q := 69) dX7_glass_68 rfl ?_
            obtain ⟨M33, gM33, h⟩ := ob h
            refine ct_iast (q := 70) hB dX7_glass_69 gM33 rfl ?_
            refine ct_aload_0 (q := 71) dX7_glass_70 rfl ?_
            obtain ⟨a34, ga34, h⟩ := ob h
            refine ct_getP (q := 74) hB dX7_glass_71 fl_RX7_7 rfl ga34 rfl ?_
            refine ct_bipush (v := 6) (q := 76) dX7_glass_74 (by decide) rfl ?_
            refine ct_iload_2 (q := 77) dX7_glass_76 rfl ?_
            refine ct_iadd (q := 78) dX7_glass_77 rfl ?_
            refine ct_dup2 (q := 79) dX7_glass_78 rfl rfl rfl ?_
            obtain ⟨x35, gx35, h⟩ := ob h
            refine ct_iald (q := 80) hB dX7_glass_79 gx35 rfl ?_
            refine ct_iconst (v := 1) (q := 81) dX7_glass_80 (by decide) rfl ?_
            refine ct_iload_1 (q := 82) dX7_glass_81 rfl ?_
            refine ct_ishl (q := 83) dX7_glass_82 rfl ?_
            refine ct_ixor (q := 84) dX7_glass_83 rfl ?_
            obtain ⟨M36, gM36, h⟩ := ob h
            refine ct_iast (q := 85) hB dX7_glass_84 gM36 rfl ?_
            refine ct_iload_4 (q := 87) dX7_glass_85 rfl ?_
            exact ct_iret dX7_glass_87 rfl ⟨Nat.le_refl 0, Nat.le_refl 0⟩ (poI_of h)
        · replace h := it_t h z27
          refine ct_ldc (q := 33) dX7_glass_31 wd_919 rfl ?_
          exact ct_iret dX7_glass_33 rfl ⟨Nat.le_refl 0, Nat.le_refl 0⟩ (poI_of h)

def fX7_reach (a0 : Nat) (x1 : Int32) (x2 : Int32) (M : ctM) : Option (Int32 × ctM) :=
  (fX7_isIn ((x1 : Int32).toInt64) 0 1 M).bind fun r21 =>
  if r21.1 = 0 then
    some ((-1000000001), r21.2)
  else
    (fX7_isIn ((x2 : Int32).toInt64) 0 59 r21.2).bind fun r23 =>
    if r23.1 = 0 then
      some ((-1000000001), r23.2)
    else
      (cV kdM 7 a0 (fX7_becomes a0 (3 + x1) x2 r23.2)).bind fun r25 =>
      some (r25.1, r25.2)

set_option maxHeartbeats 4000000 in
set_option maxRecDepth 20000 in
theorem ctX7_reach {B : ctB} {n : Nat} (hB : ctOk B kdM lnM n) {a0 : Nat} {x1 : Int32} {x2 : Int32} {M : ctM} {r : Int32 × ctM} (h : fX7_reach a0 x1 x2 M = some r) : ctC B mX7_reach (1, 0, 0) [.ref a0, .int x1, .int x2] n M (poI r n) := by
  refine ctC_of (by decide) (Nat.le_of_ble_eq_true rfl) ?_
  show ctV B mX7_reach (1, 0, 0) (poI r n) 0 [some (.ref a0), some (.int x1), some (.int x2)] [] (0, 0) n M
  unfold fX7_reach at h
  refine ct_iload_1 (q := 1) dX7_reach_0 rfl ?_
  refine ct_i2l (q := 2) dX7_reach_1 rfl ?_
  refine ct_lconst (v := 0) (q := 3) dX7_reach_2 (by decide) rfl ?_
  refine ct_lconst (v := 1) (q := 4) dX7_reach_3 (by decide) rfl ?_
  obtain ⟨r21, gr21, h⟩ := ob h
  refine ct_cSi3 (q := 7) dX7_reach_4 lk_RX7_76 (by decide) (ctX7_isIn hB gr21) (Nat.le_of_ble_eq_true rfl) rfl ?_
  refine ct_if_eq (q := 10) (tgt := 33) dX7_reach_7 (by decide) rfl (fun z22 => ?_) (fun z22 => ?_)
  · replace h := it_t h z22
    refine ct_ldc (q := 35) dX7_reach_33 wd_919 rfl ?_
    exact ct_iret dX7_reach_35 rfl ⟨Nat.le_refl 0, Nat.le_refl 0⟩ (poI_of h)
  · replace h := it_f h z22
    refine ct_iload_2 (q := 11) dX7_reach_10 rfl ?_
    refine ct_i2l (q := 12) dX7_reach_11 rfl ?_
    refine ct_lconst (v := 0) (q := 13) dX7_reach_12 (by decide) rfl ?_
    refine ct_ldc2 (q := 16) dX7_reach_13 wd_1020 rfl ?_
    obtain ⟨r23, gr23, h⟩ := ob h
    refine ct_cSi3 (q := 19) dX7_reach_16 lk_RX7_76 (by decide) (ctX7_isIn hB gr23) (Nat.le_of_ble_eq_true rfl) rfl ?_
    refine ct_if_eq (q := 22) (tgt := 33) dX7_reach_19 (by decide) rfl (fun z24 => ?_) (fun z24 => ?_)
    · replace h := it_t h z24
      refine ct_ldc (q := 35) dX7_reach_33 wd_919 rfl ?_
      exact ct_iret dX7_reach_35 rfl ⟨Nat.le_refl 0, Nat.le_refl 0⟩ (poI_of h)
    · replace h := it_f h z24
      refine ct_aload_0 (q := 23) dX7_reach_22 rfl ?_
      refine ct_iconst (v := 3) (q := 24) dX7_reach_23 (by decide) rfl ?_
      refine ct_iload_1 (q := 25) dX7_reach_24 rfl ?_
      refine ct_iadd (q := 26) dX7_reach_25 rfl ?_
      refine ct_iload_2 (q := 27) dX7_reach_26 rfl ?_
      obtain ⟨r25, gr25, h⟩ := ob h
      obtain ⟨er25, gr25⟩ := cV_spec gr25
      refine ct_cVi2 (q := 30) hB dX7_reach_27 lk_RX7_140 (by decide) (ctX7_becomes hB gr25) er25 (by decide) rfl (Nat.le_of_ble_eq_true rfl) rfl ?_
      refine ct_goto (q := 35) dX7_reach_30 (by decide) ?_
      exact ct_iret dX7_reach_35 rfl ⟨Nat.le_refl 0, Nat.le_refl 0⟩ (poI_of h)

def fX7_push (a0 : Nat) (x1 : Int32) (x2 : Int32) (M : ctM) : Option (Int32 × ctM) :=
  (cV kdM 7 a0 (fX7_isFlame a0 x1 M)).bind fun r21 =>
  if r21.1 = 0 then
    some ((-1000000001), r21.2)
  else
    (cV kdM 7 a0 (fX7_isFlame a0 x2 r21.2)).bind fun r23 =>
    if r23.1 = 0 then
      some ((-1000000001), r23.2)
    else
      if x1 = x2 then
        some ((-1000000001), r23.2)
      else
        (cV kdM 7 a0 (fX7_pushOf a0 x1 x2 r23.2)).bind fun r26 =>
        some (r26.1, r26.2)

set_option maxHeartbeats 4000000 in
set_option maxRecDepth 20000 in
theorem ctX7_push {B : ctB} {n : Nat} (hB : ctOk B kdM lnM n) {a0 : Nat} {x1 : Int32} {x2 : Int32} {M : ctM} {r : Int32 × ctM} (h : fX7_push a0 x1 x2 M = some r) : ctC B mX7_push (4, 0, 0) [.ref a0, .int x1, .int x2] n M (poI r n) := by
  refine ctC_of (by decide) (Nat.le_of_ble_eq_true rfl) ?_
  show ctV B mX7_push (4, 0, 0) (poI r n) 0 [some (.ref a0), some (.int x1), some (.int x2)] [] (0, 0) n M
  unfold fX7_push at h
  refine ct_aload_0 (q := 1) dX7_push_0 rfl ?_
  refine ct_iload_1 (q := 2) dX7_push_1 rfl ?_
  obtain ⟨r21, gr21, h⟩ := ob h
  obtain ⟨er21, gr21⟩ := cV_spec gr21
  refine ct_cVi1 (q := 5) hB dX7_push_2 lk_RX7_121 (by decide) (ctX7_isFlame hB gr21) er21 (by decide) rfl (Nat.le_of_ble_eq_true rfl) rfl ?_
  refine ct_if_eq (q := 8) (tgt := 30) dX7_push_5 (by decide) rfl (fun z22 => ?_) (fun z22 => ?_)
  · replace h := it_t h z22
    refine ct_ldc (q := 32) dX7_push_30 wd_919 rfl ?_
    exact ct_iret dX7_push_32 rfl ⟨Nat.le_refl 0, Nat.le_refl 0⟩ (poI_of h)
  · replace h := it_f h z22
    refine ct_aload_0 (q := 9) dX7_push_8 rfl ?_
    refine ct_iload_2 (q := 10) dX7_push_9 rfl ?_
    obtain ⟨r23, gr23, h⟩ := ob h
    obtain ⟨er23, gr23⟩ := cV_spec gr23
    refine ct_cVi1 (q := 13) hB dX7_push_10 lk_RX7_121 (by decide) (ctX7_isFlame hB gr23) er23 (by decide) rfl (Nat.le_of_ble_eq_true rfl) rfl ?_
    refine ct_if_eq (q := 16) (tgt := 30) dX7_push_13 (by decide) rfl (fun z24 => ?_) (fun z24 => ?_)
    · replace h := it_t h z24
      refine ct_ldc (q := 32) dX7_push_30 wd_919 rfl ?_
      exact ct_iret dX7_push_32 rfl ⟨Nat.le_refl 0, Nat.le_refl 0⟩ (poI_of h)
    · replace h := it_f h z24
      refine ct_iload_1 (q := 17) dX7_push_16 rfl ?_
      refine ct_iload_2 (q := 18) dX7_push_17 rfl ?_
      refine ct_icmp_eq (q := 21) (tgt := 30) dX7_push_18 (by decide) rfl (fun z25 => ?_) (fun z25 => ?_)
      · replace h := it_t h z25
        refine ct_ldc (q := 32) dX7_push_30 wd_919 rfl ?_
        exact ct_iret dX7_push_32 rfl ⟨Nat.le_refl 0, Nat.le_refl 0⟩ (poI_of h)
      · replace h := it_f h z25
        refine ct_aload_0 (q := 22) dX7_push_21 rfl ?_
        refine ct_iload_1 (q := 23) dX7_push_22 rfl ?_
        refine ct_iload_2 (q := 24) dX7_push_23 rfl ?_
        obtain ⟨r26, gr26, h⟩ := ob h
        obtain ⟨er26, gr26⟩ := cV_spec gr26
        refine ct_cVi2 (q := 27) hB dX7_push_24 lk_RX7_118 (by decide) (ctX7_pushOf hB gr26) er26 (by decide) rfl (Nat.le_of_ble_eq_true rfl) rfl ?_
        refine ct_goto (q := 32) dX7_push_27 (by decide) ?_
        exact ct_iret dX7_push_32 rfl ⟨Nat.le_refl 0, Nat.le_refl 0⟩ (poI_of h)

def fX7_deal_h17 : Nat → Nat → Int32 → Int32 → ctM → Option (Int32 × ctM)
  | 0, _, _, _, _ => none
  | N + 1, a0, x1, x2, M =>
    if x1 ≤ x2 then
      some (x2, M)
    else
      (gP kdM 7 0 a0 M).bind fun a22 =>
      (aI kdM lnM 9 a22 0 M).bind fun x23 =>
      if 8 ≤ x23 then
        some (x2, M)
      else
        (cV kdM 7 a0 (fX7_drawn a0 M)).bind fun r25 =>
        (cV kdM 7 a0 (fX7_drawn a0 r25.2)).bind fun r26 =>
        (cV kdM 7 a0 (fX7_drawn a0 r26.2)).bind fun r27 =>
        (cV kdM 7 a0 (fX7_drawn a0 r27.2)).bind fun r28 =>
        (cV kdM 7 a0 (fX7_drawn a0 r28.2)).bind fun r29 =>
        (cV kdM 7 a0 (fX7_comes a0 (r25.1 % 5) (r26.1 % 30) (r27.1 % 30) (1 + (r28.1 % 9)) (r29.1 % 120) r29.2)).bind fun r30 =>
        fX7_deal_h17 N a0 x1 (x2 + 1) r30

set_option maxHeartbeats 4000000 in
set_option maxRecDepth 20000 in
theorem vX7_deal_h17 {B : ctB} {n : Nat} (hB : ctOk B kdM lnM n) : ∀ (N : Nat) (a0 : Nat) (x1 : Int32) (x2 : Int32) (M : ctM) (r : Int32 × ctM), fX7_deal_h17 N a0 x1 x2 M = some r → ctV B mX7_deal (2, 0, 0) (poI r n) 17 [some (.ref a0), some (.int x1), some (.int x2), none, none, none, none] [] (0, 0) n M := by
  intro N
  induction N with
  | zero => intro a0 x1 x2 M r h; exact absurd h (by simp [fX7_deal_h17])
  | succ N ih =>
    intro a0 x1 x2 M r h
    rw [fX7_deal_h17] at h
    refine ct_iload_2 (q := 18) dX7_deal_17 rfl ?_
    refine ct_iload_1 (q := 19) dX7_deal_18 rfl ?_
    refine ct_icmp_ge (q := 22) (tgt := 93) dX7_deal_19 (by decide) rfl (fun z21 => ?_) (fun z21 => ?_)
    · replace h := it_t h z21
      refine ct_iload_2 (q := 94) dX7_deal_93 rfl ?_
      exact ct_iret dX7_deal_94 rfl ⟨Nat.le_refl 0, Nat.le_refl 0⟩ (poI_of h)
    · replace h := it_f h z21
      refine ct_aload_0 (q := 23) dX7_deal_22 rfl ?_
      obtain ⟨a22, ga22, h⟩ := ob h
      refine ct_getP (q := 26) hB dX7_deal_23 fl_RX7_7 rfl ga22 rfl ?_
      refine ct_iconst (v := 0) (q := 27) dX7_deal_26 (by decide) rfl ?_
      obtain ⟨x23, gx23, h⟩ := ob h
      refine ct_iald (q := 28) hB dX7_deal_27 gx23 rfl ?_
      refine ct_bipush (v := 8) (q := 30) dX7_deal_28 (by decide) rfl ?_
      refine ct_icmp_ge (q := 33) (tgt := 93) dX7_deal_30 (by decide) rfl (fun z24 => ?_) (fun z24 => ?_)
      · replace h := it_t h z24
        refine ct_iload_2 (q := 94) dX7_deal_93 rfl ?_
        exact ct_iret dX7_deal_94 rfl ⟨Nat.le_refl 0, Nat.le_refl 0⟩ (poI_of h)
      · replace h := it_f h z24
        refine ct_aload_0 (q := 34) dX7_deal_33 rfl ?_
        obtain ⟨r25, gr25, h⟩ := ob h
        obtain ⟨er25, gr25⟩ := cV_spec gr25
        refine ct_cVi0 (q := 37) hB dX7_deal_34 lk_RX7_151 (by decide) (ctX7_drawn hB gr25) er25 (by decide) rfl (Nat.le_of_ble_eq_true rfl) rfl ?_
        refine ct_iconst (v := 5) (q := 38) dX7_deal_37 (by decide) rfl ?_
        refine ct_irem (q := 39) dX7_deal_38 (by decide) rfl ?_
        refine ct_istore_3 (q := 40) dX7_deal_39 (by decide) rfl rfl ?_
        refine ct_aload_0 (q := 41) dX7_deal_40 rfl ?_
        obtain ⟨r26, gr26, h⟩ := ob h
        obtain ⟨er26, gr26⟩ := cV_spec gr26
        refine ct_cVi0 (q := 44) hB dX7_deal_41 lk_RX7_151 (by decide) (ctX7_drawn hB gr26) er26 (by decide) rfl (Nat.le_of_ble_eq_true rfl) rfl ?_
        refine ct_bipush (v := 30) (q := 46) dX7_deal_44 (by decide) rfl ?_
        refine ct_irem (q := 47) dX7_deal_46 (by decide) rfl ?_
        refine ct_istore_4 (q := 49) dX7_deal_47 (by decide) rfl rfl ?_
        refine ct_aload_0 (q := 50) dX7_deal_49 rfl ?_
        obtain ⟨r27, gr27, h⟩ := ob h
        obtain ⟨er27, gr27⟩ := cV_spec gr27
        refine ct_cVi0 (q := 53) hB dX7_deal_50 lk_RX7_151 (by decide) (ctX7_drawn hB gr27) er27 (by decide) rfl (Nat.le_of_ble_eq_true rfl) rfl ?_
        refine ct_bipush (v := 30) (q := 55) dX7_deal_53 (by decide) rfl ?_
        refine ct_irem (q := 56) dX7_deal_55 (by decide) rfl ?_
        refine ct_istore_5 (q := 58) dX7_deal_56 (by decide) rfl rfl ?_
        refine ct_iconst (v := 1) (q := 59) dX7_deal_58 (by decide) rfl ?_
        refine ct_aload_0 (q := 60) dX7_deal_59 rfl ?_
        obtain ⟨r28, gr28, h⟩ := ob h
        obtain ⟨er28, gr28⟩ := cV_spec gr28
        refine ct_cVi0 (q := 63) hB dX7_deal_60 lk_RX7_151 (by decide) (ctX7_drawn hB gr28) er28 (by decide) rfl (Nat.le_of_ble_eq_true rfl) rfl ?_
        refine ct_bipush (v := 9) (q := 65) dX7_deal_63 (by decide) rfl ?_
        refine ct_irem (q := 66) dX7_deal_65 (by decide) rfl ?_
        refine ct_iadd (q := 67) dX7_deal_66 rfl ?_
        refine ct_istore_6 (q := 69) dX7_deal_67 (by decide) rfl rfl ?_
        refine ct_aload_0 (q := 70) dX7_deal_69 rfl ?_
        refine ct_iload_3 (q := 71) dX7_deal_70 rfl ?_
        refine ct_iload_4 (q := 73) dX7_deal_71 rfl ?_
        refine ct_iload_5 (q := 75) dX7_deal_73 rfl ?_
        refine ct_iload_6 (q := 77) dX7_deal_75 rfl ?_
        refine ct_aload_0 (q := 78) dX7_deal_77 rfl ?_
        obtain ⟨r29, gr29, h⟩ := ob h
        obtain ⟨er29, gr29⟩ := cV_spec gr29
        refine ct_cVi0 (q := 81) hB dX7_deal_78 lk_RX7_151 (by decide) (ctX7_drawn hB gr29) er29 (by decide) rfl (Nat.le_of_ble_eq_true rfl) rfl ?_
        refine ct_bipush (v := 120) (q := 83) dX7_deal_81 (by decide) rfl ?_
        refine ct_irem (q := 84) dX7_deal_83 (by decide) rfl ?_
        obtain ⟨r30, gr30, h⟩ := ob h
        obtain ⟨er30, gr30⟩ := cV_spec gr30
        refine ct_cVv5 (q := 87) hB dX7_deal_84 lk_RX7_95 (by decide) (ctX7_comes hB gr30) er30 (by decide) rfl (Nat.le_of_ble_eq_true rfl) rfl ?_
        refine ct_iinc_2 (q := 90) (v := x2 + 1) dX7_deal_87 (by first | rfl | decide) (by decide) rfl rfl ?_
        refine ct_goto (q := 17) dX7_deal_90 (by decide) ?_
        exact ct_lessK (ih a0 x1 (x2 + 1) r30 r h) (And.intro rfl (And.intro rfl (And.intro rfl (trivial))))

def fX7_deal (a0 : Nat) (x1 : Int32) (M : ctM) : Option (Int32 × ctM) :=
  (fX7_isIn ((x1 : Int32).toInt64) 1 8 M).bind fun r21 =>
  if r21.1 = 0 then
    some ((-1000000001), r21.2)
  else
    fX7_deal_h17 4000 a0 x1 0 r21.2

set_option maxHeartbeats 4000000 in
set_option maxRecDepth 20000 in
theorem ctX7_deal {B : ctB} {n : Nat} (hB : ctOk B kdM lnM n) {a0 : Nat} {x1 : Int32} {M : ctM} {r : Int32 × ctM} (h : fX7_deal a0 x1 M = some r) : ctC B mX7_deal (2, 0, 0) [.ref a0, .int x1] n M (poI r n) := by
  refine ctC_of (by decide) (Nat.le_of_ble_eq_true rfl) ?_
  show ctV B mX7_deal (2, 0, 0) (poI r n) 0 [some (.ref a0), some (.int x1), none, none, none, none, none] [] (0, 0) n M
  unfold fX7_deal at h
  refine ct_iload_1 (q := 1) dX7_deal_0 rfl ?_
  refine ct_i2l (q := 2) dX7_deal_1 rfl ?_
  refine ct_lconst (v := 1) (q := 3) dX7_deal_2 (by decide) rfl ?_
  refine ct_ldc2 (q := 6) dX7_deal_3 wd_1029 rfl ?_
  obtain ⟨r21, gr21, h⟩ := ob h
  refine ct_cSi3 (q := 9) dX7_deal_6 lk_RX7_76 (by decide) (ctX7_isIn hB gr21) (Nat.le_of_ble_eq_true rfl) rfl ?_
  refine ct_if_ne (q := 12) (tgt := 15) dX7_deal_9 (by decide) rfl (fun z22 => ?_) (fun z22 => ?_)
  · replace h := it_f h z22
    refine ct_iconst (v := 0) (q := 16) dX7_deal_15 (by decide) rfl ?_
    refine ct_istore_2 (q := 17) dX7_deal_16 (by decide) rfl rfl ?_
    exact ct_lessK (vX7_deal_h17 hB  4000 a0 x1 0 r21.2 r h) (And.intro rfl (And.intro rfl (And.intro rfl (trivial))))
  · replace h := it_t h z22
    refine ct_ldc (q := 14) dX7_deal_12 wd_919 rfl ?_
    exact ct_iret dX7_deal_14 rfl ⟨Nat.le_refl 0, Nat.le_refl 0⟩ (poI_of h)

def fX7_seed (a0 : Nat) (x1 : Int32) (M : ctM) : Option (Int32 × ctM) :=
  (cV kdM 7 a0 (fX7_becomes a0 5 x1 M)).bind fun r21 =>
  some (r21.1, r21.2)

set_option maxHeartbeats 4000000 in
set_option maxRecDepth 20000 in
theorem ctX7_seed {B : ctB} {n : Nat} (hB : ctOk B kdM lnM n) {a0 : Nat} {x1 : Int32} {M : ctM} {r : Int32 × ctM} (h : fX7_seed a0 x1 M = some r) : ctC B mX7_seed (1, 0, 0) [.ref a0, .int x1] n M (poI r n) := by
  refine ctC_of (by decide) (Nat.le_of_ble_eq_true rfl) ?_
  show ctV B mX7_seed (1, 0, 0) (poI r n) 0 [some (.ref a0), some (.int x1)] [] (0, 0) n M
  unfold fX7_seed at h
  refine ct_aload_0 (q := 1) dX7_seed_0 rfl ?_
  refine ct_iconst (v := 5) (q := 2) dX7_seed_1 (by decide) rfl ?_
  refine ct_iload_1 (q := 3) dX7_seed_2 rfl ?_
  obtain ⟨r21, gr21, h⟩ := ob h
  obtain ⟨er21, gr21⟩ := cV_spec gr21
  refine ct_cVi2 (q := 6) hB dX7_seed_3 lk_RX7_140 (by decide) (ctX7_becomes hB gr21) er21 (by decide) rfl (Nat.le_of_ble_eq_true rfl) rfl ?_
  exact ct_iret dX7_seed_6 rfl ⟨Nat.le_refl 0, Nat.le_refl 0⟩ (poI_of h)

def fX7_wind (a0 : Nat) (x1 : Int32) (M : ctM) : Option (Int32 × ctM) :=
  (cV kdM 7 a0 (fX7_counts a0 2 M)).bind fun r21 =>
  if 0 ≤ r21.1 then
    (gP kdM 7 29 a0 r21.2).bind fun a23 =>
    (gP kdM 7 0 a0 r21.2).bind fun a24 =>
    (aI kdM lnM 9 a24 2 r21.2).bind fun x25 =>
    (sI kdM lnM 9 a23 116 x25 r21.2).bind fun M26 =>
    (gP kdM 7 29 a0 M26).bind fun a27 =>
    (sI kdM lnM 9 a27 110 x1 M26).bind fun M28 =>
    (cV kdM 7 a0 (fX7_worked a0 r21.1 M28)).bind fun r29 =>
    (fX7_within r29.1 (-30) 30 r29.2).bind fun r30 =>
    some (r30.1, r30.2)
  else
    (cV kdM 7 a0 (fX7_drawn a0 r21.2)).bind fun r31 =>
    some (((r31.1 % 11) - 5), r31.2)

set_option maxHeartbeats 4000000 in
set_option maxRecDepth 20000 in
theorem ctX7_wind {B : ctB} {n : Nat} (hB : ctOk B kdM lnM n) {a0 : Nat} {x1 : Int32} {M : ctM} {r : Int32 × ctM} (h : fX7_wind a0 x1 M = some r) : ctC B mX7_wind (2, 0, 0) [.ref a0, .int x1] n M (poI r n) := by
  refine ctC_of (by decide) (Nat.le_of_ble_eq_true rfl) ?_
  show ctV B mX7_wind (2, 0, 0) (poI r n) 0 [some (.ref a0), some (.int x1), none] [] (0, 0) n M
  unfold fX7_wind at h
  refine ct_aload_0 (q := 1) dX7_wind_0 rfl ?_
  refine ct_iconst (v := 2) (q := 2) dX7_wind_1 (by decide) rfl ?_
  obtain ⟨r21, gr21, h⟩ := ob h
  obtain ⟨er21, gr21⟩ := cV_spec gr21
  refine ct_cVi1 (q := 5) hB dX7_wind_2 lk_RX7_99 (by decide) (ctX7_counts hB gr21) er21 (by decide) rfl (Nat.le_of_ble_eq_true rfl) rfl ?_
  refine ct_istore_2 (q := 6) dX7_wind_5 (by decide) rfl rfl ?_
  refine ct_iload_2 (q := 7) dX7_wind_6 rfl ?_
  refine ct_if_ge (q := 10) (tgt := 20) dX7_wind_7 (by decide) rfl (fun z22 => ?_) (fun z22 => ?_)
  · replace h := it_t h z22
    refine ct_aload_0 (q := 21) dX7_wind_20 rfl ?_
    obtain ⟨a23, ga23, h⟩ := ob h
    refine ct_getP (q := 24) hB dX7_wind_21 fl_RX7_56 rfl ga23 rfl ?_
    refine ct_bipush (v := 116) (q := 26) dX7_wind_24 (by decide) rfl ?_
    refine ct_aload_0 (q := 27) dX7_wind_26 rfl ?_
    obtain ⟨a24, ga24, h⟩ := ob h
    refine ct_getP (q := 30) hB dX7_wind_27 fl_RX7_7 rfl ga24 rfl ?_
    refine ct_iconst (v := 2) (q := 31) dX7_wind_30 (by decide) rfl ?_
    obtain ⟨x25, gx25, h⟩ := ob h
    refine ct_iald (q := 32) hB dX7_wind_31 gx25 rfl ?_
    obtain ⟨M26, gM26, h⟩ := ob h
    refine ct_iast (q := 33) hB dX7_wind_32 gM26 rfl ?_
    refine ct_aload_0 (q := 34) dX7_wind_33 rfl ?_
    obtain ⟨a27, ga27, h⟩ := ob h
    refine ct_getP (q := 37) hB dX7_wind_34 fl_RX7_56 rfl ga27 rfl ?_
    refine ct_bipush (v := 110) (q := 39) dX7_wind_37 (by decide) rfl ?_
    refine ct_iload_1 (q := 40) dX7_wind_39 rfl ?_
    obtain ⟨M28, gM28, h⟩ := ob h
    refine ct_iast (q := 41) hB dX7_wind_40 gM28 rfl ?_
    refine ct_aload_0 (q := 42) dX7_wind_41 rfl ?_
    refine ct_iload_2 (q := 43) dX7_wind_42 rfl ?_
    obtain ⟨r29, gr29, h⟩ := ob h
    obtain ⟨er29, gr29⟩ := cV_spec gr29
    refine ct_cVi1 (q := 46) hB dX7_wind_43 lk_RX7_102 (by decide) (ctX7_worked hB gr29) er29 (by decide) rfl (Nat.le_of_ble_eq_true rfl) rfl ?_
    refine ct_bipush (v := -30) (q := 48) dX7_wind_46 (by decide) rfl ?_
    refine ct_bipush (v := 30) (q := 50) dX7_wind_48 (by decide) rfl ?_
    obtain ⟨r30, gr30, h⟩ := ob h
    refine ct_cSi3 (q := 53) dX7_wind_50 lk_RX7_105 (by decide) (ctX7_within hB gr30) (Nat.le_of_ble_eq_true rfl) rfl ?_
    exact ct_iret dX7_wind_53 rfl ⟨Nat.le_refl 0, Nat.le_refl 0⟩ (poI_of h)
  · replace h := it_f h z22
    refine ct_aload_0 (q := 11) dX7_wind_10 rfl ?_
    obtain ⟨r31, gr31, h⟩ := ob h
    obtain ⟨er31, gr31⟩ := cV_spec gr31
    refine ct_cVi0 (q := 14) hB dX7_wind_11 lk_RX7_151 (by decide) (ctX7_drawn hB gr31) er31 (by decide) rfl (Nat.le_of_ble_eq_true rfl) rfl ?_
    refine ct_bipush (v := 11) (q := 16) dX7_wind_14 (by decide) rfl ?_
    refine ct_irem (q := 17) dX7_wind_16 (by decide) rfl ?_
    refine ct_iconst (v := 5) (q := 18) dX7_wind_17 (by decide) rfl ?_
    refine ct_isub (q := 19) dX7_wind_18 rfl ?_
    exact ct_iret dX7_wind_19 rfl ⟨Nat.le_refl 0, Nat.le_refl 0⟩ (poI_of h)

def fX7_turned (a0 : Nat) (x1 : Int32) (M : ctM) : Option (Int32 × ctM) :=
  (cV kdM 7 a0 (fX7_pushes a0 x1 M)).bind fun r21 =>
  (cV kdM 7 a0 (fX7_of a0 x1 0 r21.2)).bind fun r22 =>
  if r22.1 = 1 then
    some ((2 * r21.1), r22.2)
  else
  if r22.1 = 2 then
    some ((-r21.1), r22.2)
  else
  if r22.1 = 3 then
    some (((2 * r21.1) + 3), r22.2)
  else
  if r22.1 = 4 then
    (fX7_isIn ((r21.1 : Int32).toInt64) (-4) 4 r22.2).bind fun r27 =>
    if r27.1 = 0 then
      some ((-r21.1), r27.2)
    else
      some (0, r27.2)
  else
  if r22.1 = 5 then
    (cV kdM 7 a0 (fX7_wind a0 x1 r22.2)).bind fun r30 =>
    some ((r21.1 + r30.1), r30.2)
  else
    some (r21.1, r22.2)

set_option maxHeartbeats 4000000 in
set_option maxRecDepth 20000 in
theorem ctX7_turned {B : ctB} {n : Nat} (hB : ctOk B kdM lnM n) {a0 : Nat} {x1 : Int32} {M : ctM} {r : Int32 × ctM} (h : fX7_turned a0 x1 M = some r) : ctC B mX7_turned (5, 0, 0) [.ref a0, .int x1] n M (poI r n) := by
  refine ctC_of (by decide) (Nat.le_of_ble_eq_true rfl) ?_
  show ctV B mX7_turned (5, 0, 0) (poI r n) 0 [some (.ref a0), some (.int x1), none] [] (0, 0) n M
  unfold fX7_turned at h
  refine ct_aload_0 (q := 1) dX7_turned_0 rfl ?_
  refine ct_iload_1 (q := 2) dX7_turned_1 rfl ?_
  obtain ⟨r21, gr21, h⟩ := ob h
  obtain ⟨er21, gr21⟩ := cV_spec gr21
  refine ct_cVi1 (q := 5) hB dX7_turned_2 lk_RX7_129 (by decide) (ctX7_pushes hB gr21) er21 (by decide) rfl (Nat.le_of_ble_eq_true rfl) rfl ?_
  refine ct_istore_2 (q := 6) dX7_turned_5 (by decide) rfl rfl ?_
  refine ct_aload_0 (q := 7) dX7_turned_6 rfl ?_
  refine ct_iload_1 (q := 8) dX7_turned_7 rfl ?_
  refine ct_iconst (v := 0) (q := 9) dX7_turned_8 (by decide) rfl ?_
  obtain ⟨r22, gr22, h⟩ := ob h
  obtain ⟨er22, gr22⟩ := cV_spec gr22
  refine ct_cVi2 (q := 12) hB dX7_turned_9 lk_RX7_80 (by decide) (ctX7_of hB gr22) er22 (by decide) rfl (Nat.le_of_ble_eq_true rfl) rfl ?_
  by_cases z23 : r22.1 = 1
  · replace h := it_t h z23
    refine ct_tsw (q := 48) 1 z23 dX7_turned_12 (by decide) (by decide) rfl (by decide) ?_
    refine ct_iconst (v := 2) (q := 49) dX7_turned_48 (by decide) rfl ?_
    refine ct_iload_2 (q := 50) dX7_turned_49 rfl ?_
    refine ct_imul (q := 51) dX7_turned_50 rfl ?_
    exact ct_iret dX7_turned_51 rfl ⟨Nat.le_refl 0, Nat.le_refl 0⟩ (poI_of h)
  replace h := it_f h z23
  by_cases z24 : r22.1 = 2
  · replace h := it_t h z24
    refine ct_tsw (q := 52) 2 z24 dX7_turned_12 (by decide) (by decide) rfl (by decide) ?_
    refine ct_iload_2 (q := 53) dX7_turned_52 rfl ?_
    refine ct_ineg (q := 54) dX7_turned_53 rfl ?_
    exact ct_iret dX7_turned_54 rfl ⟨Nat.le_refl 0, Nat.le_refl 0⟩ (poI_of h)
  replace h := it_f h z24
  by_cases z25 : r22.1 = 3
  · replace h := it_t h z25
    refine ct_tsw (q := 55) 3 z25 dX7_turned_12 (by decide) (by decide) rfl (by decide) ?_
    refine ct_iconst (v := 2) (q := 56) dX7_turned_55 (by decide) rfl ?_
    refine ct_iload_2 (q := 57) dX7_turned_56 rfl ?_
    refine ct_imul (q := 58) dX7_turned_57 rfl ?_
    refine ct_iconst (v := 3) (q := 59) dX7_turned_58 (by decide) rfl ?_
    refine ct_iadd (q := 60) dX7_turned_59 rfl ?_
    exact ct_iret dX7_turned_60 rfl ⟨Nat.le_refl 0, Nat.le_refl 0⟩ (poI_of h)
  replace h := it_f h z25
  by_cases z26 : r22.1 = 4
  · replace h := it_t h z26
    refine ct_tsw (q := 61) 4 z26 dX7_turned_12 (by decide) (by decide) rfl (by decide) ?_
    refine ct_iload_2 (q := 62) dX7_turned_61 rfl ?_
    refine ct_i2l (q := 63) dX7_turned_62 rfl ?_
    refine ct_ldc2 (q := 66) dX7_turned_63 wd_1052 rfl ?_
    refine ct_ldc2 (q := 69) dX7_turned_66 wd_1053 rfl ?_
    obtain ⟨r27, gr27, h⟩ := ob h
    refine ct_cSi3 (q := 72) dX7_turned_69 lk_RX7_76 (by decide) (ctX7_isIn hB gr27) (Nat.le_of_ble_eq_true rfl) rfl ?_
    refine ct_if_eq (q := 75) (tgt := 79) dX7_turned_72 (by decide) rfl (fun z28 => ?_) (fun z28 => ?_)
    · replace h := it_t h z28
      refine ct_iload_2 (q := 80) dX7_turned_79 rfl ?_
      refine ct_ineg (q := 81) dX7_turned_80 rfl ?_
      exact ct_iret dX7_turned_81 rfl ⟨Nat.le_refl 0, Nat.le_refl 0⟩ (poI_of h)
    · replace h := it_f h z28
      refine ct_iconst (v := 0) (q := 76) dX7_turned_75 (by decide) rfl ?_
      refine ct_goto (q := 81) dX7_turned_76 (by decide) ?_
      exact ct_iret dX7_turned_81 rfl ⟨Nat.le_refl 0, Nat.le_refl 0⟩ (poI_of h)
  replace h := it_f h z26
  by_cases z29 : r22.1 = 5
  · replace h := it_t h z29
    refine ct_tsw (q := 82) 5 z29 dX7_turned_12 (by decide) (by decide) rfl (by decide) ?_
    refine ct_iload_2 (q := 83) dX7_turned_82 rfl ?_
    refine ct_aload_0 (q := 84) dX7_turned_83 rfl ?_
    refine ct_iload_1 (q := 85) dX7_turned_84 rfl ?_
    obtain ⟨r30, gr30, h⟩ := ob h
    obtain ⟨er30, gr30⟩ := cV_spec gr30
    refine ct_cVi1 (q := 88) hB dX7_turned_85 lk_RX7_159 (by decide) (ctX7_wind hB gr30) er30 (by decide) rfl (Nat.le_of_ble_eq_true rfl) rfl ?_
    refine ct_iadd (q := 89) dX7_turned_88 rfl ?_
    exact ct_iret dX7_turned_89 rfl ⟨Nat.le_refl 0, Nat.le_refl 0⟩ (poI_of h)
  replace h := it_f h z29
  refine ct_tswD (q := 90) dX7_turned_12 (by have := And.intro (lv_neT z23 (show Int32.toInt (1) = 1 by decide)) trivial; have y0 := lv_neT z23 (show Int32.toInt (1) = 1 by decide); have y1 := lv_neT z24 (show Int32.toInt (2) = 2 by decide); have y2 := lv_neT z25 (show Int32.toInt (3) = 3 by decide); have y3 := lv_neT z26 (show Int32.toInt (4) = 4 by decide); have y4 := lv_neT z29 (show Int32.toInt (5) = 5 by decide); omega) (by decide) ?_
  refine ct_iload_2 (q := 91) dX7_turned_90 rfl ?_
  exact ct_iret dX7_turned_91 rfl ⟨Nat.le_refl 0, Nat.le_refl 0⟩ (poI_of h)

def fX7_ticks_b190 (k62 : Nat → Int32 → Int32 → Int32 → ctM → Option (Int32 × ctM)) (a0 : Nat) (x1 : Int32) (x2 : Int32) (x3 : Int32) (M : ctM) : Option (Int32 × ctM) :=
  k62 a0 x1 x2 (x3 + 1) M

set_option maxHeartbeats 4000000 in
set_option maxRecDepth 20000 in
theorem vX7_ticks_b190 {B : ctB} {n : Nat} (hB : ctOk B kdM lnM n) {k62 : Nat → Int32 → Int32 → Int32 → ctM → Option (Int32 × ctM)} (hk62 : ∀ (a0 : Nat) (x1 : Int32) (x2 : Int32) (x3 : Int32) (M : ctM) (r : Int32 × ctM), k62 a0 x1 x2 x3 M = some r → ctV B mX7_ticks (6, 0, 0) (poI r n) 62 [some (.ref a0), some (.int x1), some (.int x2), some (.int x3), none, none, none] [] (0, 0) n M) : ∀ (a0 : Nat) (x1 : Int32) (x2 : Int32) (x3 : Int32) (M : ctM) (r : Int32 × ctM), fX7_ticks_b190 k62 a0 x1 x2 x3 M = some r → ctV B mX7_ticks (6, 0, 0) (poI r n) 190 [some (.ref a0), some (.int x1), some (.int x2), some (.int x3), none, none, none] [] (0, 0) n M := by
  intro a0 x1 x2 x3 M r h
  unfold fX7_ticks_b190 at h
  refine ct_iinc_3 (q := 193) (v := x3 + 1) dX7_ticks_190 (by first | rfl | decide) (by decide) rfl rfl ?_
  refine ct_goto (q := 62) dX7_ticks_193 (by decide) ?_
  exact ct_lessK (hk62 a0 x1 x2 (x3 + 1) M r h) (And.intro rfl (And.intro rfl (And.intro rfl (And.intro rfl (trivial)))))

def fX7_ticks_b140 (k62 : Nat → Int32 → Int32 → Int32 → ctM → Option (Int32 × ctM)) (a0 : Nat) (x1 : Int32) (x2 : Int32) (x3 : Int32) (x4 : Int32) (x5 : Int32) (as0 : Nat) (xs1 : Int32) (xs2 : Int32) (M : ctM) : Option (Int32 × ctM) :=
  (sI kdM lnM 9 as0 xs1 xs2 M).bind fun M21 =>
  (gP kdM 7 0 a0 M21).bind fun a22 =>
  (cV kdM 7 a0 (fX7_of a0 x3 5 M21)).bind fun r23 =>
  (cV kdM 7 a0 (fX7_of a0 x3 3 r23.2)).bind fun r24 =>
  (fX7_within (r23.1 - r24.1) 0 999 r24.2).bind fun r25 =>
  (sI kdM lnM 9 a22 (x4 + 5) r25.1 r25.2).bind fun M26 =>
  (gP kdM 7 0 a0 M26).bind fun a27 =>
  (aI kdM lnM 9 a27 (x4 + 6) M26).bind fun x28 =>
  (sI kdM lnM 9 a27 (x4 + 6) (x28 + x5) M26).bind fun M29 =>
  fX7_ticks_b190 k62 a0 x1 (x2 + x5) x3 M29

set_option maxHeartbeats 4000000 in
set_option maxRecDepth 20000 in
theorem vX7_ticks_b140 {B : ctB} {n : Nat} (hB : ctOk B kdM lnM n) {k62 : Nat → Int32 → Int32 → Int32 → ctM → Option (Int32 × ctM)} (hk62 : ∀ (a0 : Nat) (x1 : Int32) (x2 : Int32) (x3 : Int32) (M : ctM) (r : Int32 × ctM), k62 a0 x1 x2 x3 M = some r → ctV B mX7_ticks (6, 0, 0) (poI r n) 62 [some (.ref a0), some (.int x1), some (.int x2), some (.int x3), none, none, none] [] (0, 0) n M) : ∀ (a0 : Nat) (x1 : Int32) (x2 : Int32) (x3 : Int32) (x4 : Int32) (x5 : Int32) (as0 : Nat) (xs1 : Int32) (xs2 : Int32) (M : ctM) (r : Int32 × ctM), fX7_ticks_b140 k62 a0 x1 x2 x3 x4 x5 as0 xs1 xs2 M = some r → ctV B mX7_ticks (6, 0, 0) (poI r n) 140 [some (.ref a0), some (.int x1), some (.int x2), some (.int x3), some (.int x4), some (.int x5), none] [.int xs2, .int xs1, .ref as0] (0, 0) n M := by
  intro a0 x1 x2 x3 x4 x5 as0 xs1 xs2 M r h
  unfold fX7_ticks_b140 at h
  obtain ⟨M21, gM21, h⟩ := ob h
  refine ct_iast (q := 141) hB dX7_ticks_140 gM21 rfl ?_
  refine ct_aload_0 (q := 142) dX7_ticks_141 rfl ?_
  obtain ⟨a22, ga22, h⟩ := ob h
  refine ct_getP (q := 145) hB dX7_ticks_142 fl_RX7_7 rfl ga22 rfl ?_
  refine ct_iload_4 (q := 147) dX7_ticks_145 rfl ?_
  refine ct_iconst (v := 5) (q := 148) dX7_ticks_147 (by decide) rfl ?_
  refine ct_iadd (q := 149) dX7_ticks_148 rfl ?_
  refine ct_aload_0 (q := 150) dX7_ticks_149 rfl ?_
  refine ct_iload_3 (q := 151) dX7_ticks_150 rfl ?_
  refine ct_iconst (v := 5) (q := 152) dX7_ticks_151 (by decide) rfl ?_
  obtain ⟨r23, gr23, h⟩ := ob h
  obtain ⟨er23, gr23⟩ := cV_spec gr23
  refine ct_cVi2 (q := 155) hB dX7_ticks_152 lk_RX7_80 (by decide) (ctX7_of hB gr23) er23 (by decide) rfl (Nat.le_of_ble_eq_true rfl) rfl ?_
  refine ct_aload_0 (q := 156) dX7_ticks_155 rfl ?_
  refine ct_iload_3 (q := 157) dX7_ticks_156 rfl ?_
  refine ct_iconst (v := 3) (q := 158) dX7_ticks_157 (by decide) rfl ?_
  obtain ⟨r24, gr24, h⟩ := ob h
  obtain ⟨er24, gr24⟩ := cV_spec gr24
  refine ct_cVi2 (q := 161) hB dX7_ticks_158 lk_RX7_80 (by decide) (ctX7_of hB gr24) er24 (by decide) rfl (Nat.le_of_ble_eq_true rfl) rfl ?_
  refine ct_isub (q := 162) dX7_ticks_161 rfl ?_
  refine ct_iconst (v := 0) (q := 163) dX7_ticks_162 (by decide) rfl ?_
  refine ct_sipush (v := 999) (q := 166) dX7_ticks_163 (by decide) rfl ?_
  obtain ⟨r25, gr25, h⟩ := ob h
  refine ct_cSi3 (q := 169) dX7_ticks_166 lk_RX7_105 (by decide) (ctX7_within hB gr25) (Nat.le_of_ble_eq_true rfl) rfl ?_
  obtain ⟨M26, gM26, h⟩ := ob h
  refine ct_iast (q := 170) hB dX7_ticks_169 gM26 rfl ?_
  refine ct_aload_0 (q := 171) dX7_ticks_170 rfl ?_
  obtain ⟨a27, ga27, h⟩ := ob h
  refine ct_getP (q := 174) hB dX7_ticks_171 fl_RX7_7 rfl ga27 rfl ?_
  refine ct_iload_4 (q := 176) dX7_ticks_174 rfl ?_
  refine ct_bipush (v := 6) (q := 178) dX7_ticks_176 (by decide) rfl ?_
  refine ct_iadd (q := 179) dX7_ticks_178 rfl ?_
  refine ct_dup2 (q := 180) dX7_ticks_179 rfl rfl rfl ?_
  obtain ⟨x28, gx28, h⟩ := ob h
  refine ct_iald (q := 181) hB dX7_ticks_180 gx28 rfl ?_
  refine ct_iload_5 (q := 183) dX7_ticks_181 rfl ?_
  refine ct_iadd (q := 184) dX7_ticks_183 rfl ?_
  obtain ⟨M29, gM29, h⟩ := ob h
  refine ct_iast (q := 185) hB dX7_ticks_184 gM29 rfl ?_
  refine ct_iload_2 (q := 186) dX7_ticks_185 rfl ?_
  refine ct_iload_5 (q := 188) dX7_ticks_186 rfl ?_
  refine ct_iadd (q := 189) dX7_ticks_188 rfl ?_
  refine ct_istore_2 (q := 190) dX7_ticks_189 (by decide) rfl rfl ?_
  exact ct_lessK (vX7_ticks_b190 hB hk62 a0 x1 (x2 + x5) x3 M29 r h) (And.intro rfl (And.intro rfl (And.intro rfl (And.intro rfl (trivial)))))

def fX7_ticks_b104 (k62 : Nat → Int32 → Int32 → Int32 → ctM → Option (Int32 × ctM)) (a0 : Nat) (x1 : Int32) (x2 : Int32) (x3 : Int32) (x4 : Int32) (xs0 : Int32) (M : ctM) : Option (Int32 × ctM) :=
  (gP kdM 7 12 a0 M).bind fun a21 =>
  (aI kdM lnM 9 a21 x3 M).bind fun x22 =>
  (gP kdM 7 0 a0 M).bind fun a23 =>
  if 0 ≤ (x22 % 120) then
    fX7_ticks_b140 k62 a0 x1 x2 x3 x4 xs0 a23 (x4 + 4) (x22 % 120) M
  else
    fX7_ticks_b140 k62 a0 x1 x2 x3 x4 xs0 a23 (x4 + 4) ((x22 % 120) + 120) M

set_option maxHeartbeats 4000000 in
set_option maxRecDepth 20000 in
theorem vX7_ticks_b104 {B : ctB} {n : Nat} (hB : ctOk B kdM lnM n) {k62 : Nat → Int32 → Int32 → Int32 → ctM → Option (Int32 × ctM)} (hk62 : ∀ (a0 : Nat) (x1 : Int32) (x2 : Int32) (x3 : Int32) (M : ctM) (r : Int32 × ctM), k62 a0 x1 x2 x3 M = some r → ctV B mX7_ticks (6, 0, 0) (poI r n) 62 [some (.ref a0), some (.int x1), some (.int x2), some (.int x3), none, none, none] [] (0, 0) n M) : ∀ (a0 : Nat) (x1 : Int32) (x2 : Int32) (x3 : Int32) (x4 : Int32) (xs0 : Int32) (M : ctM) (r : Int32 × ctM), fX7_ticks_b104 k62 a0 x1 x2 x3 x4 xs0 M = some r → ctV B mX7_ticks (6, 0, 0) (poI r n) 104 [some (.ref a0), some (.int x1), some (.int x2), some (.int x3), some (.int x4), none, none] [.int xs0] (0, 0) n M := by
  intro a0 x1 x2 x3 x4 xs0 M r h
  unfold fX7_ticks_b104 at h
  refine ct_istore_5 (q := 106) dX7_ticks_104 (by decide) rfl rfl ?_
  refine ct_aload_0 (q := 107) dX7_ticks_106 rfl ?_
  obtain ⟨a21, ga21, h⟩ := ob h
  refine ct_getP (q := 110) hB dX7_ticks_107 fl_RX7_43 rfl ga21 rfl ?_
  refine ct_iload_3 (q := 111) dX7_ticks_110 rfl ?_
  obtain ⟨x22, gx22, h⟩ := ob h
  refine ct_iald (q := 112) hB dX7_ticks_111 gx22 rfl ?_
  refine ct_bipush (v := 120) (q := 114) dX7_ticks_112 (by decide) rfl ?_
  refine ct_irem (q := 115) dX7_ticks_114 (by decide) rfl ?_
  refine ct_istore_6 (q := 117) dX7_ticks_115 (by decide) rfl rfl ?_
  refine ct_aload_0 (q := 118) dX7_ticks_117 rfl ?_
  obtain ⟨a23, ga23, h⟩ := ob h
  refine ct_getP (q := 121) hB dX7_ticks_118 fl_RX7_7 rfl ga23 rfl ?_
  refine ct_iload_4 (q := 123) dX7_ticks_121 rfl ?_
  refine ct_iconst (v := 4) (q := 124) dX7_ticks_123 (by decide) rfl ?_
  refine ct_iadd (q := 125) dX7_ticks_124 rfl ?_
  refine ct_iload_6 (q := 127) dX7_ticks_125 rfl ?_
  refine ct_if_ge (q := 130) (tgt := 138) dX7_ticks_127 (by decide) rfl (fun z24 => ?_) (fun z24 => ?_)
  · replace h := it_t h z24
    refine ct_iload_6 (q := 140) dX7_ticks_138 rfl ?_
    exact ct_lessK (vX7_ticks_b140 hB hk62 a0 x1 x2 x3 x4 xs0 a23 (x4 + 4) (x22 % 120) M r h) (And.intro rfl (And.intro rfl (And.intro rfl (And.intro rfl (And.intro rfl (And.intro rfl (trivial)))))))
  · replace h := it_f h z24
    refine ct_iload_6 (q := 132) dX7_ticks_130 rfl ?_
    refine ct_bipush (v := 120) (q := 134) dX7_ticks_132 (by decide) rfl ?_
    refine ct_iadd (q := 135) dX7_ticks_134 rfl ?_
    refine ct_goto (q := 140) dX7_ticks_135 (by decide) ?_
    exact ct_lessK (vX7_ticks_b140 hB hk62 a0 x1 x2 x3 x4 xs0 a23 (x4 + 4) ((x22 % 120) + 120) M r h) (And.intro rfl (And.intro rfl (And.intro rfl (And.intro rfl (And.intro rfl (And.intro rfl (trivial)))))))

def fX7_ticks_h62 : Nat → Nat → Int32 → Int32 → Int32 → ctM → Option (Int32 × ctM)
  | 0, _, _, _, _, _ => none
  | N + 1, a0, x1, x2, x3, M =>
    (gP kdM 7 0 a0 M).bind fun a21 =>
    (aI kdM lnM 9 a21 0 M).bind fun x22 =>
    if x22 ≤ x3 then
      (gP kdM 7 0 a0 M).bind fun a24 =>
      (aI kdM lnM 9 a24 2 M).bind fun x25 =>
      (sI kdM lnM 9 a24 2 (x25 + 1) M).bind fun M26 =>
      some (x2, M26)
    else
      if ((x1 >>> (x3 &&& 31)) &&& 1) = 1 then
        (cV kdM 7 a0 (fX7_flameAt a0 x3 M)).bind fun r28 =>
        (gP kdM 7 12 a0 r28.2).bind fun a29 =>
        (aI kdM lnM 9 a29 x3 r28.2).bind fun x30 =>
        if x30 < 120 then
          fX7_ticks_b104 (fX7_ticks_h62 N) a0 x1 x2 x3 r28.1 0 r28.2
        else
          fX7_ticks_b104 (fX7_ticks_h62 N) a0 x1 x2 x3 r28.1 1 r28.2
      else
        fX7_ticks_b190 (fX7_ticks_h62 N) a0 x1 x2 x3 M

set_option maxHeartbeats 4000000 in
set_option maxRecDepth 20000 in
theorem vX7_ticks_h62 {B : ctB} {n : Nat} (hB : ctOk B kdM lnM n) : ∀ (N : Nat) (a0 : Nat) (x1 : Int32) (x2 : Int32) (x3 : Int32) (M : ctM) (r : Int32 × ctM), fX7_ticks_h62 N a0 x1 x2 x3 M = some r → ctV B mX7_ticks (6, 0, 0) (poI r n) 62 [some (.ref a0), some (.int x1), some (.int x2), some (.int x3), none, none, none] [] (0, 0) n M := by
  intro N
  induction N with
  | zero => intro a0 x1 x2 x3 M r h; exact absurd h (by simp [fX7_ticks_h62])
  | succ N ih =>
    intro a0 x1 x2 x3 M r h
    rw [fX7_ticks_h62] at h
    refine ct_iload_3 (q := 63) dX7_ticks_62 rfl ?_
    refine ct_aload_0 (q := 64) dX7_ticks_63 rfl ?_
    obtain ⟨a21, ga21, h⟩ := ob h
    refine ct_getP (q := 67) hB dX7_ticks_64 fl_RX7_7 rfl ga21 rfl ?_
    refine ct_iconst (v := 0) (q := 68) dX7_ticks_67 (by decide) rfl ?_
    obtain ⟨x22, gx22, h⟩ := ob h
    refine ct_iald (q := 69) hB dX7_ticks_68 gx22 rfl ?_
    refine ct_icmp_ge (q := 72) (tgt := 196) dX7_ticks_69 (by decide) rfl (fun z23 => ?_) (fun z23 => ?_)
    · replace h := it_t h z23
      refine ct_aload_0 (q := 197) dX7_ticks_196 rfl ?_
      obtain ⟨a24, ga24, h⟩ := ob h
      refine ct_getP (q := 200) hB dX7_ticks_197 fl_RX7_7 rfl ga24 rfl ?_
      refine ct_iconst (v := 2) (q := 201) dX7_ticks_200 (by decide) rfl ?_
      refine ct_dup2 (q := 202) dX7_ticks_201 rfl rfl rfl ?_
      obtain ⟨x25, gx25, h⟩ := ob h
      refine ct_iald (q := 203) hB dX7_ticks_202 gx25 rfl ?_
      refine ct_iconst (v := 1) (q := 204) dX7_ticks_203 (by decide) rfl ?_
      refine ct_iadd (q := 205) dX7_ticks_204 rfl ?_
      obtain ⟨M26, gM26, h⟩ := ob h
      refine ct_iast (q := 206) hB dX7_ticks_205 gM26 rfl ?_
      refine ct_iload_2 (q := 207) dX7_ticks_206 rfl ?_
      exact ct_iret dX7_ticks_207 rfl ⟨Nat.le_refl 0, Nat.le_refl 0⟩ (poI_of h)
    · replace h := it_f h z23
      refine ct_iload_1 (q := 73) dX7_ticks_72 rfl ?_
      refine ct_iload_3 (q := 74) dX7_ticks_73 rfl ?_
      refine ct_ishr (q := 75) dX7_ticks_74 rfl ?_
      refine ct_iconst (v := 1) (q := 76) dX7_ticks_75 (by decide) rfl ?_
      refine ct_iand (q := 77) dX7_ticks_76 rfl ?_
      refine ct_iconst (v := 1) (q := 78) dX7_ticks_77 (by decide) rfl ?_
      refine ct_icmp_ne (q := 81) (tgt := 190) dX7_ticks_78 (by decide) rfl (fun z27 => ?_) (fun z27 => ?_)
      · replace h := it_f h z27
        exact ct_lessK (vX7_ticks_b190 hB ih a0 x1 x2 x3 M r h) (And.intro rfl (And.intro rfl (And.intro rfl (And.intro rfl (trivial)))))
      · replace h := it_t h z27
        refine ct_aload_0 (q := 82) dX7_ticks_81 rfl ?_
        refine ct_iload_3 (q := 83) dX7_ticks_82 rfl ?_
        obtain ⟨r28, gr28, h⟩ := ob h
        obtain ⟨er28, gr28⟩ := cV_spec gr28
        refine ct_cVi1 (q := 86) hB dX7_ticks_83 lk_RX7_72 (by decide) (ctX7_flameAt hB gr28) er28 (by decide) rfl (Nat.le_of_ble_eq_true rfl) rfl ?_
        refine ct_istore_4 (q := 88) dX7_ticks_86 (by decide) rfl rfl ?_
        refine ct_aload_0 (q := 89) dX7_ticks_88 rfl ?_
        obtain ⟨a29, ga29, h⟩ := ob h
        refine ct_getP (q := 92) hB dX7_ticks_89 fl_RX7_43 rfl ga29 rfl ?_
        refine ct_iload_3 (q := 93) dX7_ticks_92 rfl ?_
        obtain ⟨x30, gx30, h⟩ := ob h
        refine ct_iald (q := 94) hB dX7_ticks_93 gx30 rfl ?_
        refine ct_bipush (v := 120) (q := 96) dX7_ticks_94 (by decide) rfl ?_
        refine ct_icmp_lt (q := 99) (tgt := 103) dX7_ticks_96 (by decide) rfl (fun z31 => ?_) (fun z31 => ?_)
        · replace h := it_t h z31
          refine ct_iconst (v := 0) (q := 104) dX7_ticks_103 (by decide) rfl ?_
          exact ct_lessK (vX7_ticks_b104 hB ih a0 x1 x2 x3 r28.1 0 r28.2 r h) (And.intro rfl (And.intro rfl (And.intro rfl (And.intro rfl (And.intro rfl (trivial))))))
        · replace h := it_f h z31
          refine ct_iconst (v := 1) (q := 100) dX7_ticks_99 (by decide) rfl ?_
          refine ct_goto (q := 104) dX7_ticks_100 (by decide) ?_
          exact ct_lessK (vX7_ticks_b104 hB ih a0 x1 x2 x3 r28.1 1 r28.2 r h) (And.intro rfl (And.intro rfl (And.intro rfl (And.intro rfl (And.intro rfl (trivial))))))

def fX7_ticks_b52 (k4 : Nat → Int32 → Int32 → ctM → Option (Int32 × ctM)) (a0 : Nat) (x1 : Int32) (x2 : Int32) (M : ctM) : Option (Int32 × ctM) :=
  k4 a0 x1 (x2 + 1) M

set_option maxHeartbeats 4000000 in
set_option maxRecDepth 20000 in
theorem vX7_ticks_b52 {B : ctB} {n : Nat} (hB : ctOk B kdM lnM n) {k4 : Nat → Int32 → Int32 → ctM → Option (Int32 × ctM)} (hk4 : ∀ (a0 : Nat) (x1 : Int32) (x2 : Int32) (M : ctM) (r : Int32 × ctM), k4 a0 x1 x2 M = some r → ctV B mX7_ticks (6, 0, 0) (poI r n) 4 [some (.ref a0), some (.int x1), some (.int x2), none, none, none, none] [] (0, 0) n M) : ∀ (a0 : Nat) (x1 : Int32) (x2 : Int32) (M : ctM) (r : Int32 × ctM), fX7_ticks_b52 k4 a0 x1 x2 M = some r → ctV B mX7_ticks (6, 0, 0) (poI r n) 52 [some (.ref a0), some (.int x1), some (.int x2), none, none, none, none] [] (0, 0) n M := by
  intro a0 x1 x2 M r h
  unfold fX7_ticks_b52 at h
  refine ct_iinc_2 (q := 55) (v := x2 + 1) dX7_ticks_52 (by first | rfl | decide) (by decide) rfl rfl ?_
  refine ct_goto (q := 4) dX7_ticks_55 (by decide) ?_
  exact ct_lessK (hk4 a0 x1 (x2 + 1) M r h) (And.intro rfl (And.intro rfl (And.intro rfl (trivial))))

def fX7_ticks_h4 : Nat → Nat → Int32 → Int32 → ctM → Option (Int32 × ctM)
  | 0, _, _, _, _ => none
  | N + 1, a0, x1, x2, M =>
    (gP kdM 7 0 a0 M).bind fun a21 =>
    (aI kdM lnM 9 a21 0 M).bind fun x22 =>
    if x22 ≤ x2 then
      fX7_ticks_h62 4000 a0 x1 0 0 M
    else
      (cV kdM 7 a0 (fX7_isLit a0 x2 M)).bind fun r24 =>
      if r24.1 = 0 then
        fX7_ticks_b52 (fX7_ticks_h4 N) a0 x1 x2 r24.2
      else
        (gP kdM 7 12 a0 r24.2).bind fun a26 =>
        (cV kdM 7 a0 (fX7_of a0 x2 4 r24.2)).bind fun r27 =>
        (cV kdM 7 a0 (fX7_pace a0 x2 r27.2)).bind fun r28 =>
        (cV kdM 7 a0 (fX7_turned a0 x2 r28.2)).bind fun r29 =>
        (sI kdM lnM 9 a26 x2 ((r27.1 + r28.1) + r29.1) r29.2).bind fun M30 =>
        fX7_ticks_b52 (fX7_ticks_h4 N) a0 (x1 ||| (1 <<< (x2 &&& 31))) x2 M30

set_option maxHeartbeats 4000000 in
set_option maxRecDepth 20000 in
theorem vX7_ticks_h4 {B : ctB} {n : Nat} (hB : ctOk B kdM lnM n) : ∀ (N : Nat) (a0 : Nat) (x1 : Int32) (x2 : Int32) (M : ctM) (r : Int32 × ctM), fX7_ticks_h4 N a0 x1 x2 M = some r → ctV B mX7_ticks (6, 0, 0) (poI r n) 4 [some (.ref a0), some (.int x1), some (.int x2), none, none, none, none] [] (0, 0) n M := by
  intro N
  induction N with
  | zero => intro a0 x1 x2 M r h; exact absurd h (by simp [fX7_ticks_h4])
  | succ N ih =>
    intro a0 x1 x2 M r h
    rw [fX7_ticks_h4] at h
    refine ct_iload_2 (q := 5) dX7_ticks_4 rfl ?_
    refine ct_aload_0 (q := 6) dX7_ticks_5 rfl ?_
    obtain ⟨a21, ga21, h⟩ := ob h
    refine ct_getP (q := 9) hB dX7_ticks_6 fl_RX7_7 rfl ga21 rfl ?_
    refine ct_iconst (v := 0) (q := 10) dX7_ticks_9 (by decide) rfl ?_
    obtain ⟨x22, gx22, h⟩ := ob h
    refine ct_iald (q := 11) hB dX7_ticks_10 gx22 rfl ?_
    refine ct_icmp_ge (q := 14) (tgt := 58) dX7_ticks_11 (by decide) rfl (fun z23 => ?_) (fun z23 => ?_)
    · replace h := it_t h z23
      refine ct_iconst (v := 0) (q := 59) dX7_ticks_58 (by decide) rfl ?_
      refine ct_istore_2 (q := 60) dX7_ticks_59 (by decide) rfl rfl ?_
      refine ct_iconst (v := 0) (q := 61) dX7_ticks_60 (by decide) rfl ?_
      refine ct_istore_3 (q := 62) dX7_ticks_61 (by decide) rfl rfl ?_
      exact ct_lessK (vX7_ticks_h62 hB  4000 a0 x1 0 0 M r h) (And.intro rfl (And.intro rfl (And.intro rfl (And.intro rfl (trivial)))))
    · replace h := it_f h z23
      refine ct_aload_0 (q := 15) dX7_ticks_14 rfl ?_
      refine ct_iload_2 (q := 16) dX7_ticks_15 rfl ?_
      obtain ⟨r24, gr24, h⟩ := ob h
      obtain ⟨er24, gr24⟩ := cV_spec gr24
      refine ct_cVi1 (q := 19) hB dX7_ticks_16 lk_RX7_109 (by decide) (ctX7_isLit hB gr24) er24 (by decide) rfl (Nat.le_of_ble_eq_true rfl) rfl ?_
      refine ct_if_eq (q := 22) (tgt := 52) dX7_ticks_19 (by decide) rfl (fun z25 => ?_) (fun z25 => ?_)
      · replace h := it_t h z25
        exact ct_lessK (vX7_ticks_b52 hB ih a0 x1 x2 r24.2 r h) (And.intro rfl (And.intro rfl (And.intro rfl (trivial))))
      · replace h := it_f h z25
        refine ct_iload_1 (q := 23) dX7_ticks_22 rfl ?_
        refine ct_iconst (v := 1) (q := 24) dX7_ticks_23 (by decide) rfl ?_
        refine ct_iload_2 (q := 25) dX7_ticks_24 rfl ?_
        refine ct_ishl (q := 26) dX7_ticks_25 rfl ?_
        refine ct_ior (q := 27) dX7_ticks_26 rfl ?_
        refine ct_istore_1 (q := 28) dX7_ticks_27 (by decide) rfl rfl ?_
        refine ct_aload_0 (q := 29) dX7_ticks_28 rfl ?_
        obtain ⟨a26, ga26, h⟩ := ob h
        refine ct_getP (q := 32) hB dX7_ticks_29 fl_RX7_43 rfl ga26 rfl ?_
        refine ct_iload_2 (q := 33) dX7_ticks_32 rfl ?_
        refine ct_aload_0 (q := 34) dX7_ticks_33 rfl ?_
        refine ct_iload_2 (q := 35) dX7_ticks_34 rfl ?_
        refine ct_iconst (v := 4) (q := 36) dX7_ticks_35 (by decide) rfl ?_
        obtain ⟨r27, gr27, h⟩ := ob h
        obtain ⟨er27, gr27⟩ := cV_spec gr27
        refine ct_cVi2 (q := 39) hB dX7_ticks_36 lk_RX7_80 (by decide) (ctX7_of hB gr27) er27 (by decide) rfl (Nat.le_of_ble_eq_true rfl) rfl ?_
        refine ct_aload_0 (q := 40) dX7_ticks_39 rfl ?_
        refine ct_iload_2 (q := 41) dX7_ticks_40 rfl ?_
        obtain ⟨r28, gr28, h⟩ := ob h
        obtain ⟨er28, gr28⟩ := cV_spec gr28
        refine ct_cVi1 (q := 44) hB dX7_ticks_41 lk_RX7_126 (by decide) (ctX7_pace hB gr28) er28 (by decide) rfl (Nat.le_of_ble_eq_true rfl) rfl ?_
        refine ct_iadd (q := 45) dX7_ticks_44 rfl ?_
        refine ct_aload_0 (q := 46) dX7_ticks_45 rfl ?_
        refine ct_iload_2 (q := 47) dX7_ticks_46 rfl ?_
        obtain ⟨r29, gr29, h⟩ := ob h
        obtain ⟨er29, gr29⟩ := cV_spec gr29
        refine ct_cVi1 (q := 50) hB dX7_ticks_47 lk_RX7_162 (by decide) (ctX7_turned hB gr29) er29 (by decide) rfl (Nat.le_of_ble_eq_true rfl) rfl ?_
        refine ct_iadd (q := 51) dX7_ticks_50 rfl ?_
        obtain ⟨M30, gM30, h⟩ := ob h
        refine ct_iast (q := 52) hB dX7_ticks_51 gM30 rfl ?_
        exact ct_lessK (vX7_ticks_b52 hB ih a0 (x1 ||| (1 <<< (x2 &&& 31))) x2 M30 r h) (And.intro rfl (And.intro rfl (And.intro rfl (trivial))))

def fX7_ticks (a0 : Nat) (M : ctM) : Option (Int32 × ctM) :=
  fX7_ticks_h4 4000 a0 0 0 M

set_option maxHeartbeats 4000000 in
set_option maxRecDepth 20000 in
theorem ctX7_ticks {B : ctB} {n : Nat} (hB : ctOk B kdM lnM n) {a0 : Nat} {M : ctM} {r : Int32 × ctM} (h : fX7_ticks a0 M = some r) : ctC B mX7_ticks (6, 0, 0) [.ref a0] n M (poI r n) := by
  refine ctC_of (by decide) (Nat.le_of_ble_eq_true rfl) ?_
  show ctV B mX7_ticks (6, 0, 0) (poI r n) 0 [some (.ref a0), none, none, none, none, none, none] [] (0, 0) n M
  unfold fX7_ticks at h
  refine ct_iconst (v := 0) (q := 1) dX7_ticks_0 (by decide) rfl ?_
  refine ct_istore_1 (q := 2) dX7_ticks_1 (by decide) rfl rfl ?_
  refine ct_iconst (v := 0) (q := 3) dX7_ticks_2 (by decide) rfl ?_
  refine ct_istore_2 (q := 4) dX7_ticks_3 (by decide) rfl rfl ?_
  exact ct_lessK (vX7_ticks_h4 hB  4000 a0 0 0 M r h) (And.intro rfl (And.intro rfl (And.intro rfl (trivial))))

def fX7_run_h19 : Nat → Nat → Int32 → Int32 → Int32 → ctM → Option (Int32 × ctM)
  | 0, _, _, _, _, _ => none
  | N + 1, a0, x1, x2, x3, M =>
    if x1 ≤ x3 then
      some (x2, M)
    else
      (cV kdM 7 a0 (fX7_ticks a0 M)).bind fun r22 =>
      fX7_run_h19 N a0 x1 (x2 + r22.1) (x3 + 1) r22.2

set_option maxHeartbeats 4000000 in
set_option maxRecDepth 20000 in
theorem vX7_run_h19 {B : ctB} {n : Nat} (hB : ctOk B kdM lnM n) : ∀ (N : Nat) (a0 : Nat) (x1 : Int32) (x2 : Int32) (x3 : Int32) (M : ctM) (r : Int32 × ctM), fX7_run_h19 N a0 x1 x2 x3 M = some r → ctV B mX7_run (7, 0, 0) (poI r n) 19 [some (.ref a0), some (.int x1), some (.int x2), some (.int x3)] [] (0, 0) n M := by
  intro N
  induction N with
  | zero => intro a0 x1 x2 x3 M r h; exact absurd h (by simp [fX7_run_h19])
  | succ N ih =>
    intro a0 x1 x2 x3 M r h
    rw [fX7_run_h19] at h
    refine ct_iload_3 (q := 20) dX7_run_19 rfl ?_
    refine ct_iload_1 (q := 21) dX7_run_20 rfl ?_
    refine ct_icmp_ge (q := 24) (tgt := 37) dX7_run_21 (by decide) rfl (fun z21 => ?_) (fun z21 => ?_)
    · replace h := it_t h z21
      refine ct_iload_2 (q := 38) dX7_run_37 rfl ?_
      exact ct_iret dX7_run_38 rfl ⟨Nat.le_refl 0, Nat.le_refl 0⟩ (poI_of h)
    · replace h := it_f h z21
      refine ct_iload_2 (q := 25) dX7_run_24 rfl ?_
      refine ct_aload_0 (q := 26) dX7_run_25 rfl ?_
      obtain ⟨r22, gr22, h⟩ := ob h
      obtain ⟨er22, gr22⟩ := cV_spec gr22
      refine ct_cVi0 (q := 29) hB dX7_run_26 lk_RX7_167 (by decide) (ctX7_ticks hB gr22) er22 (by decide) rfl (Nat.le_of_ble_eq_true rfl) rfl ?_
      refine ct_iadd (q := 30) dX7_run_29 rfl ?_
      refine ct_istore_2 (q := 31) dX7_run_30 (by decide) rfl rfl ?_
      refine ct_iinc_3 (q := 34) (v := x3 + 1) dX7_run_31 (by first | rfl | decide) (by decide) rfl rfl ?_
      refine ct_goto (q := 19) dX7_run_34 (by decide) ?_
      exact ct_lessK (ih a0 x1 (x2 + r22.1) (x3 + 1) r22.2 r h) (And.intro rfl (And.intro rfl (And.intro rfl (And.intro rfl (trivial)))))

def fX7_run (a0 : Nat) (x1 : Int32) (M : ctM) : Option (Int32 × ctM) :=
  (fX7_isIn ((x1 : Int32).toInt64) 1 60 M).bind fun r21 =>
  if r21.1 = 0 then
    some ((-1000000001), r21.2)
  else
    fX7_run_h19 4000 a0 x1 0 0 r21.2

set_option maxHeartbeats 4000000 in
set_option maxRecDepth 20000 in
theorem ctX7_run {B : ctB} {n : Nat} (hB : ctOk B kdM lnM n) {a0 : Nat} {x1 : Int32} {M : ctM} {r : Int32 × ctM} (h : fX7_run a0 x1 M = some r) : ctC B mX7_run (7, 0, 0) [.ref a0, .int x1] n M (poI r n) := by
  refine ctC_of (by decide) (Nat.le_of_ble_eq_true rfl) ?_
  show ctV B mX7_run (7, 0, 0) (poI r n) 0 [some (.ref a0), some (.int x1), none, none] [] (0, 0) n M
  unfold fX7_run at h
  refine ct_iload_1 (q := 1) dX7_run_0 rfl ?_
  refine ct_i2l (q := 2) dX7_run_1 rfl ?_
  refine ct_lconst (v := 1) (q := 3) dX7_run_2 (by decide) rfl ?_
  refine ct_ldc2 (q := 6) dX7_run_3 wd_1043 rfl ?_
  obtain ⟨r21, gr21, h⟩ := ob h
  refine ct_cSi3 (q := 9) dX7_run_6 lk_RX7_76 (by decide) (ctX7_isIn hB gr21) (Nat.le_of_ble_eq_true rfl) rfl ?_
  refine ct_if_ne (q := 12) (tgt := 15) dX7_run_9 (by decide) rfl (fun z22 => ?_) (fun z22 => ?_)
  · replace h := it_f h z22
    refine ct_iconst (v := 0) (q := 16) dX7_run_15 (by decide) rfl ?_
    refine ct_istore_2 (q := 17) dX7_run_16 (by decide) rfl rfl ?_
    refine ct_iconst (v := 0) (q := 18) dX7_run_17 (by decide) rfl ?_
    refine ct_istore_3 (q := 19) dX7_run_18 (by decide) rfl rfl ?_
    exact ct_lessK (vX7_run_h19 hB  4000 a0 x1 0 0 r21.2 r h) (And.intro rfl (And.intro rfl (And.intro rfl (And.intro rfl (trivial)))))
  · replace h := it_t h z22
    refine ct_ldc (q := 14) dX7_run_12 wd_919 rfl ?_
    exact ct_iret dX7_run_14 rfl ⟨Nat.le_refl 0, Nat.le_refl 0⟩ (poI_of h)

