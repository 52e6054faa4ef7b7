def fX3_begin_h12 : Nat → Nat → Int32 → ctM → Option (ctM)
  | 0, _, _, _ => none
  | N + 1, a0, x3, M =>
    if 24 ≤ x3 then
      some M
    else
      (gP kdC 3 2 a0 M).bind fun a22 =>
      (sI kdC lnC 9 a22 x3 0 M).bind fun M23 =>
      fX3_begin_h12 N a0 (x3 + 1) M23

set_option maxHeartbeats 4000000 in
set_option maxRecDepth 20000 in
theorem vX3_begin_h12 {B : ctB} {n : Nat} (hB : ctOk B kdC lnC n) : ∀ (N : Nat) (a0 : Nat) (x3 : Int32) (M : ctM) (r : ctM), fX3_begin_h12 N a0 x3 M = some r → ctV B mX3_begin (0, 0, 0) (poV r n) 12 [some (.ref a0), none, none, some (.int x3)] [] (0, 0) n M := by
  intro N
  induction N with
  | zero => intro a0 x3 M r h; exact absurd h (by simp [fX3_begin_h12])
  | succ N ih =>
    intro a0 x3 M r h
    rw [fX3_begin_h12] at h
    refine ct_iload_3 (q := 13) dX3_begin_12 rfl ?_
    refine ct_bipush (v := 24) (q := 15) dX3_begin_13 (by decide) rfl ?_
    refine ct_icmp_ge (q := 18) (tgt := 31) dX3_begin_15 (by decide) rfl (fun z21 => ?_) (fun z21 => ?_)
    · replace h := it_t h z21
      exact ct_vret dX3_begin_31 rfl ⟨Nat.le_refl 0, Nat.le_refl 0⟩ (poV_of h)
    · replace h := it_f h z21
      refine ct_aload_0 (q := 19) dX3_begin_18 rfl ?_
      obtain ⟨a22, ga22, h⟩ := ob h
      refine ct_getP (q := 22) hB dX3_begin_19 fl_RX3_18 rfl ga22 rfl ?_
      refine ct_iload_3 (q := 23) dX3_begin_22 rfl ?_
      refine ct_iconst (v := 0) (q := 24) dX3_begin_23 (by decide) rfl ?_
      obtain ⟨M23, gM23, h⟩ := ob h
      refine ct_iast (q := 25) hB dX3_begin_24 gM23 rfl ?_
      refine ct_iinc_3 (q := 28) (v := x3 + 1) dX3_begin_25 (by first | rfl | decide) (by decide) rfl rfl ?_
      refine ct_goto (q := 12) dX3_begin_28 (by decide) ?_
      exact ct_lessK (ih a0 (x3 + 1) M23 r h) (And.intro rfl (And.intro rfl (trivial)))

def fX3_begin (a0 : Nat) (x1 : Int32) (x2 : Int32) (M : ctM) : Option (ctM) :=
  (pI kdC 3 0 a0 x1 M).bind fun M21 =>
  (pI kdC 3 1 a0 x2 M21).bind fun M22 =>
  fX3_begin_h12 4000 a0 0 M22

set_option maxHeartbeats 4000000 in
set_option maxRecDepth 20000 in
theorem ctX3_begin {B : ctB} {n : Nat} (hB : ctOk B kdC lnC n) {a0 : Nat} {x1 : Int32} {x2 : Int32} {M : ctM} {r : ctM} (h : fX3_begin a0 x1 x2 M = some r) : ctC B mX3_begin (0, 0, 0) [.ref a0, .int x1, .int x2] n M (poV r n) := by
  refine ctC_of (by decide) (Nat.le_of_ble_eq_true rfl) ?_
  show ctV B mX3_begin (0, 0, 0) (poV r n) 0 [some (.ref a0), some (.int x1), some (.int x2), none] [] (0, 0) n M
  unfold fX3_begin at h
  refine ct_aload_0 (q := 1) dX3_begin_0 rfl ?_
  refine ct_iload_1 (q := 2) dX3_begin_1 rfl ?_
  obtain ⟨M21, gM21, h⟩ := ob h
  refine ct_putI (q := 5) hB dX3_begin_2 fl_RX3_9 rfl rfl (Or.inl rfl) gM21 rfl ?_
  refine ct_aload_0 (q := 6) dX3_begin_5 rfl ?_
  refine ct_iload_2 (q := 7) dX3_begin_6 rfl ?_
  obtain ⟨M22, gM22, h⟩ := ob h
  refine ct_putI (q := 10) hB dX3_begin_7 fl_RX3_15 rfl rfl (Or.inl rfl) gM22 rfl ?_
  refine ct_iconst (v := 0) (q := 11) dX3_begin_10 (by decide) rfl ?_
  refine ct_istore_3 (q := 12) dX3_begin_11 (by decide) rfl rfl ?_
  exact ct_lessK (vX3_begin_h12 hB  4000 a0 0 M22 r h) (And.intro rfl (And.intro rfl (trivial)))

def fX3_become_h18 : Nat → Nat → Nat → Int32 → ctM → Option (ctM)
  | 0, _, _, _, _ => none
  | N + 1, a0, a1, x2, M =>
    if 24 ≤ x2 then
      some M
    else
      (gP kdC 3 2 a0 M).bind fun a22 =>
      (gP kdC 3 2 a1 M).bind fun a23 =>
      (aI kdC lnC 9 a23 x2 M).bind fun x24 =>
      (sI kdC lnC 9 a22 x2 x24 M).bind fun M25 =>
      fX3_become_h18 N a0 a1 (x2 + 1) M25

set_option maxHeartbeats 4000000 in
set_option maxRecDepth 20000 in
theorem vX3_become_h18 {B : ctB} {n : Nat} (hB : ctOk B kdC lnC n) : ∀ (N : Nat) (a0 : Nat) (a1 : Nat) (x2 : Int32) (M : ctM) (r : ctM), fX3_become_h18 N a0 a1 x2 M = some r → ctV B mX3_become (0, 0, 0) (poV r n) 18 [some (.ref a0), some (.ref a1), some (.int x2)] [] (0, 0) n M := by
  intro N
  induction N with
  | zero => intro a0 a1 x2 M r h; exact absurd h (by simp [fX3_become_h18])
  | succ N ih =>
    intro a0 a1 x2 M r h
    rw [fX3_become_h18] at h
    refine ct_iload_2 (q := 19) dX3_become_18 rfl ?_
    refine ct_bipush (v := 24) (q := 21) dX3_become_19 (by decide) rfl ?_
    refine ct_icmp_ge (q := 24) (tgt := 42) dX3_become_21 (by decide) rfl (fun z21 => ?_) (fun z21 => ?_)
    · replace h := it_t h z21
      exact ct_vret dX3_become_42 rfl ⟨Nat.le_refl 0, Nat.le_refl 0⟩ (poV_of h)
    · replace h := it_f h z21
      refine ct_aload_0 (q := 25) dX3_become_24 rfl ?_
      obtain ⟨a22, ga22, h⟩ := ob h
      refine ct_getP (q := 28) hB dX3_become_25 fl_RX3_18 rfl ga22 rfl ?_
      refine ct_iload_2 (q := 29) dX3_become_28 rfl ?_
      refine ct_aload_1 (q := 30) dX3_become_29 rfl ?_
      obtain ⟨a23, ga23, h⟩ := ob h
      refine ct_getP (q := 33) hB dX3_become_30 fl_RX3_18 rfl ga23 rfl ?_
      refine ct_iload_2 (q := 34) dX3_become_33 rfl ?_
      obtain ⟨x24, gx24, h⟩ := ob h
      refine ct_iald (q := 35) hB dX3_become_34 gx24 rfl ?_
      obtain ⟨M25, gM25, h⟩ := ob h
      refine ct_iast (q := 36) hB dX3_become_35 gM25 rfl ?_
      refine ct_iinc_2 (q := 39) (v := x2 + 1) dX3_become_36 (by first | rfl | decide) (by decide) rfl rfl ?_
      refine ct_goto (q := 18) dX3_become_39 (by decide) ?_
      exact ct_lessK (ih a0 a1 (x2 + 1) M25 r h) (And.intro rfl (And.intro rfl (And.intro rfl (trivial))))

def fX3_become (a0 : Nat) (a1 : Nat) (M : ctM) : Option (ctM) :=
  (gI kdC 3 0 a1 M).bind fun x21 =>
  (pI kdC 3 0 a0 x21 M).bind fun M22 =>
  (gI kdC 3 1 a1 M22).bind fun x23 =>
  (pI kdC 3 1 a0 x23 M22).bind fun M24 =>
  fX3_become_h18 4000 a0 a1 0 M24

set_option maxHeartbeats 4000000 in
set_option maxRecDepth 20000 in
theorem ctX3_become {B : ctB} {n : Nat} (hB : ctOk B kdC lnC n) {a0 : Nat} {a1 : Nat} {M : ctM} {r : ctM} (h : fX3_become a0 a1 M = some r) : ctC B mX3_become (0, 0, 0) [.ref a0, .ref a1] n M (poV r n) := by
  refine ctC_of (by decide) (Nat.le_of_ble_eq_true rfl) ?_
  show ctV B mX3_become (0, 0, 0) (poV r n) 0 [some (.ref a0), some (.ref a1), none] [] (0, 0) n M
  unfold fX3_become at h
  refine ct_aload_0 (q := 1) dX3_become_0 rfl ?_
  refine ct_aload_1 (q := 2) dX3_become_1 rfl ?_
  obtain ⟨x21, gx21, h⟩ := ob h
  refine ct_getI (q := 5) hB dX3_become_2 fl_RX3_9 rfl gx21 rfl ?_
  obtain ⟨M22, gM22, h⟩ := ob h
  refine ct_putI (q := 8) hB dX3_become_5 fl_RX3_9 rfl rfl (Or.inl rfl) gM22 rfl ?_
  refine ct_aload_0 (q := 9) dX3_become_8 rfl ?_
  refine ct_aload_1 (q := 10) dX3_become_9 rfl ?_
  obtain ⟨x23, gx23, h⟩ := ob h
  refine ct_getI (q := 13) hB dX3_become_10 fl_RX3_15 rfl gx23 rfl ?_
  obtain ⟨M24, gM24, h⟩ := ob h
  refine ct_putI (q := 16) hB dX3_become_13 fl_RX3_15 rfl rfl (Or.inl rfl) gM24 rfl ?_
  refine ct_iconst (v := 0) (q := 17) dX3_become_16 (by decide) rfl ?_
  refine ct_istore_2 (q := 18) dX3_become_17 (by decide) rfl rfl ?_
  exact ct_lessK (vX3_become_h18 hB  4000 a0 a1 0 M24 r h) (And.intro rfl (And.intro rfl (And.intro rfl (trivial))))

def fX3_isMissing (a0 : Nat) (M : ctM) : Option (Int32 × ctM) :=
  (gI kdC 3 0 a0 M).bind fun x21 =>
  if x21 = (-1) then
    some (1, M)
  else
    some (0, M)

set_option maxHeartbeats 4000000 in
set_option maxRecDepth 20000 in
theorem ctX3_isMissing {B : ctB} {n : Nat} (hB : ctOk B kdC lnC n) {a0 : Nat} {M : ctM} {r : Int32 × ctM} (h : fX3_isMissing a0 M = some r) : ctC B mX3_isMissing (0, 0, 0) [.ref a0] n M (poI r n) := by
  refine ctC_of (by decide) (Nat.le_of_ble_eq_true rfl) ?_
  show ctV B mX3_isMissing (0, 0, 0) (poI r n) 0 [some (.ref a0)] [] (0, 0) n M
  unfold fX3_isMissing at h
  refine ct_aload_0 (q := 1) dX3_isMissing_0 rfl ?_
  obtain ⟨x21, gx21, h⟩ := ob h
  refine ct_getI (q := 4) hB dX3_isMissing_1 fl_RX3_9 rfl gx21 rfl ?_
  refine ct_iconst (v := -1) (q := 5) dX3_isMissing_4 (by decide) rfl ?_
  refine ct_icmp_ne (q := 8) (tgt := 12) dX3_isMissing_5 (by decide) rfl (fun z22 => ?_) (fun z22 => ?_)
  · replace h := it_f h z22
    refine ct_iconst (v := 0) (q := 13) dX3_isMissing_12 (by decide) rfl ?_
    exact ct_zret dX3_isMissing_13 rfl (by decide) ⟨Nat.le_refl 0, Nat.le_refl 0⟩ (poI_of h)
  · replace h := it_t h z22
    refine ct_iconst (v := 1) (q := 9) dX3_isMissing_8 (by decide) rfl ?_
    refine ct_goto (q := 13) dX3_isMissing_9 (by decide) ?_
    exact ct_zret dX3_isMissing_13 rfl (by decide) ⟨Nat.le_refl 0, Nat.le_refl 0⟩ (poI_of h)

def fX3_has (a0 : Nat) (x1 : Int32) (M : ctM) : Option (Int32 × ctM) :=
  (gI kdC 3 1 a0 M).bind fun x21 =>
  (fX6_isWithin x1 0 (x21 - 1) M).bind fun r22 =>
  if r22.1 = 0 ∨ r22.1 = 1 then some (r22.1, r22.2) else none

set_option maxHeartbeats 4000000 in
set_option maxRecDepth 20000 in
theorem ctX3_has {B : ctB} {n : Nat} (hB : ctOk B kdC lnC n) {a0 : Nat} {x1 : Int32} {M : ctM} {r : Int32 × ctM} (h : fX3_has a0 x1 M = some r) : ctC B mX3_has (1, 0, 0) [.ref a0, .int x1] n M (poI r n) := by
  refine ctC_of (by decide) (Nat.le_of_ble_eq_true rfl) ?_
  show ctV B mX3_has (1, 0, 0) (poI r n) 0 [some (.ref a0), some (.int x1)] [] (0, 0) n M
  unfold fX3_has at h
  refine ct_iload_1 (q := 1) dX3_has_0 rfl ?_
  refine ct_iconst (v := 0) (q := 2) dX3_has_1 (by decide) rfl ?_
  refine ct_aload_0 (q := 3) dX3_has_2 rfl ?_
  obtain ⟨x21, gx21, h⟩ := ob h
  refine ct_getI (q := 6) hB dX3_has_3 fl_RX3_15 rfl gx21 rfl ?_
  refine ct_iconst (v := 1) (q := 7) dX3_has_6 (by decide) rfl ?_
  refine ct_isub (q := 8) dX3_has_7 rfl ?_
  obtain ⟨r22, gr22, h⟩ := ob h
  refine ct_cSi3 (q := 11) dX3_has_8 lk_RX3_22 (by decide) (ctX6_isWithin hB gr22) (Nat.le_of_ble_eq_true rfl) rfl ?_
  by_cases z23 : r22.1 = 0 ∨ r22.1 = 1
  · exact ct_zret dX3_has_11 rfl z23 ⟨Nat.le_refl 0, Nat.le_refl 0⟩ (poI_of (it_t h z23))
  · exact absurd (it_f h z23) (by simp)

def fX3_hasRun (a0 : Nat) (x1 : Int32) (x2 : Int32) (M : ctM) : Option (Int32 × ctM) :=
  (gI kdC 3 1 a0 M).bind fun x21 =>
  (fX6_isWithin x1 0 x21 M).bind fun r22 =>
  if r22.1 = 0 then
    some (0, r22.2)
  else
    (gI kdC 3 1 a0 r22.2).bind fun x24 =>
    (fX6_isWithin x2 0 (x24 - x1) r22.2).bind fun r25 =>
    if r25.1 = 0 then
      some (0, r25.2)
    else
      some (1, r25.2)

set_option maxHeartbeats 4000000 in
set_option maxRecDepth 20000 in
theorem ctX3_hasRun {B : ctB} {n : Nat} (hB : ctOk B kdC lnC n) {a0 : Nat} {x1 : Int32} {x2 : Int32} {M : ctM} {r : Int32 × ctM} (h : fX3_hasRun a0 x1 x2 M = some r) : ctC B mX3_hasRun (1, 0, 0) [.ref a0, .int x1, .int x2] n M (poI r n) := by
  refine ctC_of (by decide) (Nat.le_of_ble_eq_true rfl) ?_
  show ctV B mX3_hasRun (1, 0, 0) (poI r n) 0 [some (.ref a0), some (.int x1), some (.int x2)] [] (0, 0) n M
  unfold fX3_hasRun at h
  refine ct_iload_1 (q := 1) dX3_hasRun_0 rfl ?_
  refine ct_iconst (v := 0) (q := 2) dX3_hasRun_1 (by decide) rfl ?_
  refine ct_aload_0 (q := 3) dX3_hasRun_2 rfl ?_
  obtain ⟨x21, gx21, h⟩ := ob h
  refine ct_getI (q := 6) hB dX3_hasRun_3 fl_RX3_15 rfl gx21 rfl ?_
  obtain ⟨r22, gr22, h⟩ := ob h
  refine ct_cSi3 (q := 9) dX3_hasRun_6 lk_RX3_22 (by decide) (ctX6_isWithin hB gr22) (Nat.le_of_ble_eq_true rfl) rfl ?_
  refine ct_if_eq (q := 12) (tgt := 30) dX3_hasRun_9 (by decide) rfl (fun z23 => ?_) (fun z23 => ?_)
  · replace h := it_t h z23
    refine ct_iconst (v := 0) (q := 31) dX3_hasRun_30 (by decide) rfl ?_
    exact ct_zret dX3_hasRun_31 rfl (by decide) ⟨Nat.le_refl 0, Nat.le_refl 0⟩ (poI_of h)
  · replace h := it_f h z23
    refine ct_iload_2 (q := 13) dX3_hasRun_12 rfl ?_
    refine ct_iconst (v := 0) (q := 14) dX3_hasRun_13 (by decide) rfl ?_
    refine ct_aload_0 (q := 15) dX3_hasRun_14 rfl ?_
    obtain ⟨x24, gx24, h⟩ := ob h
    refine ct_getI (q := 18) hB dX3_hasRun_15 fl_RX3_15 rfl gx24 rfl ?_
    refine ct_iload_1 (q := 19) dX3_hasRun_18 rfl ?_
    refine ct_isub (q := 20) dX3_hasRun_19 rfl ?_
    obtain ⟨r25, gr25, h⟩ := ob h
    refine ct_cSi3 (q := 23) dX3_hasRun_20 lk_RX3_22 (by decide) (ctX6_isWithin hB gr25) (Nat.le_of_ble_eq_true rfl) rfl ?_
    refine ct_if_eq (q := 26) (tgt := 30) dX3_hasRun_23 (by decide) rfl (fun z26 => ?_) (fun z26 => ?_)
    · replace h := it_t h z26
      refine ct_iconst (v := 0) (q := 31) dX3_hasRun_30 (by decide) rfl ?_
      exact ct_zret dX3_hasRun_31 rfl (by decide) ⟨Nat.le_refl 0, Nat.le_refl 0⟩ (poI_of h)
    · replace h := it_f h z26
      refine ct_iconst (v := 1) (q := 27) dX3_hasRun_26 (by decide) rfl ?_
      refine ct_goto (q := 31) dX3_hasRun_27 (by decide) ?_
      exact ct_zret dX3_hasRun_31 rfl (by decide) ⟨Nat.le_refl 0, Nat.le_refl 0⟩ (poI_of h)

def fX5_addFour_h3 : Nat → Nat → Int32 → Int32 → ctM → Option (ctM)
  | 0, _, _, _, _ => none
  | N + 1, a0, x1, x2, M =>
    if x2 < 0 then
      some M
    else
      (gI kdC 5 1 a0 M).bind fun x22 =>
      if 96 ≤ x22 then
        some M
      else
        (gP kdC 5 0 a0 M).bind fun a24 =>
        (gI kdC 5 1 a0 M).bind fun x25 =>
        (sI kdC lnC 8 a24 x25 ((((x1 : Int32).toUInt32 >>> ((x2 : Int32).toUInt32 &&& Int32.toUInt32 31)).toInt32 : Int32).toInt8.toInt32) M).bind fun M26 =>
        (gI kdC 5 1 a0 M26).bind fun x27 =>
        (pI kdC 5 1 a0 (x27 + 1) M26).bind fun M28 =>
        fX5_addFour_h3 N a0 x1 (x2 + (-8)) M28

set_option maxHeartbeats 4000000 in
set_option maxRecDepth 20000 in
theorem vX5_addFour_h3 {B : ctB} {n : Nat} (hB : ctOk B kdC lnC n) : ∀ (N : Nat) (a0 : Nat) (x1 : Int32) (x2 : Int32) (M : ctM) (r : ctM), fX5_addFour_h3 N a0 x1 x2 M = some r → ctV B mX5_addFour (0, 0, 0) (poV r n) 3 [some (.ref a0), some (.int x1), some (.int x2)] [] (0, 0) n M := by
  intro N
  induction N with
  | zero => intro a0 x1 x2 M r h; exact absurd h (by simp [fX5_addFour_h3])
  | succ N ih =>
    intro a0 x1 x2 M r h
    rw [fX5_addFour_h3] at h
    refine ct_iload_2 (q := 4) dX5_addFour_3 rfl ?_
    refine ct_if_lt (q := 7) (tgt := 45) dX5_addFour_4 (by decide) rfl (fun z21 => ?_) (fun z21 => ?_)
    · replace h := it_t h z21
      exact ct_vret dX5_addFour_45 rfl ⟨Nat.le_refl 0, Nat.le_refl 0⟩ (poV_of h)
    · replace h := it_f h z21
      refine ct_aload_0 (q := 8) dX5_addFour_7 rfl ?_
      obtain ⟨x22, gx22, h⟩ := ob h
      refine ct_getI (q := 11) hB dX5_addFour_8 fl_RX5_15 rfl gx22 rfl ?_
      refine ct_bipush (v := 96) (q := 13) dX5_addFour_11 (by decide) rfl ?_
      refine ct_icmp_ge (q := 16) (tgt := 45) dX5_addFour_13 (by decide) rfl (fun z23 => ?_) (fun z23 => ?_)
      · replace h := it_t h z23
        exact ct_vret dX5_addFour_45 rfl ⟨Nat.le_refl 0, Nat.le_refl 0⟩ (poV_of h)
      · replace h := it_f h z23
        refine ct_aload_0 (q := 17) dX5_addFour_16 rfl ?_
        obtain ⟨a24, ga24, h⟩ := ob h
        refine ct_getP (q := 20) hB dX5_addFour_17 fl_RX5_9 rfl ga24 rfl ?_
        refine ct_aload_0 (q := 21) dX5_addFour_20 rfl ?_
        obtain ⟨x25, gx25, h⟩ := ob h
        refine ct_getI (q := 24) hB dX5_addFour_21 fl_RX5_15 rfl gx25 rfl ?_
        refine ct_iload_1 (q := 25) dX5_addFour_24 rfl ?_
        refine ct_iload_2 (q := 26) dX5_addFour_25 rfl ?_
        refine ct_iushr (q := 27) dX5_addFour_26 rfl ?_
        refine ct_i2b (q := 28) dX5_addFour_27 rfl ?_
        obtain ⟨M26, gM26, h⟩ := ob h
        refine ct_bast (q := 29) hB dX5_addFour_28 (pk_nb _) gM26 rfl ?_
        refine ct_aload_0 (q := 30) dX5_addFour_29 rfl ?_
        refine ct_dup (q := 31) dX5_addFour_30 rfl rfl ?_
        obtain ⟨x27, gx27, h⟩ := ob h
        refine ct_getI (q := 34) hB dX5_addFour_31 fl_RX5_15 rfl gx27 rfl ?_
        refine ct_iconst (v := 1) (q := 35) dX5_addFour_34 (by decide) rfl ?_
        refine ct_iadd (q := 36) dX5_addFour_35 rfl ?_
        obtain ⟨M28, gM28, h⟩ := ob h
        refine ct_putI (q := 39) hB dX5_addFour_36 fl_RX5_15 rfl rfl (Or.inl rfl) gM28 rfl ?_
        refine ct_iinc_2 (q := 42) (v := x2 + (-8)) dX5_addFour_39 (by first | rfl | decide) (by decide) rfl rfl ?_
        refine ct_goto (q := 3) dX5_addFour_42 (by decide) ?_
        exact ct_lessK (ih a0 x1 (x2 + (-8)) M28 r h) (And.intro rfl (And.intro rfl (And.intro rfl (trivial))))

def fX5_addFour (a0 : Nat) (x1 : Int32) (M : ctM) : Option (ctM) :=
  fX5_addFour_h3 4000 a0 x1 24 M

set_option maxHeartbeats 4000000 in
set_option maxRecDepth 20000 in
theorem ctX5_addFour {B : ctB} {n : Nat} (hB : ctOk B kdC lnC n) {a0 : Nat} {x1 : Int32} {M : ctM} {r : ctM} (h : fX5_addFour a0 x1 M = some r) : ctC B mX5_addFour (0, 0, 0) [.ref a0, .int x1] n M (poV r n) := by
  refine ctC_of (by decide) (Nat.le_of_ble_eq_true rfl) ?_
  show ctV B mX5_addFour (0, 0, 0) (poV r n) 0 [some (.ref a0), some (.int x1), none] [] (0, 0) n M
  unfold fX5_addFour at h
  refine ct_bipush (v := 24) (q := 2) dX5_addFour_0 (by decide) rfl ?_
  refine ct_istore_2 (q := 3) dX5_addFour_2 (by decide) rfl rfl ?_
  exact ct_lessK (vX5_addFour_h3 hB  4000 a0 x1 24 M r h) (And.intro rfl (And.intro rfl (And.intro rfl (trivial))))

def fX5_sortAt (a0 : Nat) (x1 : Int32) (M : ctM) : Option (Int32 × ctM) :=
  (gP kdC 5 0 a0 M).bind fun a21 =>
  (aI kdC lnC 8 a21 x1 M).bind fun x22 =>
  (fX6_isWithin (x22 &&& 255) 97 122 M).bind fun r23 =>
  if r23.1 = 0 then
    (fX6_isWithin (x22 &&& 255) 48 57 r23.2).bind fun r25 =>
    if r25.1 = 0 then
      some ((x22 &&& 255), r25.2)
    else
      some ((-3), r25.2)
  else
    some ((-2), r23.2)

set_option maxHeartbeats 4000000 in
set_option maxRecDepth 20000 in
theorem ctX5_sortAt {B : ctB} {n : Nat} (hB : ctOk B kdC lnC n) {a0 : Nat} {x1 : Int32} {M : ctM} {r : Int32 × ctM} (h : fX5_sortAt a0 x1 M = some r) : ctC B mX5_sortAt (1, 0, 0) [.ref a0, .int x1] n M (poI r n) := by
  refine ctC_of (by decide) (Nat.le_of_ble_eq_true rfl) ?_
  show ctV B mX5_sortAt (1, 0, 0) (poI r n) 0 [some (.ref a0), some (.int x1), none] [] (0, 0) n M
  unfold fX5_sortAt at h
  refine ct_aload_0 (q := 1) dX5_sortAt_0 rfl ?_
  obtain ⟨a21, ga21, h⟩ := ob h
  refine ct_getP (q := 4) hB dX5_sortAt_1 fl_RX5_9 rfl ga21 rfl ?_
  refine ct_iload_1 (q := 5) dX5_sortAt_4 rfl ?_
  obtain ⟨x22, gx22, h⟩ := ob h
  refine ct_bald (q := 6) hB dX5_sortAt_5 gx22 rfl ?_
  refine ct_sipush (v := 255) (q := 9) dX5_sortAt_6 (by decide) rfl ?_
  refine ct_iand (q := 10) dX5_sortAt_9 rfl ?_
  refine ct_istore_2 (q := 11) dX5_sortAt_10 (by decide) rfl rfl ?_
  refine ct_iload_2 (q := 12) dX5_sortAt_11 rfl ?_
  refine ct_bipush (v := 97) (q := 14) dX5_sortAt_12 (by decide) rfl ?_
  refine ct_bipush (v := 122) (q := 16) dX5_sortAt_14 (by decide) rfl ?_
  obtain ⟨r23, gr23, h⟩ := ob h
  refine ct_cSi3 (q := 19) dX5_sortAt_16 lk_RX5_60 (by decide) (ctX6_isWithin hB gr23) (Nat.le_of_ble_eq_true rfl) rfl ?_
  refine ct_if_eq (q := 22) (tgt := 25) dX5_sortAt_19 (by decide) rfl (fun z24 => ?_) (fun z24 => ?_)
  · replace h := it_t h z24
    refine ct_iload_2 (q := 26) dX5_sortAt_25 rfl ?_
    refine ct_bipush (v := 48) (q := 28) dX5_sortAt_26 (by decide) rfl ?_
    refine ct_bipush (v := 57) (q := 30) dX5_sortAt_28 (by decide) rfl ?_
    obtain ⟨r25, gr25, h⟩ := ob h
    refine ct_cSi3 (q := 33) dX5_sortAt_30 lk_RX5_60 (by decide) (ctX6_isWithin hB gr25) (Nat.le_of_ble_eq_true rfl) rfl ?_
    refine ct_if_eq (q := 36) (tgt := 41) dX5_sortAt_33 (by decide) rfl (fun z26 => ?_) (fun z26 => ?_)
    · replace h := it_t h z26
      refine ct_iload_2 (q := 42) dX5_sortAt_41 rfl ?_
      exact ct_iret dX5_sortAt_42 rfl ⟨Nat.le_refl 0, Nat.le_refl 0⟩ (poI_of h)
    · replace h := it_f h z26
      refine ct_bipush (v := -3) (q := 38) dX5_sortAt_36 (by decide) rfl ?_
      refine ct_goto (q := 42) dX5_sortAt_38 (by decide) ?_
      exact ct_iret dX5_sortAt_42 rfl ⟨Nat.le_refl 0, Nat.le_refl 0⟩ (poI_of h)
  · replace h := it_f h z24
    refine ct_bipush (v := -2) (q := 24) dX5_sortAt_22 (by decide) rfl ?_
    exact ct_iret dX5_sortAt_24 rfl ⟨Nat.le_refl 0, Nat.le_refl 0⟩ (poI_of h)

def fX5_advance_b196 (a0 : Nat) (x3 : Int32) (M : ctM) : Option (ctM) :=
  if x3 = 0 then
    (gI kdC 5 4 a0 M).bind fun x22 =>
    if x22 = (-1) then
      some M
    else
      (gI kdC 5 2 a0 M).bind fun x24 =>
      (pI kdC 5 3 a0 (x24 + 1) M).bind fun M25 =>
      some M25
  else
    some M

set_option maxHeartbeats 4000000 in
set_option maxRecDepth 20000 in
theorem vX5_advance_b196 {B : ctB} {n : Nat} (hB : ctOk B kdC lnC n) : ∀ (a0 : Nat) (x3 : Int32) (M : ctM) (r : ctM), fX5_advance_b196 a0 x3 M = some r → ctV B mX5_advance (2, 0, 0) (poV r n) 196 [some (.ref a0), none, none, some (.int x3)] [] (0, 0) n M := by
  intro a0 x3 M r h
  unfold fX5_advance_b196 at h
  refine ct_iload_3 (q := 197) dX5_advance_196 rfl ?_
  refine ct_if_ne (q := 200) (tgt := 218) dX5_advance_197 (by decide) rfl (fun z21 => ?_) (fun z21 => ?_)
  · replace h := it_f h z21
    exact ct_vret dX5_advance_218 rfl ⟨Nat.le_refl 0, Nat.le_refl 0⟩ (poV_of h)
  · replace h := it_t h z21
    refine ct_aload_0 (q := 201) dX5_advance_200 rfl ?_
    obtain ⟨x22, gx22, h⟩ := ob h
    refine ct_getI (q := 204) hB dX5_advance_201 fl_RX5_25 rfl gx22 rfl ?_
    refine ct_iconst (v := -1) (q := 205) dX5_advance_204 (by decide) rfl ?_
    refine ct_icmp_eq (q := 208) (tgt := 218) dX5_advance_205 (by decide) rfl (fun z23 => ?_) (fun z23 => ?_)
    · replace h := it_t h z23
      exact ct_vret dX5_advance_218 rfl ⟨Nat.le_refl 0, Nat.le_refl 0⟩ (poV_of h)
    · replace h := it_f h z23
      refine ct_aload_0 (q := 209) dX5_advance_208 rfl ?_
      refine ct_aload_0 (q := 210) dX5_advance_209 rfl ?_
      obtain ⟨x24, gx24, h⟩ := ob h
      refine ct_getI (q := 213) hB dX5_advance_210 fl_RX5_19 rfl gx24 rfl ?_
      refine ct_iconst (v := 1) (q := 214) dX5_advance_213 (by decide) rfl ?_
      refine ct_iadd (q := 215) dX5_advance_214 rfl ?_
      obtain ⟨M25, gM25, h⟩ := ob h
      refine ct_putI (q := 218) hB dX5_advance_215 fl_RX5_22 rfl rfl (Or.inl rfl) gM25 rfl ?_
      exact ct_vret dX5_advance_218 rfl ⟨Nat.le_refl 0, Nat.le_refl 0⟩ (poV_of h)

def fX5_advance_b174 (a0 : Nat) (x1 : Int32) (x2 : Int32) (x3 : Int32) (M : ctM) : Option (ctM) :=
  if x3 = 0 then
    fX5_advance_b196 a0 x3 M
  else
    if x1 = 0 then
      fX5_advance_b196 a0 x3 M
    else
      (gI kdC 5 2 a0 M).bind fun x23 =>
      if x23 = x2 then
        (pI kdC 5 4 a0 (-4) M).bind fun M25 =>
        fX5_advance_b196 a0 x3 M25
      else
        fX5_advance_b196 a0 x3 M

set_option maxHeartbeats 4000000 in
set_option maxRecDepth 20000 in
theorem vX5_advance_b174 {B : ctB} {n : Nat} (hB : ctOk B kdC lnC n) : ∀ (a0 : Nat) (x1 : Int32) (x2 : Int32) (x3 : Int32) (M : ctM) (r : ctM), fX5_advance_b174 a0 x1 x2 x3 M = some r → ctV B mX5_advance (2, 0, 0) (poV r n) 174 [some (.ref a0), some (.int x1), some (.int x2), some (.int x3)] [] (0, 0) n M := by
  intro a0 x1 x2 x3 M r h
  unfold fX5_advance_b174 at h
  refine ct_iload_3 (q := 175) dX5_advance_174 rfl ?_
  refine ct_if_eq (q := 178) (tgt := 196) dX5_advance_175 (by decide) rfl (fun z21 => ?_) (fun z21 => ?_)
  · replace h := it_t h z21
    exact ct_lessK (vX5_advance_b196 hB  a0 x3 M r h) (And.intro rfl (And.intro rfl (trivial)))
  · replace h := it_f h z21
    refine ct_iload_1 (q := 179) dX5_advance_178 rfl ?_
    refine ct_if_eq (q := 182) (tgt := 196) dX5_advance_179 (by decide) rfl (fun z22 => ?_) (fun z22 => ?_)
    · replace h := it_t h z22
      exact ct_lessK (vX5_advance_b196 hB  a0 x3 M r h) (And.intro rfl (And.intro rfl (trivial)))
    · replace h := it_f h z22
      refine ct_aload_0 (q := 183) dX5_advance_182 rfl ?_
      obtain ⟨x23, gx23, h⟩ := ob h
      refine ct_getI (q := 186) hB dX5_advance_183 fl_RX5_19 rfl gx23 rfl ?_
      refine ct_iload_2 (q := 187) dX5_advance_186 rfl ?_
      refine ct_icmp_ne (q := 190) (tgt := 196) dX5_advance_187 (by decide) rfl (fun z24 => ?_) (fun z24 => ?_)
      · replace h := it_f h z24
        exact ct_lessK (vX5_advance_b196 hB  a0 x3 M r h) (And.intro rfl (And.intro rfl (trivial)))
      · replace h := it_t h z24
        refine ct_aload_0 (q := 191) dX5_advance_190 rfl ?_
        refine ct_bipush (v := -4) (q := 193) dX5_advance_191 (by decide) rfl ?_
        obtain ⟨M25, gM25, h⟩ := ob h
        refine ct_putI (q := 196) hB dX5_advance_193 fl_RX5_25 rfl rfl (Or.inl rfl) gM25 rfl ?_
        exact ct_lessK (vX5_advance_b196 hB  a0 x3 M25 r h) (And.intro rfl (And.intro rfl (trivial)))

def fX5_advance_h131 : Nat → Nat → Int32 → Int32 → Int32 → ctM → Option (ctM)
  | 0, _, _, _, _, _ => none
  | N + 1, a0, x1, x2, x3, M =>
    if x3 = 0 then
      fX5_advance_b174 a0 x1 x2 x3 M
    else
      (gI kdC 5 3 a0 M).bind fun x22 =>
      (gI kdC 5 1 a0 M).bind fun x23 =>
      if x23 ≤ x22 then
        fX5_advance_b174 a0 x1 x2 x3 M
      else
        (gI kdC 5 3 a0 M).bind fun x25 =>
        (cV kdC 5 a0 (fX5_sortAt a0 x25 M)).bind fun r26 =>
        (gI kdC 5 4 a0 r26.2).bind fun x27 =>
        if r26.1 = x27 then
          (gI kdC 5 3 a0 r26.2).bind fun x29 =>
          (pI kdC 5 3 a0 (x29 + 1) r26.2).bind fun M30 =>
          fX5_advance_h131 N a0 x1 x2 x3 M30
        else
          fX5_advance_b174 a0 x1 x2 x3 r26.2

set_option maxHeartbeats 4000000 in
set_option maxRecDepth 20000 in
theorem vX5_advance_h131 {B : ctB} {n : Nat} (hB : ctOk B kdC lnC n) : ∀ (N : Nat) (a0 : Nat) (x1 : Int32) (x2 : Int32) (x3 : Int32) (M : ctM) (r : ctM), fX5_advance_h131 N a0 x1 x2 x3 M = some r → ctV B mX5_advance (2, 0, 0) (poV r n) 131 [some (.ref a0), some (.int x1), some (.int x2), some (.int x3)] [] (0, 0) n M := by
  intro N
  induction N with
  | zero => intro a0 x1 x2 x3 M r h; exact absurd h (by simp [fX5_advance_h131])
  | succ N ih =>
    intro a0 x1 x2 x3 M r h
    rw [fX5_advance_h131] at h
    refine ct_iload_3 (q := 132) dX5_advance_131 rfl ?_
    refine ct_if_eq (q := 135) (tgt := 174) dX5_advance_132 (by decide) rfl (fun z21 => ?_) (fun z21 => ?_)
    · replace h := it_t h z21
      exact ct_lessK (vX5_advance_b174 hB  a0 x1 x2 x3 M r h) (And.intro rfl (And.intro rfl (And.intro rfl (And.intro rfl (trivial)))))
    · replace h := it_f h z21
      refine ct_aload_0 (q := 136) dX5_advance_135 rfl ?_
      obtain ⟨x22, gx22, h⟩ := ob h
      refine ct_getI (q := 139) hB dX5_advance_136 fl_RX5_22 rfl gx22 rfl ?_
      refine ct_aload_0 (q := 140) dX5_advance_139 rfl ?_
      obtain ⟨x23, gx23, h⟩ := ob h
      refine ct_getI (q := 143) hB dX5_advance_140 fl_RX5_15 rfl gx23 rfl ?_
      refine ct_icmp_ge (q := 146) (tgt := 174) dX5_advance_143 (by decide) rfl (fun z24 => ?_) (fun z24 => ?_)
      · replace h := it_t h z24
        exact ct_lessK (vX5_advance_b174 hB  a0 x1 x2 x3 M r h) (And.intro rfl (And.intro rfl (And.intro rfl (And.intro rfl (trivial)))))
      · replace h := it_f h z24
        refine ct_aload_0 (q := 147) dX5_advance_146 rfl ?_
        refine ct_aload_0 (q := 148) dX5_advance_147 rfl ?_
        obtain ⟨x25, gx25, h⟩ := ob h
        refine ct_getI (q := 151) hB dX5_advance_148 fl_RX5_22 rfl gx25 rfl ?_
        obtain ⟨r26, gr26, h⟩ := ob h
        obtain ⟨er26, gr26⟩ := cV_spec gr26
        refine ct_cVi1 (q := 154) hB dX5_advance_151 lk_RX5_56 (by decide) (ctX5_sortAt hB gr26) er26 (by decide) rfl (Nat.le_of_ble_eq_true rfl) rfl ?_
        refine ct_aload_0 (q := 155) dX5_advance_154 rfl ?_
        obtain ⟨x27, gx27, h⟩ := ob h
        refine ct_getI (q := 158) hB dX5_advance_155 fl_RX5_25 rfl gx27 rfl ?_
        refine ct_icmp_ne (q := 161) (tgt := 174) dX5_advance_158 (by decide) rfl (fun z28 => ?_) (fun z28 => ?_)
        · replace h := it_f h z28
          exact ct_lessK (vX5_advance_b174 hB  a0 x1 x2 x3 r26.2 r h) (And.intro rfl (And.intro rfl (And.intro rfl (And.intro rfl (trivial)))))
        · replace h := it_t h z28
          refine ct_aload_0 (q := 162) dX5_advance_161 rfl ?_
          refine ct_dup (q := 163) dX5_advance_162 rfl rfl ?_
          obtain ⟨x29, gx29, h⟩ := ob h
          refine ct_getI (q := 166) hB dX5_advance_163 fl_RX5_22 rfl gx29 rfl ?_
          refine ct_iconst (v := 1) (q := 167) dX5_advance_166 (by decide) rfl ?_
          refine ct_iadd (q := 168) dX5_advance_167 rfl ?_
          obtain ⟨M30, gM30, h⟩ := ob h
          refine ct_putI (q := 171) hB dX5_advance_168 fl_RX5_22 rfl rfl (Or.inl rfl) gM30 rfl ?_
          refine ct_goto (q := 131) dX5_advance_171 (by decide) ?_
          exact ct_lessK (ih a0 x1 x2 x3 M30 r h) (And.intro rfl (And.intro rfl (And.intro rfl (And.intro rfl (trivial)))))

def fX5_advance_b130 (a0 : Nat) (x1 : Int32) (x2 : Int32) (xs0 : Int32) (M : ctM) : Option (ctM) :=
  fX5_advance_h131 4000 a0 x1 x2 xs0 M

set_option maxHeartbeats 4000000 in
set_option maxRecDepth 20000 in
theorem vX5_advance_b130 {B : ctB} {n : Nat} (hB : ctOk B kdC lnC n) : ∀ (a0 : Nat) (x1 : Int32) (x2 : Int32) (xs0 : Int32) (M : ctM) (r : ctM), fX5_advance_b130 a0 x1 x2 xs0 M = some r → ctV B mX5_advance (2, 0, 0) (poV r n) 130 [some (.ref a0), some (.int x1), some (.int x2), none] [.int xs0] (0, 0) n M := by
  intro a0 x1 x2 xs0 M r h
  unfold fX5_advance_b130 at h
  refine ct_istore_3 (q := 131) dX5_advance_130 (by decide) rfl rfl ?_
  exact ct_lessK (vX5_advance_h131 hB  4000 a0 x1 x2 xs0 M r h) (And.intro rfl (And.intro rfl (And.intro rfl (And.intro rfl (trivial)))))

def fX5_advance_b125 (a0 : Nat) (x1 : Int32) (x2 : Int32) (M : ctM) : Option (ctM) :=
  fX5_advance_b130 a0 x1 x2 1 M

set_option maxHeartbeats 4000000 in
set_option maxRecDepth 20000 in
theorem vX5_advance_b125 {B : ctB} {n : Nat} (hB : ctOk B kdC lnC n) : ∀ (a0 : Nat) (x1 : Int32) (x2 : Int32) (M : ctM) (r : ctM), fX5_advance_b125 a0 x1 x2 M = some r → ctV B mX5_advance (2, 0, 0) (poV r n) 125 [some (.ref a0), some (.int x1), some (.int x2), none] [] (0, 0) n M := by
  intro a0 x1 x2 M r h
  unfold fX5_advance_b125 at h
  refine ct_iconst (v := 1) (q := 126) dX5_advance_125 (by decide) rfl ?_
  refine ct_goto (q := 130) dX5_advance_126 (by decide) ?_
  exact ct_lessK (vX5_advance_b130 hB  a0 x1 x2 1 M r h) (And.intro rfl (And.intro rfl (And.intro rfl (trivial))))

def fX5_advance_b104 (a0 : Nat) (x1 : Int32) (x2 : Int32) (as0 : Nat) (xs1 : Int32) (M : ctM) : Option (ctM) :=
  (pI kdC 5 4 as0 xs1 M).bind fun M21 =>
  (gI kdC 5 4 a0 M21).bind fun x22 =>
  if x22 = (-2) then
    fX5_advance_b125 a0 x1 x2 M21
  else
    (gI kdC 5 4 a0 M21).bind fun x24 =>
    if x24 = (-3) then
      fX5_advance_b125 a0 x1 x2 M21
    else
      fX5_advance_b130 a0 x1 x2 0 M21

set_option maxHeartbeats 4000000 in
set_option maxRecDepth 20000 in
theorem vX5_advance_b104 {B : ctB} {n : Nat} (hB : ctOk B kdC lnC n) : ∀ (a0 : Nat) (x1 : Int32) (x2 : Int32) (as0 : Nat) (xs1 : Int32) (M : ctM) (r : ctM), fX5_advance_b104 a0 x1 x2 as0 xs1 M = some r → ctV B mX5_advance (2, 0, 0) (poV r n) 104 [some (.ref a0), some (.int x1), some (.int x2), none] [.int xs1, .ref as0] (0, 0) n M := by
  intro a0 x1 x2 as0 xs1 M r h
  unfold fX5_advance_b104 at h
  obtain ⟨M21, gM21, h⟩ := ob h
  refine ct_putI (q := 107) hB dX5_advance_104 fl_RX5_25 rfl rfl (Or.inl rfl) gM21 rfl ?_
  refine ct_aload_0 (q := 108) dX5_advance_107 rfl ?_
  obtain ⟨x22, gx22, h⟩ := ob h
  refine ct_getI (q := 111) hB dX5_advance_108 fl_RX5_25 rfl gx22 rfl ?_
  refine ct_bipush (v := -2) (q := 113) dX5_advance_111 (by decide) rfl ?_
  refine ct_icmp_eq (q := 116) (tgt := 125) dX5_advance_113 (by decide) rfl (fun z23 => ?_) (fun z23 => ?_)
  · replace h := it_t h z23
    exact ct_lessK (vX5_advance_b125 hB  a0 x1 x2 M21 r h) (And.intro rfl (And.intro rfl (And.intro rfl (trivial))))
  · replace h := it_f h z23
    refine ct_aload_0 (q := 117) dX5_advance_116 rfl ?_
    obtain ⟨x24, gx24, h⟩ := ob h
    refine ct_getI (q := 120) hB dX5_advance_117 fl_RX5_25 rfl gx24 rfl ?_
    refine ct_bipush (v := -3) (q := 122) dX5_advance_120 (by decide) rfl ?_
    refine ct_icmp_ne (q := 125) (tgt := 129) dX5_advance_122 (by decide) rfl (fun z25 => ?_) (fun z25 => ?_)
    · replace h := it_f h z25
      refine ct_iconst (v := 0) (q := 130) dX5_advance_129 (by decide) rfl ?_
      exact ct_lessK (vX5_advance_b130 hB  a0 x1 x2 0 M21 r h) (And.intro rfl (And.intro rfl (And.intro rfl (trivial))))
    · replace h := it_t h z25
      exact ct_lessK (vX5_advance_b125 hB  a0 x1 x2 M21 r h) (And.intro rfl (And.intro rfl (And.intro rfl (trivial))))

def fX5_advance_b72 (a0 : Nat) (x1 : Int32) (x2 : Int32) (M : ctM) : Option (ctM) :=
  (gI kdC 5 2 a0 M).bind fun x21 =>
  (pI kdC 5 3 a0 x21 M).bind fun M22 =>
  (gI kdC 5 2 a0 M22).bind fun x23 =>
  (gI kdC 5 1 a0 M22).bind fun x24 =>
  if x24 ≤ x23 then
    fX5_advance_b104 a0 x1 x2 a0 (-1) M22
  else
    (gI kdC 5 2 a0 M22).bind fun x26 =>
    (cV kdC 5 a0 (fX5_sortAt a0 x26 M22)).bind fun r27 =>
    fX5_advance_b104 a0 x1 x2 a0 r27.1 r27.2

set_option maxHeartbeats 4000000 in
set_option maxRecDepth 20000 in
theorem vX5_advance_b72 {B : ctB} {n : Nat} (hB : ctOk B kdC lnC n) : ∀ (a0 : Nat) (x1 : Int32) (x2 : Int32) (M : ctM) (r : ctM), fX5_advance_b72 a0 x1 x2 M = some r → ctV B mX5_advance (2, 0, 0) (poV r n) 72 [some (.ref a0), some (.int x1), some (.int x2), none] [] (0, 0) n M := by
  intro a0 x1 x2 M r h
  unfold fX5_advance_b72 at h
  refine ct_aload_0 (q := 73) dX5_advance_72 rfl ?_
  refine ct_aload_0 (q := 74) dX5_advance_73 rfl ?_
  obtain ⟨x21, gx21, h⟩ := ob h
  refine ct_getI (q := 77) hB dX5_advance_74 fl_RX5_19 rfl gx21 rfl ?_
  obtain ⟨M22, gM22, h⟩ := ob h
  refine ct_putI (q := 80) hB dX5_advance_77 fl_RX5_22 rfl rfl (Or.inl rfl) gM22 rfl ?_
  refine ct_aload_0 (q := 81) dX5_advance_80 rfl ?_
  refine ct_aload_0 (q := 82) dX5_advance_81 rfl ?_
  obtain ⟨x23, gx23, h⟩ := ob h
  refine ct_getI (q := 85) hB dX5_advance_82 fl_RX5_19 rfl gx23 rfl ?_
  refine ct_aload_0 (q := 86) dX5_advance_85 rfl ?_
  obtain ⟨x24, gx24, h⟩ := ob h
  refine ct_getI (q := 89) hB dX5_advance_86 fl_RX5_15 rfl gx24 rfl ?_
  refine ct_icmp_ge (q := 92) (tgt := 103) dX5_advance_89 (by decide) rfl (fun z25 => ?_) (fun z25 => ?_)
  · replace h := it_t h z25
    refine ct_iconst (v := -1) (q := 104) dX5_advance_103 (by decide) rfl ?_
    exact ct_lessK (vX5_advance_b104 hB  a0 x1 x2 a0 (-1) M22 r h) (And.intro rfl (And.intro rfl (And.intro rfl (trivial))))
  · replace h := it_f h z25
    refine ct_aload_0 (q := 93) dX5_advance_92 rfl ?_
    refine ct_aload_0 (q := 94) dX5_advance_93 rfl ?_
    obtain ⟨x26, gx26, h⟩ := ob h
    refine ct_getI (q := 97) hB dX5_advance_94 fl_RX5_19 rfl gx26 rfl ?_
    obtain ⟨r27, gr27, h⟩ := ob h
    obtain ⟨er27, gr27⟩ := cV_spec gr27
    refine ct_cVi1 (q := 100) hB dX5_advance_97 lk_RX5_56 (by decide) (ctX5_sortAt hB gr27) er27 (by decide) rfl (Nat.le_of_ble_eq_true rfl) rfl ?_
    refine ct_goto (q := 104) dX5_advance_100 (by decide) ?_
    exact ct_lessK (vX5_advance_b104 hB  a0 x1 x2 a0 r27.1 r27.2 r h) (And.intro rfl (And.intro rfl (And.intro rfl (trivial))))

def fX5_advance_h34 : Nat → Nat → Int32 → Int32 → ctM → Option (ctM)
  | 0, _, _, _, _ => none
  | N + 1, a0, x1, x2, M =>
    (gI kdC 5 2 a0 M).bind fun x21 =>
    (gI kdC 5 1 a0 M).bind fun x22 =>
    if x22 ≤ x21 then
      fX5_advance_b72 a0 x1 x2 M
    else
      (gP kdC 5 0 a0 M).bind fun a24 =>
      (gI kdC 5 2 a0 M).bind fun x25 =>
      (aI kdC lnC 8 a24 x25 M).bind fun x26 =>
      if x26 = 32 then
        (gI kdC 5 2 a0 M).bind fun x28 =>
        (pI kdC 5 2 a0 (x28 + 1) M).bind fun M29 =>
        fX5_advance_h34 N a0 x1 x2 M29
      else
        fX5_advance_b72 a0 x1 x2 M

set_option maxHeartbeats 4000000 in
set_option maxRecDepth 20000 in
theorem vX5_advance_h34 {B : ctB} {n : Nat} (hB : ctOk B kdC lnC n) : ∀ (N : Nat) (a0 : Nat) (x1 : Int32) (x2 : Int32) (M : ctM) (r : ctM), fX5_advance_h34 N a0 x1 x2 M = some r → ctV B mX5_advance (2, 0, 0) (poV r n) 34 [some (.ref a0), some (.int x1), some (.int x2), none] [] (0, 0) n M := by
  intro N
  induction N with
  | zero => intro a0 x1 x2 M r h; exact absurd h (by simp [fX5_advance_h34])
  | succ N ih =>
    intro a0 x1 x2 M r h
    rw [fX5_advance_h34] at h
    refine ct_aload_0 (q := 35) dX5_advance_34 rfl ?_
    obtain ⟨x21, gx21, h⟩ := ob h
    refine ct_getI (q := 38) hB dX5_advance_35 fl_RX5_19 rfl gx21 rfl ?_
    refine ct_aload_0 (q := 39) dX5_advance_38 rfl ?_
    obtain ⟨x22, gx22, h⟩ := ob h
    refine ct_getI (q := 42) hB dX5_advance_39 fl_RX5_15 rfl gx22 rfl ?_
    refine ct_icmp_ge (q := 45) (tgt := 72) dX5_advance_42 (by decide) rfl (fun z23 => ?_) (fun z23 => ?_)
    · replace h := it_t h z23
      exact ct_lessK (vX5_advance_b72 hB  a0 x1 x2 M r h) (And.intro rfl (And.intro rfl (And.intro rfl (trivial))))
    · replace h := it_f h z23
      refine ct_aload_0 (q := 46) dX5_advance_45 rfl ?_
      obtain ⟨a24, ga24, h⟩ := ob h
      refine ct_getP (q := 49) hB dX5_advance_46 fl_RX5_9 rfl ga24 rfl ?_
      refine ct_aload_0 (q := 50) dX5_advance_49 rfl ?_
      obtain ⟨x25, gx25, h⟩ := ob h
      refine ct_getI (q := 53) hB dX5_advance_50 fl_RX5_19 rfl gx25 rfl ?_
      obtain ⟨x26, gx26, h⟩ := ob h
      refine ct_bald (q := 54) hB dX5_advance_53 gx26 rfl ?_
      refine ct_bipush (v := 32) (q := 56) dX5_advance_54 (by decide) rfl ?_
      refine ct_icmp_ne (q := 59) (tgt := 72) dX5_advance_56 (by decide) rfl (fun z27 => ?_) (fun z27 => ?_)
      · replace h := it_f h z27
        exact ct_lessK (vX5_advance_b72 hB  a0 x1 x2 M r h) (And.intro rfl (And.intro rfl (And.intro rfl (trivial))))
      · replace h := it_t h z27
        refine ct_aload_0 (q := 60) dX5_advance_59 rfl ?_
        refine ct_dup (q := 61) dX5_advance_60 rfl rfl ?_
        obtain ⟨x28, gx28, h⟩ := ob h
        refine ct_getI (q := 64) hB dX5_advance_61 fl_RX5_19 rfl gx28 rfl ?_
        refine ct_iconst (v := 1) (q := 65) dX5_advance_64 (by decide) rfl ?_
        refine ct_iadd (q := 66) dX5_advance_65 rfl ?_
        obtain ⟨M29, gM29, h⟩ := ob h
        refine ct_putI (q := 69) hB dX5_advance_66 fl_RX5_19 rfl rfl (Or.inl rfl) gM29 rfl ?_
        refine ct_goto (q := 34) dX5_advance_69 (by decide) ?_
        exact ct_lessK (ih a0 x1 x2 M29 r h) (And.intro rfl (And.intro rfl (And.intro rfl (trivial))))

def fX5_advance_b23 (a0 : Nat) (xs0 : Int32) (M : ctM) : Option (ctM) :=
  (gI kdC 5 3 a0 M).bind fun x21 =>
  (pI kdC 5 2 a0 x21 M).bind fun M22 =>
  fX5_advance_h34 4000 a0 xs0 x21 M22

set_option maxHeartbeats 4000000 in
set_option maxRecDepth 20000 in
theorem vX5_advance_b23 {B : ctB} {n : Nat} (hB : ctOk B kdC lnC n) : ∀ (a0 : Nat) (xs0 : Int32) (M : ctM) (r : ctM), fX5_advance_b23 a0 xs0 M = some r → ctV B mX5_advance (2, 0, 0) (poV r n) 23 [some (.ref a0), none, none, none] [.int xs0] (0, 0) n M := by
  intro a0 xs0 M r h
  unfold fX5_advance_b23 at h
  refine ct_istore_1 (q := 24) dX5_advance_23 (by decide) rfl rfl ?_
  refine ct_aload_0 (q := 25) dX5_advance_24 rfl ?_
  obtain ⟨x21, gx21, h⟩ := ob h
  refine ct_getI (q := 28) hB dX5_advance_25 fl_RX5_22 rfl gx21 rfl ?_
  refine ct_istore_2 (q := 29) dX5_advance_28 (by decide) rfl rfl ?_
  refine ct_aload_0 (q := 30) dX5_advance_29 rfl ?_
  refine ct_iload_2 (q := 31) dX5_advance_30 rfl ?_
  obtain ⟨M22, gM22, h⟩ := ob h
  refine ct_putI (q := 34) hB dX5_advance_31 fl_RX5_19 rfl rfl (Or.inl rfl) gM22 rfl ?_
  exact ct_lessK (vX5_advance_h34 hB  4000 a0 xs0 x21 M22 r h) (And.intro rfl (And.intro rfl (And.intro rfl (trivial))))

def fX5_advance_b18 (a0 : Nat) (M : ctM) : Option (ctM) :=
  fX5_advance_b23 a0 1 M

set_option maxHeartbeats 4000000 in
set_option maxRecDepth 20000 in
theorem vX5_advance_b18 {B : ctB} {n : Nat} (hB : ctOk B kdC lnC n) : ∀ (a0 : Nat) (M : ctM) (r : ctM), fX5_advance_b18 a0 M = some r → ctV B mX5_advance (2, 0, 0) (poV r n) 18 [some (.ref a0), none, none, none] [] (0, 0) n M := by
  intro a0 M r h
  unfold fX5_advance_b18 at h
  refine ct_iconst (v := 1) (q := 19) dX5_advance_18 (by decide) rfl ?_
  refine ct_goto (q := 23) dX5_advance_19 (by decide) ?_
  exact ct_lessK (vX5_advance_b23 hB  a0 1 M r h) (And.intro rfl (trivial))

def fX5_advance (a0 : Nat) (M : ctM) : Option (ctM) :=
  (gI kdC 5 4 a0 M).bind fun x21 =>
  if x21 = (-2) then
    fX5_advance_b18 a0 M
  else
    (gI kdC 5 4 a0 M).bind fun x23 =>
    if x23 = (-3) then
      fX5_advance_b18 a0 M
    else
      fX5_advance_b23 a0 0 M

set_option maxHeartbeats 4000000 in
set_option maxRecDepth 20000 in
theorem ctX5_advance {B : ctB} {n : Nat} (hB : ctOk B kdC lnC n) {a0 : Nat} {M : ctM} {r : ctM} (h : fX5_advance a0 M = some r) : ctC B mX5_advance (2, 0, 0) [.ref a0] n M (poV r n) := by
  refine ctC_of (by decide) (Nat.le_of_ble_eq_true rfl) ?_
  show ctV B mX5_advance (2, 0, 0) (poV r n) 0 [some (.ref a0), none, none, none] [] (0, 0) n M
  unfold fX5_advance at h
  refine ct_aload_0 (q := 1) dX5_advance_0 rfl ?_
  obtain ⟨x21, gx21, h⟩ := ob h
  refine ct_getI (q := 4) hB dX5_advance_1 fl_RX5_25 rfl gx21 rfl ?_
  refine ct_bipush (v := -2) (q := 6) dX5_advance_4 (by decide) rfl ?_
  refine ct_icmp_eq (q := 9) (tgt := 18) dX5_advance_6 (by decide) rfl (fun z22 => ?_) (fun z22 => ?_)
  · replace h := it_t h z22
    exact ct_lessK (vX5_advance_b18 hB  a0 M r h) (And.intro rfl (trivial))
  · replace h := it_f h z22
    refine ct_aload_0 (q := 10) dX5_advance_9 rfl ?_
    obtain ⟨x23, gx23, h⟩ := ob h
    refine ct_getI (q := 13) hB dX5_advance_10 fl_RX5_25 rfl gx23 rfl ?_
    refine ct_bipush (v := -3) (q := 15) dX5_advance_13 (by decide) rfl ?_
    refine ct_icmp_ne (q := 18) (tgt := 22) dX5_advance_15 (by decide) rfl (fun z24 => ?_) (fun z24 => ?_)
    · replace h := it_f h z24
      refine ct_iconst (v := 0) (q := 23) dX5_advance_22 (by decide) rfl ?_
      exact ct_lessK (vX5_advance_b23 hB  a0 0 M r h) (And.intro rfl (trivial))
    · replace h := it_t h z24
      exact ct_lessK (vX5_advance_b18 hB  a0 M r h) (And.intro rfl (trivial))

def fX5_levelOf (x0 : Int32) (M : ctM) : Option (Int32 × ctM) :=
  if x0 = 38 then
    some (1, M)
  else
  if x0 = 42 then
    some (4, M)
  else
  if x0 = 43 then
    some (3, M)
  else
  if x0 = 45 then
    some (3, M)
  else
  if x0 = 47 then
    some (4, M)
  else
  if x0 = 60 then
    some (2, M)
  else
  if x0 = 61 then
    some (2, M)
  else
  if x0 = 62 then
    some (2, M)
  else
  if x0 = 124 then
    some (0, M)
  else
    some ((-1), M)

set_option maxHeartbeats 4000000 in
set_option maxRecDepth 20000 in
theorem ctX5_levelOf {B : ctB} {n : Nat} (hB : ctOk B kdC lnC n) {x0 : Int32} {M : ctM} {r : Int32 × ctM} (h : fX5_levelOf x0 M = some r) : ctC B mX5_levelOf (0, 0, 0) [.int x0] n M (poI r n) := by
  refine ctC_of (by decide) (Nat.le_of_ble_eq_true rfl) ?_
  show ctV B mX5_levelOf (0, 0, 0) (poI r n) 0 [some (.int x0)] [] (0, 0) n M
  unfold fX5_levelOf at h
  refine ct_iload_0 (q := 1) dX5_levelOf_0 rfl ?_
  by_cases z21 : x0 = 38
  · replace h := it_t h z21
    refine ct_lsw (q := 86) (off := 85) dX5_levelOf_1 (by decide) (by rw [z21] <;> rfl) (by decide) ?_
    refine ct_iconst (v := 1) (q := 87) dX5_levelOf_86 (by decide) rfl ?_
    exact ct_iret dX5_levelOf_87 rfl ⟨Nat.le_refl 0, Nat.le_refl 0⟩ (poI_of h)
  replace h := it_f h z21
  by_cases z22 : x0 = 42
  · replace h := it_t h z22
    refine ct_lsw (q := 92) (off := 91) dX5_levelOf_1 (by decide) (by rw [z22] <;> rfl) (by decide) ?_
    refine ct_iconst (v := 4) (q := 93) dX5_levelOf_92 (by decide) rfl ?_
    exact ct_iret dX5_levelOf_93 rfl ⟨Nat.le_refl 0, Nat.le_refl 0⟩ (poI_of h)
  replace h := it_f h z22
  by_cases z23 : x0 = 43
  · replace h := it_t h z23
    refine ct_lsw (q := 90) (off := 89) dX5_levelOf_1 (by decide) (by rw [z23] <;> rfl) (by decide) ?_
    refine ct_iconst (v := 3) (q := 91) dX5_levelOf_90 (by decide) rfl ?_
    exact ct_iret dX5_levelOf_91 rfl ⟨Nat.le_refl 0, Nat.le_refl 0⟩ (poI_of h)
  replace h := it_f h z23
  by_cases z24 : x0 = 45
  · replace h := it_t h z24
    refine ct_lsw (q := 90) (off := 89) dX5_levelOf_1 (by decide) (by rw [z24] <;> rfl) (by decide) ?_
    refine ct_iconst (v := 3) (q := 91) dX5_levelOf_90 (by decide) rfl ?_
    exact ct_iret dX5_levelOf_91 rfl ⟨Nat.le_refl 0, Nat.le_refl 0⟩ (poI_of h)
  replace h := it_f h z24
  by_cases z25 : x0 = 47
  · replace h := it_t h z25
    refine ct_lsw (q := 92) (off := 91) dX5_levelOf_1 (by decide) (by rw [z25] <;> rfl) (by decide) ?_
    refine ct_iconst (v := 4) (q := 93) dX5_levelOf_92 (by decide) rfl ?_
    exact ct_iret dX5_levelOf_93 rfl ⟨Nat.le_refl 0, Nat.le_refl 0⟩ (poI_of h)
  replace h := it_f h z25
  by_cases z26 : x0 = 60
  · replace h := it_t h z26
    refine ct_lsw (q := 88) (off := 87) dX5_levelOf_1 (by decide) (by rw [z26] <;> rfl) (by decide) ?_
    refine ct_iconst (v := 2) (q := 89) dX5_levelOf_88 (by decide) rfl ?_
    exact ct_iret dX5_levelOf_89 rfl ⟨Nat.le_refl 0, Nat.le_refl 0⟩ (poI_of h)
  replace h := it_f h z26
  by_cases z27 : x0 = 61
  · replace h := it_t h z27
    refine ct_lsw (q := 88) (off := 87) dX5_levelOf_1 (by decide) (by rw [z27] <;> rfl) (by decide) ?_
    refine ct_iconst (v := 2) (q := 89) dX5_levelOf_88 (by decide) rfl ?_
    exact ct_iret dX5_levelOf_89 rfl ⟨Nat.le_refl 0, Nat.le_refl 0⟩ (poI_of h)
  replace h := it_f h z27
  by_cases z28 : x0 = 62
  · replace h := it_t h z28
    refine ct_lsw (q := 88) (off := 87) dX5_levelOf_1 (by decide) (by rw [z28] <;> rfl) (by decide) ?_
    refine ct_iconst (v := 2) (q := 89) dX5_levelOf_88 (by decide) rfl ?_
    exact ct_iret dX5_levelOf_89 rfl ⟨Nat.le_refl 0, Nat.le_refl 0⟩ (poI_of h)
  replace h := it_f h z28
  by_cases z29 : x0 = 124
  · replace h := it_t h z29
    refine ct_lsw (q := 84) (off := 83) dX5_levelOf_1 (by decide) (by rw [z29] <;> rfl) (by decide) ?_
    refine ct_iconst (v := 0) (q := 85) dX5_levelOf_84 (by decide) rfl ?_
    exact ct_iret dX5_levelOf_85 rfl ⟨Nat.le_refl 0, Nat.le_refl 0⟩ (poI_of h)
  replace h := it_f h z29
  refine ct_lsw (q := 94) (off := 93) dX5_levelOf_1 (by decide) (by show Op.lookupswitch.offset [(38, 85), (42, 91), (43, 89), (45, 89), (47, 91), (60, 87), (61, 87), (62, 87), (124, 83)] 93 _ = _; rw [lv_osw z21 (show Int32.toInt (38) = 38 by decide), lv_osw z22 (show Int32.toInt (42) = 42 by decide), lv_osw z23 (show Int32.toInt (43) = 43 by decide), lv_osw z24 (show Int32.toInt (45) = 45 by decide), lv_osw z25 (show Int32.toInt (47) = 47 by decide), lv_osw z26 (show Int32.toInt (60) = 60 by decide), lv_osw z27 (show Int32.toInt (61) = 61 by decide), lv_osw z28 (show Int32.toInt (62) = 62 by decide), lv_osw z29 (show Int32.toInt (124) = 124 by decide)]; rfl) (by decide) ?_
  refine ct_iconst (v := -1) (q := 95) dX5_levelOf_94 (by decide) rfl ?_
  exact ct_iret dX5_levelOf_95 rfl ⟨Nat.le_refl 0, Nat.le_refl 0⟩ (poI_of h)

def fX5_fail (a0 : Nat) (M : ctM) : Option (Int32 × ctM) :=
  (gI kdC 5 2 a0 M).bind fun x21 =>
  (pI kdC 5 5 a0 x21 M).bind fun M22 =>
  some ((-1), M22)

set_option maxHeartbeats 4000000 in
set_option maxRecDepth 20000 in
theorem ctX5_fail {B : ctB} {n : Nat} (hB : ctOk B kdC lnC n) {a0 : Nat} {M : ctM} {r : Int32 × ctM} (h : fX5_fail a0 M = some r) : ctC B mX5_fail (0, 0, 0) [.ref a0] n M (poI r n) := by
  refine ctC_of (by decide) (Nat.le_of_ble_eq_true rfl) ?_
  show ctV B mX5_fail (0, 0, 0) (poI r n) 0 [some (.ref a0)] [] (0, 0) n M
  unfold fX5_fail at h
  refine ct_aload_0 (q := 1) dX5_fail_0 rfl ?_
  refine ct_aload_0 (q := 2) dX5_fail_1 rfl ?_
  obtain ⟨x21, gx21, h⟩ := ob h
  refine ct_getI (q := 5) hB dX5_fail_2 fl_RX5_19 rfl gx21 rfl ?_
  obtain ⟨M22, gM22, h⟩ := ob h
  refine ct_putI (q := 8) hB dX5_fail_5 fl_RX5_28 rfl rfl (Or.inl rfl) gM22 rfl ?_
  refine ct_iconst (v := -1) (q := 9) dX5_fail_8 (by decide) rfl ?_
  exact ct_iret dX5_fail_9 rfl ⟨Nat.le_refl 0, Nat.le_refl 0⟩ (poI_of h)

def fX5_name_b70 (a0 : Nat) (M : ctM) : Option (Int32 × ctM) :=
  (cV kdC 5 a0 (fX5_fail a0 M)).bind fun r21 =>
  some (r21.1, r21.2)

set_option maxHeartbeats 4000000 in
set_option maxRecDepth 20000 in
theorem vX5_name_b70 {B : ctB} {n : Nat} (hB : ctOk B kdC lnC n) : ∀ (a0 : Nat) (M : ctM) (r : Int32 × ctM), fX5_name_b70 a0 M = some r → ctV B mX5_name (5, 0, 0) (poI r n) 70 [some (.ref a0), none, none] [] (0, 0) n M := by
  intro a0 M r h
  unfold fX5_name_b70 at h
  refine ct_aload_0 (q := 71) dX5_name_70 rfl ?_
  obtain ⟨r21, gr21, h⟩ := ob h
  obtain ⟨er21, gr21⟩ := cV_spec gr21
  refine ct_cVi0 (q := 74) hB dX5_name_71 lk_RX5_53 (by decide) (ctX5_fail hB gr21) er21 (by decide) rfl (Nat.le_of_ble_eq_true rfl) rfl ?_
  exact ct_iret dX5_name_74 rfl ⟨Nat.le_refl 0, Nat.le_refl 0⟩ (poI_of h)

def fX5_name_h12 : Nat → Nat → Int32 → Int32 → ctM → Option (Int32 × ctM)
  | 0, _, _, _, _ => none
  | N + 1, a0, x1, x2, M =>
    if 3 ≤ x2 then
      fX5_name_b70 a0 M
    else
      (gI kdC 5 3 a0 M).bind fun x22 =>
      (gI kdC 5 2 a0 M).bind fun x23 =>
      if (x22 - x23) = 1 then
        (gP kdC 5 6 a0 M).bind fun a25 =>
        (gI kdC 1 0 a25 M).bind fun x26 =>
        (chA 1 ((3 * x26) + x2)).bind fun x27 =>
        if x27 = x1 then
          (cV kdC 5 a0 (fX5_advance a0 M)).bind fun r29 =>
          (gP kdC 5 6 a0 r29).bind fun a30 =>
          (cV kdC 1 a30 (fX1_addLeaf a30 1 x2 r29)).bind fun r31 =>
          some (r31.1, r31.2)
        else
          fX5_name_h12 N a0 x1 (x2 + 1) M
      else
        fX5_name_b70 a0 M

set_option maxHeartbeats 4000000 in
set_option maxRecDepth 20000 in
theorem vX5_name_h12 {B : ctB} {n : Nat} (hB : ctOk B kdC lnC n) : ∀ (N : Nat) (a0 : Nat) (x1 : Int32) (x2 : Int32) (M : ctM) (r : Int32 × ctM), fX5_name_h12 N a0 x1 x2 M = some r → ctV B mX5_name (5, 0, 0) (poI r n) 12 [some (.ref a0), some (.int x1), some (.int x2)] [] (0, 0) n M := by
  intro N
  induction N with
  | zero => intro a0 x1 x2 M r h; exact absurd h (by simp [fX5_name_h12])
  | succ N ih =>
    intro a0 x1 x2 M r h
    rw [fX5_name_h12] at h
    refine ct_iload_2 (q := 13) dX5_name_12 rfl ?_
    refine ct_iconst (v := 3) (q := 14) dX5_name_13 (by decide) rfl ?_
    refine ct_icmp_ge (q := 17) (tgt := 70) dX5_name_14 (by decide) rfl (fun z21 => ?_) (fun z21 => ?_)
    · replace h := it_t h z21
      exact ct_lessK (vX5_name_b70 hB  a0 M r h) (And.intro rfl (trivial))
    · replace h := it_f h z21
      refine ct_aload_0 (q := 18) dX5_name_17 rfl ?_
      obtain ⟨x22, gx22, h⟩ := ob h
      refine ct_getI (q := 21) hB dX5_name_18 fl_RX5_22 rfl gx22 rfl ?_
      refine ct_aload_0 (q := 22) dX5_name_21 rfl ?_
      obtain ⟨x23, gx23, h⟩ := ob h
      refine ct_getI (q := 25) hB dX5_name_22 fl_RX5_19 rfl gx23 rfl ?_
      refine ct_isub (q := 26) dX5_name_25 rfl ?_
      refine ct_iconst (v := 1) (q := 27) dX5_name_26 (by decide) rfl ?_
      refine ct_icmp_ne (q := 30) (tgt := 70) dX5_name_27 (by decide) rfl (fun z24 => ?_) (fun z24 => ?_)
      · replace h := it_f h z24
        exact ct_lessK (vX5_name_b70 hB  a0 M r h) (And.intro rfl (trivial))
      · replace h := it_t h z24
        refine ct_ldcS (q := 32) (i := 1) (by decide) rfl dX5_name_30 rfl ?_
        refine ct_iconst (v := 3) (q := 33) dX5_name_32 (by decide) rfl ?_
        refine ct_aload_0 (q := 34) dX5_name_33 rfl ?_
        obtain ⟨a25, ga25, h⟩ := ob h
        refine ct_getP (q := 37) hB dX5_name_34 fl_RX5_34 rfl ga25 rfl ?_
        obtain ⟨x26, gx26, h⟩ := ob h
        refine ct_getI (q := 40) hB dX5_name_37 fl_RX5_96 rfl gx26 rfl ?_
        refine ct_imul (q := 41) dX5_name_40 rfl ?_
        refine ct_iload_2 (q := 42) dX5_name_41 rfl ?_
        refine ct_iadd (q := 43) dX5_name_42 rfl ?_
        obtain ⟨x27, gx27, h⟩ := ob h
        refine ct_charAt (q := 46) (by decide) dX5_name_43 lk_RX5_66 (by decide) (Nat.le_of_ble_eq_true rfl) gx27 rfl ?_
        refine ct_iload_1 (q := 47) dX5_name_46 rfl ?_
        refine ct_icmp_ne (q := 50) (tgt := 64) dX5_name_47 (by decide) rfl (fun z28 => ?_) (fun z28 => ?_)
        · replace h := it_f h z28
          refine ct_iinc_2 (q := 67) (v := x2 + 1) dX5_name_64 (by first | rfl | decide) (by decide) rfl rfl ?_
          refine ct_goto (q := 12) dX5_name_67 (by decide) ?_
          exact ct_lessK (ih a0 x1 (x2 + 1) M r h) (And.intro rfl (And.intro rfl (And.intro rfl (trivial))))
        · replace h := it_t h z28
          refine ct_aload_0 (q := 51) dX5_name_50 rfl ?_
          obtain ⟨r29, gr29, h⟩ := ob h
          obtain ⟨er29, gr29⟩ := cV_spec gr29
          refine ct_cVv0 (q := 54) hB dX5_name_51 lk_RX5_38 (by decide) (ctX5_advance hB gr29) er29 (by decide) rfl (Nat.le_of_ble_eq_true rfl) rfl ?_
          refine ct_aload_0 (q := 55) dX5_name_54 rfl ?_
          obtain ⟨a30, ga30, h⟩ := ob h
          refine ct_getP (q := 58) hB dX5_name_55 fl_RX5_34 rfl ga30 rfl ?_
          refine ct_iconst (v := 1) (q := 59) dX5_name_58 (by decide) rfl ?_
          refine ct_iload_2 (q := 60) dX5_name_59 rfl ?_
          obtain ⟨r31, gr31, h⟩ := ob h
          obtain ⟨er31, gr31⟩ := cV_spec gr31
          refine ct_cVi2 (q := 63) hB dX5_name_60 lk_RX5_91 (by decide) (ctX1_addLeaf hB gr31) er31 (by decide) rfl (Nat.le_of_ble_eq_true rfl) rfl ?_
          exact ct_iret dX5_name_63 rfl ⟨Nat.le_refl 0, Nat.le_refl 0⟩ (poI_of h)

def fX5_name (a0 : Nat) (M : ctM) : Option (Int32 × ctM) :=
  (gP kdC 5 0 a0 M).bind fun a21 =>
  (gI kdC 5 2 a0 M).bind fun x22 =>
  (aI kdC lnC 8 a21 x22 M).bind fun x23 =>
  fX5_name_h12 4000 a0 x23 0 M

set_option maxHeartbeats 4000000 in
set_option maxRecDepth 20000 in
theorem ctX5_name {B : ctB} {n : Nat} (hB : ctOk B kdC lnC n) {a0 : Nat} {M : ctM} {r : Int32 × ctM} (h : fX5_name a0 M = some r) : ctC B mX5_name (5, 0, 0) [.ref a0] n M (poI r n) := by
  refine ctC_of (by decide) (Nat.le_of_ble_eq_true rfl) ?_
  show ctV B mX5_name (5, 0, 0) (poI r n) 0 [some (.ref a0), none, none] [] (0, 0) n M
  unfold fX5_name at h
  refine ct_aload_0 (q := 1) dX5_name_0 rfl ?_
  obtain ⟨a21, ga21, h⟩ := ob h
  refine ct_getP (q := 4) hB dX5_name_1 fl_RX5_9 rfl ga21 rfl ?_
  refine ct_aload_0 (q := 5) dX5_name_4 rfl ?_
  obtain ⟨x22, gx22, h⟩ := ob h
  refine ct_getI (q := 8) hB dX5_name_5 fl_RX5_19 rfl gx22 rfl ?_
  obtain ⟨x23, gx23, h⟩ := ob h
  refine ct_bald (q := 9) hB dX5_name_8 gx23 rfl ?_
  refine ct_istore_1 (q := 10) dX5_name_9 (by decide) rfl rfl ?_
  refine ct_iconst (v := 0) (q := 11) dX5_name_10 (by decide) rfl ?_
  refine ct_istore_2 (q := 12) dX5_name_11 (by decide) rfl rfl ?_
  exact ct_lessK (vX5_name_h12 hB  4000 a0 x23 0 M r h) (And.intro rfl (And.intro rfl (And.intro rfl (trivial))))

def fX5_number_h25 : Nat → Nat → Int32 → Int32 → ctM → Option (Int32 × ctM)
  | 0, _, _, _, _ => none
  | N + 1, a0, x1, x2, M =>
    (gI kdC 5 3 a0 M).bind fun x21 =>
    if x21 ≤ x2 then
      (cV kdC 5 a0 (fX5_advance a0 M)).bind fun r23 =>
      (gP kdC 5 6 a0 r23).bind fun a24 =>
      (cV kdC 1 a24 (fX1_addLeaf a24 0 x1 r23)).bind fun r25 =>
      some (r25.1, r25.2)
    else
      (gP kdC 5 0 a0 M).bind fun a26 =>
      (aI kdC lnC 8 a26 x2 M).bind fun x27 =>
      fX5_number_h25 N a0 (((10 * x1) + x27) - 48) (x2 + 1) M

set_option maxHeartbeats 4000000 in
set_option maxRecDepth 20000 in
theorem vX5_number_h25 {B : ctB} {n : Nat} (hB : ctOk B kdC lnC n) : ∀ (N : Nat) (a0 : Nat) (x1 : Int32) (x2 : Int32) (M : ctM) (r : Int32 × ctM), fX5_number_h25 N a0 x1 x2 M = some r → ctV B mX5_number (3, 0, 0) (poI r n) 25 [some (.ref a0), some (.int x1), some (.int x2)] [] (0, 0) n M := by
  intro N
  induction N with
  | zero => intro a0 x1 x2 M r h; exact absurd h (by simp [fX5_number_h25])
  | succ N ih =>
    intro a0 x1 x2 M r h
    rw [fX5_number_h25] at h
    refine ct_iload_2 (q := 26) dX5_number_25 rfl ?_
    refine ct_aload_0 (q := 27) dX5_number_26 rfl ?_
    obtain ⟨x21, gx21, h⟩ := ob h
    refine ct_getI (q := 30) hB dX5_number_27 fl_RX5_22 rfl gx21 rfl ?_
    refine ct_icmp_ge (q := 33) (tgt := 54) dX5_number_30 (by decide) rfl (fun z22 => ?_) (fun z22 => ?_)
    · replace h := it_t h z22
      refine ct_aload_0 (q := 55) dX5_number_54 rfl ?_
      obtain ⟨r23, gr23, h⟩ := ob h
      obtain ⟨er23, gr23⟩ := cV_spec gr23
      refine ct_cVv0 (q := 58) hB dX5_number_55 lk_RX5_38 (by decide) (ctX5_advance hB gr23) er23 (by decide) rfl (Nat.le_of_ble_eq_true rfl) rfl ?_
      refine ct_aload_0 (q := 59) dX5_number_58 rfl ?_
      obtain ⟨a24, ga24, h⟩ := ob h
      refine ct_getP (q := 62) hB dX5_number_59 fl_RX5_34 rfl ga24 rfl ?_
      refine ct_iconst (v := 0) (q := 63) dX5_number_62 (by decide) rfl ?_
      refine ct_iload_1 (q := 64) dX5_number_63 rfl ?_
      obtain ⟨r25, gr25, h⟩ := ob h
      obtain ⟨er25, gr25⟩ := cV_spec gr25
      refine ct_cVi2 (q := 67) hB dX5_number_64 lk_RX5_91 (by decide) (ctX1_addLeaf hB gr25) er25 (by decide) rfl (Nat.le_of_ble_eq_true rfl) rfl ?_
      exact ct_iret dX5_number_67 rfl ⟨Nat.le_refl 0, Nat.le_refl 0⟩ (poI_of h)
    · replace h := it_f h z22
      refine ct_bipush (v := 10) (q := 35) dX5_number_33 (by decide) rfl ?_
      refine ct_iload_1 (q := 36) dX5_number_35 rfl ?_
      refine ct_imul (q := 37) dX5_number_36 rfl ?_
      refine ct_aload_0 (q := 38) dX5_number_37 rfl ?_
      obtain ⟨a26, ga26, h⟩ := ob h
      refine ct_getP (q := 41) hB dX5_number_38 fl_RX5_9 rfl ga26 rfl ?_
      refine ct_iload_2 (q := 42) dX5_number_41 rfl ?_
      obtain ⟨x27, gx27, h⟩ := ob h
      refine ct_bald (q := 43) hB dX5_number_42 gx27 rfl ?_
      refine ct_iadd (q := 44) dX5_number_43 rfl ?_
      refine ct_bipush (v := 48) (q := 46) dX5_number_44 (by decide) rfl ?_
      refine ct_isub (q := 47) dX5_number_46 rfl ?_
      refine ct_istore_1 (q := 48) dX5_number_47 (by decide) rfl rfl ?_
      refine ct_iinc_2 (q := 51) (v := x2 + 1) dX5_number_48 (by first | rfl | decide) (by decide) rfl rfl ?_
      refine ct_goto (q := 25) dX5_number_51 (by decide) ?_
      exact ct_lessK (ih a0 (((10 * x1) + x27) - 48) (x2 + 1) M r h) (And.intro rfl (And.intro rfl (And.intro rfl (trivial))))

def fX5_number (a0 : Nat) (M : ctM) : Option (Int32 × ctM) :=
  (gI kdC 5 3 a0 M).bind fun x21 =>
  (gI kdC 5 2 a0 M).bind fun x22 =>
  if (x21 - x22) ≤ 4 then
    (gI kdC 5 2 a0 M).bind fun x24 =>
    fX5_number_h25 4000 a0 0 x24 M
  else
    (cV kdC 5 a0 (fX5_fail a0 M)).bind fun r25 =>
    some (r25.1, r25.2)

set_option maxHeartbeats 4000000 in
set_option maxRecDepth 20000 in
theorem ctX5_number {B : ctB} {n : Nat} (hB : ctOk B kdC lnC n) {a0 : Nat} {M : ctM} {r : Int32 × ctM} (h : fX5_number a0 M = some r) : ctC B mX5_number (3, 0, 0) [.ref a0] n M (poI r n) := by
  refine ctC_of (by decide) (Nat.le_of_ble_eq_true rfl) ?_
  show ctV B mX5_number (3, 0, 0) (poI r n) 0 [some (.ref a0), none, none] [] (0, 0) n M
  unfold fX5_number at h
  refine ct_aload_0 (q := 1) dX5_number_0 rfl ?_
  obtain ⟨x21, gx21, h⟩ := ob h
  refine ct_getI (q := 4) hB dX5_number_1 fl_RX5_22 rfl gx21 rfl ?_
  refine ct_aload_0 (q := 5) dX5_number_4 rfl ?_
  obtain ⟨x22, gx22, h⟩ := ob h
  refine ct_getI (q := 8) hB dX5_number_5 fl_RX5_19 rfl gx22 rfl ?_
  refine ct_isub (q := 9) dX5_number_8 rfl ?_
  refine ct_iconst (v := 4) (q := 10) dX5_number_9 (by decide) rfl ?_
  refine ct_icmp_le (q := 13) (tgt := 18) dX5_number_10 (by decide) rfl (fun z23 => ?_) (fun z23 => ?_)
  · replace h := it_t h z23
    refine ct_iconst (v := 0) (q := 19) dX5_number_18 (by decide) rfl ?_
    refine ct_istore_1 (q := 20) dX5_number_19 (by decide) rfl rfl ?_
    refine ct_aload_0 (q := 21) dX5_number_20 rfl ?_
    obtain ⟨x24, gx24, h⟩ := ob h
    refine ct_getI (q := 24) hB dX5_number_21 fl_RX5_19 rfl gx24 rfl ?_
    refine ct_istore_2 (q := 25) dX5_number_24 (by decide) rfl rfl ?_
    exact ct_lessK (vX5_number_h25 hB  4000 a0 0 x24 M r h) (And.intro rfl (And.intro rfl (And.intro rfl (trivial))))
  · replace h := it_f h z23
    refine ct_aload_0 (q := 14) dX5_number_13 rfl ?_
    obtain ⟨r25, gr25, h⟩ := ob h
    obtain ⟨er25, gr25⟩ := cV_spec gr25
    refine ct_cVi0 (q := 17) hB dX5_number_14 lk_RX5_53 (by decide) (ctX5_fail hB gr25) er25 (by decide) rfl (Nat.le_of_ble_eq_true rfl) rfl ?_
    exact ct_iret dX5_number_17 rfl ⟨Nat.le_refl 0, Nat.le_refl 0⟩ (poI_of h)

def fX5_chain_b105 (F : Nat → Nat → Int32 → Int32 → Int32 → ctM → Option (Int32 × ctM)) (k39 : Nat → Int32 → Int32 → Int32 → Int32 → Int32 → Int32 → ctM → Option (Int32 × ctM)) (a0 : Nat) (x1 : Int32) (x2 : Int32) (x3 : Int32) (x5 : Int32) (x6 : Int32) (xs0 : Int32) (M : ctM) : Option (Int32 × ctM) :=
  k39 a0 x1 x2 x3 xs0 x5 (x6 + 1) M

set_option maxHeartbeats 4000000 in
set_option maxRecDepth 20000 in
theorem vX5_chain_b105 {B : ctB} {n : Nat} (hB : ctOk B kdC lnC n) {lv lw : Nat} {F : Nat → Nat → Int32 → Int32 → Int32 → ctM → Option (Int32 × ctM)} (hb : 6 ≤ lv) (hlv : lw + 1 ≤ lv) (hF0 : ∀ (a : Nat) (x y w : Int32) (M : ctM) (r : Int32 × ctM), F 0 a x y w M = some r → ctC B mX5_chain (lw, 0, 0) [.ref a, .int x, .int y, .int w] n M (poI r n)) (hF1 : ∀ (a : Nat) (x y w : Int32) (M : ctM) (r : Int32 × ctM), F 1 a x y w M = some r → ctC B mX5_piece (lw, 0, 0) [.ref a, .int x, .int y] n M (poI r n)) (hF2 : ∀ (a : Nat) (x y w : Int32) (M : ctM) (r : Int32 × ctM), F 2 a x y w M = some r → ctC B mX5_bracket (lw, 0, 0) [.ref a, .int x, .int y] n M (poI r n)) {k39 : Nat → Int32 → Int32 → Int32 → Int32 → Int32 → Int32 → ctM → Option (Int32 × ctM)} (hk39 : ∀ (a0 : Nat) (x1 : Int32) (x2 : Int32) (x3 : Int32) (x4 : Int32) (x5 : Int32) (x6 : Int32) (M : ctM) (r : Int32 × ctM), k39 a0 x1 x2 x3 x4 x5 x6 M = some r → ctV B mX5_chain (lv, 0, 0) (poI r n) 39 [some (.ref a0), some (.int x1), some (.int x2), some (.int x3), some (.int x4), some (.int x5), some (.int x6), none, none] [] (0, 0) n M) : ∀ (a0 : Nat) (x1 : Int32) (x2 : Int32) (x3 : Int32) (x5 : Int32) (x6 : Int32) (xs0 : Int32) (M : ctM) (r : Int32 × ctM), fX5_chain_b105 F k39 a0 x1 x2 x3 x5 x6 xs0 M = some r → ctV B mX5_chain (lv, 0, 0) (poI r n) 105 [some (.ref a0), some (.int x1), some (.int x2), some (.int x3), none, some (.int x5), some (.int x6), none, none] [.int xs0] (0, 0) n M := by
  intro a0 x1 x2 x3 x5 x6 xs0 M r h
  unfold fX5_chain_b105 at h
  refine ct_istore_4 (q := 107) dX5_chain_105 (by decide) rfl rfl ?_
  refine ct_iinc_6 (q := 110) (v := x6 + 1) dX5_chain_107 (by first | rfl | decide) (by decide) rfl rfl ?_
  refine ct_goto (q := 39) dX5_chain_110 (by decide) ?_
  exact ct_lessK (hk39 a0 x1 x2 x3 xs0 x5 (x6 + 1) M r h) (And.intro rfl (And.intro rfl (And.intro rfl (And.intro rfl (And.intro rfl (And.intro rfl (And.intro rfl (trivial))))))))

def fX5_chain_h39 (F : Nat → Nat → Int32 → Int32 → Int32 → ctM → Option (Int32 × ctM)) : Nat → Nat → Int32 → Int32 → Int32 → Int32 → Int32 → Int32 → ctM → Option (Int32 × ctM)
  | 0, _, _, _, _, _, _, _, _ => none
  | N + 1, a0, x1, x2, x3, x4, x5, x6, M =>
    if x5 ≤ x6 then
      some (x4, M)
    else
      if x4 < 0 then
        some (x4, M)
      else
        (gI kdC 5 4 a0 M).bind fun x23 =>
        (fX5_levelOf x23 M).bind fun r24 =>
        if r24.1 = x1 then
          (gI kdC 5 4 a0 r24.2).bind fun x26 =>
          (cV kdC 5 a0 (fX5_advance a0 r24.2)).bind fun r27 =>
          (cV kdC 5 a0 (F 0 a0 (x1 + 1) x2 x3 r27)).bind fun r28 =>
          if 0 ≤ r28.1 then
            (gP kdC 5 6 a0 r28.2).bind fun a30 =>
            (cV kdC 1 a30 (fX1_addStep a30 x26 x4 r28.1 r28.2)).bind fun r31 =>
            fX5_chain_b105 F (fX5_chain_h39 F N) a0 x1 x2 x3 x5 x6 r31.1 r31.2
          else
            fX5_chain_b105 F (fX5_chain_h39 F N) a0 x1 x2 x3 x5 x6 (-1) r28.2
        else
          some (x4, r24.2)

set_option maxHeartbeats 4000000 in
set_option maxRecDepth 20000 in
theorem vX5_chain_h39 {B : ctB} {n : Nat} (hB : ctOk B kdC lnC n) {lv lw : Nat} {F : Nat → Nat → Int32 → Int32 → Int32 → ctM → Option (Int32 × ctM)} (hb : 6 ≤ lv) (hlv : lw + 1 ≤ lv) (hF0 : ∀ (a : Nat) (x y w : Int32) (M : ctM) (r : Int32 × ctM), F 0 a x y w M = some r → ctC B mX5_chain (lw, 0, 0) [.ref a, .int x, .int y, .int w] n M (poI r n)) (hF1 : ∀ (a : Nat) (x y w : Int32) (M : ctM) (r : Int32 × ctM), F 1 a x y w M = some r → ctC B mX5_piece (lw, 0, 0) [.ref a, .int x, .int y] n M (poI r n)) (hF2 : ∀ (a : Nat) (x y w : Int32) (M : ctM) (r : Int32 × ctM), F 2 a x y w M = some r → ctC B mX5_bracket (lw, 0, 0) [.ref a, .int x, .int y] n M (poI r n)) : ∀ (N : Nat) (a0 : Nat) (x1 : Int32) (x2 : Int32) (x3 : Int32) (x4 : Int32) (x5 : Int32) (x6 : Int32) (M : ctM) (r : Int32 × ctM), fX5_chain_h39 F N a0 x1 x2 x3 x4 x5 x6 M = some r → ctV B mX5_chain (lv, 0, 0) (poI r n) 39 [some (.ref a0), some (.int x1), some (.int x2), some (.int x3), some (.int x4), some (.int x5), some (.int x6), none, none] [] (0, 0) n M := by
  intro N
  induction N with
  | zero => intro a0 x1 x2 x3 x4 x5 x6 M r h; exact absurd h (by simp [fX5_chain_h39])
  | succ N ih =>
    intro a0 x1 x2 x3 x4 x5 x6 M r h
    rw [fX5_chain_h39] at h
    refine ct_iload_6 (q := 41) dX5_chain_39 rfl ?_
    refine ct_iload_5 (q := 43) dX5_chain_41 rfl ?_
    refine ct_icmp_ge (q := 46) (tgt := 113) dX5_chain_43 (by decide) rfl (fun z21 => ?_) (fun z21 => ?_)
    · replace h := it_t h z21
      refine ct_iload_4 (q := 115) dX5_chain_113 rfl ?_
      exact ct_iret dX5_chain_115 rfl ⟨Nat.le_refl 0, Nat.le_refl 0⟩ (poI_of h)
    · replace h := it_f h z21
      refine ct_iload_4 (q := 48) dX5_chain_46 rfl ?_
      refine ct_if_lt (q := 51) (tgt := 113) dX5_chain_48 (by decide) rfl (fun z22 => ?_) (fun z22 => ?_)
      · replace h := it_t h z22
        refine ct_iload_4 (q := 115) dX5_chain_113 rfl ?_
        exact ct_iret dX5_chain_115 rfl ⟨Nat.le_refl 0, Nat.le_refl 0⟩ (poI_of h)
      · replace h := it_f h z22
        refine ct_aload_0 (q := 52) dX5_chain_51 rfl ?_
        obtain ⟨x23, gx23, h⟩ := ob h
        refine ct_getI (q := 55) hB dX5_chain_52 fl_RX5_25 rfl gx23 rfl ?_
        obtain ⟨r24, gr24, h⟩ := ob h
        refine ct_cSi1 (q := 58) dX5_chain_55 lk_RX5_76 (Nat.le_trans (by decide : _ ≤ 6) hb) (ctX5_levelOf hB gr24) (Nat.le_of_ble_eq_true rfl) rfl ?_
        refine ct_iload_1 (q := 59) dX5_chain_58 rfl ?_
        refine ct_icmp_ne (q := 62) (tgt := 113) dX5_chain_59 (by decide) rfl (fun z25 => ?_) (fun z25 => ?_)
        · replace h := it_f h z25
          refine ct_iload_4 (q := 115) dX5_chain_113 rfl ?_
          exact ct_iret dX5_chain_115 rfl ⟨Nat.le_refl 0, Nat.le_refl 0⟩ (poI_of h)
        · replace h := it_t h z25
          refine ct_aload_0 (q := 63) dX5_chain_62 rfl ?_
          obtain ⟨x26, gx26, h⟩ := ob h
          refine ct_getI (q := 66) hB dX5_chain_63 fl_RX5_25 rfl gx26 rfl ?_
          refine ct_istore_7 (q := 68) dX5_chain_66 (by decide) rfl rfl ?_
          refine ct_aload_0 (q := 69) dX5_chain_68 rfl ?_
          obtain ⟨r27, gr27, h⟩ := ob h
          obtain ⟨er27, gr27⟩ := cV_spec gr27
          refine ct_cVv0 (q := 72) hB dX5_chain_69 lk_RX5_38 (Nat.le_trans (by decide : _ ≤ 6) hb) (ctX5_advance hB gr27) er27 (by decide) rfl (Nat.le_of_ble_eq_true rfl) rfl ?_
          refine ct_aload_0 (q := 73) dX5_chain_72 rfl ?_
          refine ct_iload_1 (q := 74) dX5_chain_73 rfl ?_
          refine ct_iconst (v := 1) (q := 75) dX5_chain_74 (by decide) rfl ?_
          refine ct_iadd (q := 76) dX5_chain_75 rfl ?_
          refine ct_iload_2 (q := 77) dX5_chain_76 rfl ?_
          refine ct_iload_3 (q := 78) dX5_chain_77 rfl ?_
          obtain ⟨r28, gr28, h⟩ := ob h
          obtain ⟨er28, gr28⟩ := cV_spec gr28
          refine ct_cVi3 (q := 81) hB dX5_chain_78 lk_RX5_49 hlv (hF0 _ _ _ _ _ _ gr28) er28 (by decide) rfl (Nat.le_of_ble_eq_true rfl) rfl ?_
          refine ct_istore_8 (q := 83) dX5_chain_81 (by decide) rfl rfl ?_
          refine ct_iload_8 (q := 85) dX5_chain_83 rfl ?_
          refine ct_if_ge (q := 88) (tgt := 92) dX5_chain_85 (by decide) rfl (fun z29 => ?_) (fun z29 => ?_)
          · replace h := it_t h z29
            refine ct_aload_0 (q := 93) dX5_chain_92 rfl ?_
            obtain ⟨a30, ga30, h⟩ := ob h
            refine ct_getP (q := 96) hB dX5_chain_93 fl_RX5_34 rfl ga30 rfl ?_
            refine ct_iload_7 (q := 98) dX5_chain_96 rfl ?_
            refine ct_iload_4 (q := 100) dX5_chain_98 rfl ?_
            refine ct_iload_8 (q := 102) dX5_chain_100 rfl ?_
            obtain ⟨r31, gr31, h⟩ := ob h
            obtain ⟨er31, gr31⟩ := cV_spec gr31
            refine ct_cVi3 (q := 105) hB dX5_chain_102 lk_RX5_79 (Nat.le_trans (by decide : _ ≤ 6) hb) (ctX1_addStep hB gr31) er31 (by decide) rfl (Nat.le_of_ble_eq_true rfl) rfl ?_
            exact ct_lessK (vX5_chain_b105 hB hb hlv hF0 hF1 hF2 ih a0 x1 x2 x3 x5 x6 r31.1 r31.2 r h) (And.intro rfl (And.intro rfl (And.intro rfl (And.intro rfl (And.intro rfl (And.intro rfl (trivial)))))))
          · replace h := it_f h z29
            refine ct_iconst (v := -1) (q := 89) dX5_chain_88 (by decide) rfl ?_
            refine ct_goto (q := 105) dX5_chain_89 (by decide) ?_
            exact ct_lessK (vX5_chain_b105 hB hb hlv hF0 hF1 hF2 ih a0 x1 x2 x3 x5 x6 (-1) r28.2 r h) (And.intro rfl (And.intro rfl (And.intro rfl (And.intro rfl (And.intro rfl (And.intro rfl (trivial)))))))

def fX5_chain_b34 (F : Nat → Nat → Int32 → Int32 → Int32 → ctM → Option (Int32 × ctM)) (a0 : Nat) (x1 : Int32) (x2 : Int32) (x3 : Int32) (x4 : Int32) (xs0 : Int32) (M : ctM) : Option (Int32 × ctM) :=
  fX5_chain_h39 F 4000 a0 x1 x2 x3 x4 xs0 0 M

set_option maxHeartbeats 4000000 in
set_option maxRecDepth 20000 in
theorem vX5_chain_b34 {B : ctB} {n : Nat} (hB : ctOk B kdC lnC n) {lv lw : Nat} {F : Nat → Nat → Int32 → Int32 → Int32 → ctM → Option (Int32 × ctM)} (hb : 6 ≤ lv) (hlv : lw + 1 ≤ lv) (hF0 : ∀ (a : Nat) (x y w : Int32) (M : ctM) (r : Int32 × ctM), F 0 a x y w M = some r → ctC B mX5_chain (lw, 0, 0) [.ref a, .int x, .int y, .int w] n M (poI r n)) (hF1 : ∀ (a : Nat) (x y w : Int32) (M : ctM) (r : Int32 × ctM), F 1 a x y w M = some r → ctC B mX5_piece (lw, 0, 0) [.ref a, .int x, .int y] n M (poI r n)) (hF2 : ∀ (a : Nat) (x y w : Int32) (M : ctM) (r : Int32 × ctM), F 2 a x y w M = some r → ctC B mX5_bracket (lw, 0, 0) [.ref a, .int x, .int y] n M (poI r n)) : ∀ (a0 : Nat) (x1 : Int32) (x2 : Int32) (x3 : Int32) (x4 : Int32) (xs0 : Int32) (M : ctM) (r : Int32 × ctM), fX5_chain_b34 F a0 x1 x2 x3 x4 xs0 M = some r → ctV B mX5_chain (lv, 0, 0) (poI r n) 34 [some (.ref a0), some (.int x1), some (.int x2), some (.int x3), some (.int x4), none, none, none, none] [.int xs0] (0, 0) n M := by
  intro a0 x1 x2 x3 x4 xs0 M r h
  unfold fX5_chain_b34 at h
  refine ct_istore_5 (q := 36) dX5_chain_34 (by decide) rfl rfl ?_
  refine ct_iconst (v := 0) (q := 37) dX5_chain_36 (by decide) rfl ?_
  refine ct_istore_6 (q := 39) dX5_chain_37 (by decide) rfl rfl ?_
  exact ct_lessK (vX5_chain_h39 hB hb hlv hF0 hF1 hF2  4000 a0 x1 x2 x3 x4 xs0 0 M r h) (And.intro rfl (And.intro rfl (And.intro rfl (And.intro rfl (And.intro rfl (And.intro rfl (And.intro rfl (trivial))))))))

def fX5_chain (F : Nat → Nat → Int32 → Int32 → Int32 → ctM → Option (Int32 × ctM)) (a0 : Nat) (x1 : Int32) (x2 : Int32) (x3 : Int32) (M : ctM) : Option (Int32 × ctM) :=
  if x1 < 5 then
    (cV kdC 5 a0 (F 0 a0 (x1 + 1) x2 x3 M)).bind fun r22 =>
    if x1 = 2 then
      fX5_chain_b34 F a0 x1 x2 x3 r22.1 1 r22.2
    else
      fX5_chain_b34 F a0 x1 x2 x3 r22.1 96 r22.2
  else
    (cV kdC 5 a0 (F 1 a0 x2 x3 0 M)).bind fun r24 =>
    some (r24.1, r24.2)

set_option maxHeartbeats 4000000 in
set_option maxRecDepth 20000 in
theorem ctX5_chain {B : ctB} {n : Nat} (hB : ctOk B kdC lnC n) {lv lw : Nat} {F : Nat → Nat → Int32 → Int32 → Int32 → ctM → Option (Int32 × ctM)} (hb : 6 ≤ lv) (hlv : lw + 1 ≤ lv) (hF0 : ∀ (a : Nat) (x y w : Int32) (M : ctM) (r : Int32 × ctM), F 0 a x y w M = some r → ctC B mX5_chain (lw, 0, 0) [.ref a, .int x, .int y, .int w] n M (poI r n)) (hF1 : ∀ (a : Nat) (x y w : Int32) (M : ctM) (r : Int32 × ctM), F 1 a x y w M = some r → ctC B mX5_piece (lw, 0, 0) [.ref a, .int x, .int y] n M (poI r n)) (hF2 : ∀ (a : Nat) (x y w : Int32) (M : ctM) (r : Int32 × ctM), F 2 a x y w M = some r → ctC B mX5_bracket (lw, 0, 0) [.ref a, .int x, .int y] n M (poI r n)) {a0 : Nat} {x1 : Int32} {x2 : Int32} {x3 : Int32} {M : ctM} {r : Int32 × ctM} (h : fX5_chain F a0 x1 x2 x3 M = some r) : ctC B mX5_chain (lv, 0, 0) [.ref a0, .int x1, .int x2, .int x3] n M (poI r n) := by
  refine ctC_of (by decide) (Nat.le_of_ble_eq_true rfl) ?_
  show ctV B mX5_chain (lv, 0, 0) (poI r n) 0 [some (.ref a0), some (.int x1), some (.int x2), some (.int x3), none, none, none, none, none] [] (0, 0) n M
  unfold fX5_chain at h
  refine ct_iload_1 (q := 1) dX5_chain_0 rfl ?_
  refine ct_iconst (v := 5) (q := 2) dX5_chain_1 (by decide) rfl ?_
  refine ct_icmp_lt (q := 5) (tgt := 12) dX5_chain_2 (by decide) rfl (fun z21 => ?_) (fun z21 => ?_)
  · replace h := it_t h z21
    refine ct_aload_0 (q := 13) dX5_chain_12 rfl ?_
    refine ct_iload_1 (q := 14) dX5_chain_13 rfl ?_
    refine ct_iconst (v := 1) (q := 15) dX5_chain_14 (by decide) rfl ?_
    refine ct_iadd (q := 16) dX5_chain_15 rfl ?_
    refine ct_iload_2 (q := 17) dX5_chain_16 rfl ?_
    refine ct_iload_3 (q := 18) dX5_chain_17 rfl ?_
    obtain ⟨r22, gr22, h⟩ := ob h
    obtain ⟨er22, gr22⟩ := cV_spec gr22
    refine ct_cVi3 (q := 21) hB dX5_chain_18 lk_RX5_49 hlv (hF0 _ _ _ _ _ _ gr22) er22 (by decide) rfl (Nat.le_of_ble_eq_true rfl) rfl ?_
    refine ct_istore_4 (q := 23) dX5_chain_21 (by decide) rfl rfl ?_
    refine ct_iload_1 (q := 24) dX5_chain_23 rfl ?_
    refine ct_iconst (v := 2) (q := 25) dX5_chain_24 (by decide) rfl ?_
    refine ct_icmp_ne (q := 28) (tgt := 32) dX5_chain_25 (by decide) rfl (fun z23 => ?_) (fun z23 => ?_)
    · replace h := it_f h z23
      refine ct_bipush (v := 96) (q := 34) dX5_chain_32 (by decide) rfl ?_
      exact ct_lessK (vX5_chain_b34 hB hb hlv hF0 hF1 hF2  a0 x1 x2 x3 r22.1 96 r22.2 r h) (And.intro rfl (And.intro rfl (And.intro rfl (And.intro rfl (And.intro rfl (trivial))))))
    · replace h := it_t h z23
      refine ct_iconst (v := 1) (q := 29) dX5_chain_28 (by decide) rfl ?_
      refine ct_goto (q := 34) dX5_chain_29 (by decide) ?_
      exact ct_lessK (vX5_chain_b34 hB hb hlv hF0 hF1 hF2  a0 x1 x2 x3 r22.1 1 r22.2 r h) (And.intro rfl (And.intro rfl (And.intro rfl (And.intro rfl (And.intro rfl (trivial))))))
  · replace h := it_f h z21
    refine ct_aload_0 (q := 6) dX5_chain_5 rfl ?_
    refine ct_iload_2 (q := 7) dX5_chain_6 rfl ?_
    refine ct_iload_3 (q := 8) dX5_chain_7 rfl ?_
    obtain ⟨r24, gr24, h⟩ := ob h
    obtain ⟨er24, gr24⟩ := cV_spec gr24
    refine ct_cVi2 (q := 11) hB dX5_chain_8 lk_RX5_72 hlv (hF1 _ _ _ _ _ _ gr24) er24 (by decide) rfl (Nat.le_of_ble_eq_true rfl) rfl ?_
    exact ct_iret dX5_chain_11 rfl ⟨Nat.le_refl 0, Nat.le_refl 0⟩ (poI_of h)

def fX5_piece_b100 (F : Nat → Nat → Int32 → Int32 → Int32 → ctM → Option (Int32 × ctM)) (a0 : Nat) (M : ctM) : Option (Int32 × ctM) :=
  (cV kdC 5 a0 (fX5_fail a0 M)).bind fun r21 =>
  some (r21.1, r21.2)

set_option maxHeartbeats 4000000 in
set_option maxRecDepth 20000 in
theorem vX5_piece_b100 {B : ctB} {n : Nat} (hB : ctOk B kdC lnC n) {lv lw : Nat} {F : Nat → Nat → Int32 → Int32 → Int32 → ctM → Option (Int32 × ctM)} (hb : 6 ≤ lv) (hlv : lw + 1 ≤ lv) (hF0 : ∀ (a : Nat) (x y w : Int32) (M : ctM) (r : Int32 × ctM), F 0 a x y w M = some r → ctC B mX5_chain (lw, 0, 0) [.ref a, .int x, .int y, .int w] n M (poI r n)) (hF1 : ∀ (a : Nat) (x y w : Int32) (M : ctM) (r : Int32 × ctM), F 1 a x y w M = some r → ctC B mX5_piece (lw, 0, 0) [.ref a, .int x, .int y] n M (poI r n)) (hF2 : ∀ (a : Nat) (x y w : Int32) (M : ctM) (r : Int32 × ctM), F 2 a x y w M = some r → ctC B mX5_bracket (lw, 0, 0) [.ref a, .int x, .int y] n M (poI r n)) : ∀ (a0 : Nat) (M : ctM) (r : Int32 × ctM), fX5_piece_b100 F a0 M = some r → ctV B mX5_piece (lv, 0, 0) (poI r n) 100 [some (.ref a0), none, none, none] [] (0, 0) n M := by
  intro a0 M r h
  unfold fX5_piece_b100 at h
  refine ct_aload_0 (q := 101) dX5_piece_100 rfl ?_
  obtain ⟨r21, gr21, h⟩ := ob h
  obtain ⟨er21, gr21⟩ := cV_spec gr21
  refine ct_cVi0 (q := 104) hB dX5_piece_101 lk_RX5_53 (Nat.le_trans (by decide : _ ≤ 6) hb) (ctX5_fail hB gr21) er21 (by decide) rfl (Nat.le_of_ble_eq_true rfl) rfl ?_
  exact ct_iret dX5_piece_104 rfl ⟨Nat.le_refl 0, Nat.le_refl 0⟩ (poI_of h)

def fX5_piece_b76 (F : Nat → Nat → Int32 → Int32 → Int32 → ctM → Option (Int32 × ctM)) (a0 : Nat) (x1 : Int32) (x2 : Int32) (M : ctM) : Option (Int32 × ctM) :=
  (gI kdC 5 4 a0 M).bind fun x21 =>
  if x21 = 40 then
    if 8 ≤ x1 then
      fX5_piece_b100 F a0 M
    else
      (cV kdC 5 a0 (F 2 a0 x1 x2 0 M)).bind fun r24 =>
      some (r24.1, r24.2)
  else
    fX5_piece_b100 F a0 M

set_option maxHeartbeats 4000000 in
set_option maxRecDepth 20000 in
theorem vX5_piece_b76 {B : ctB} {n : Nat} (hB : ctOk B kdC lnC n) {lv lw : Nat} {F : Nat → Nat → Int32 → Int32 → Int32 → ctM → Option (Int32 × ctM)} (hb : 6 ≤ lv) (hlv : lw + 1 ≤ lv) (hF0 : ∀ (a : Nat) (x y w : Int32) (M : ctM) (r : Int32 × ctM), F 0 a x y w M = some r → ctC B mX5_chain (lw, 0, 0) [.ref a, .int x, .int y, .int w] n M (poI r n)) (hF1 : ∀ (a : Nat) (x y w : Int32) (M : ctM) (r : Int32 × ctM), F 1 a x y w M = some r → ctC B mX5_piece (lw, 0, 0) [.ref a, .int x, .int y] n M (poI r n)) (hF2 : ∀ (a : Nat) (x y w : Int32) (M : ctM) (r : Int32 × ctM), F 2 a x y w M = some r → ctC B mX5_bracket (lw, 0, 0) [.ref a, .int x, .int y] n M (poI r n)) : ∀ (a0 : Nat) (x1 : Int32) (x2 : Int32) (M : ctM) (r : Int32 × ctM), fX5_piece_b76 F a0 x1 x2 M = some r → ctV B mX5_piece (lv, 0, 0) (poI r n) 76 [some (.ref a0), some (.int x1), some (.int x2), none] [] (0, 0) n M := by
  intro a0 x1 x2 M r h
  unfold fX5_piece_b76 at h
  refine ct_aload_0 (q := 77) dX5_piece_76 rfl ?_
  obtain ⟨x21, gx21, h⟩ := ob h
  refine ct_getI (q := 80) hB dX5_piece_77 fl_RX5_25 rfl gx21 rfl ?_
  refine ct_bipush (v := 40) (q := 82) dX5_piece_80 (by decide) rfl ?_
  refine ct_icmp_ne (q := 85) (tgt := 100) dX5_piece_82 (by decide) rfl (fun z22 => ?_) (fun z22 => ?_)
  · replace h := it_f h z22
    exact ct_lessK (vX5_piece_b100 hB hb hlv hF0 hF1 hF2  a0 M r h) (And.intro rfl (trivial))
  · replace h := it_t h z22
    refine ct_iload_1 (q := 86) dX5_piece_85 rfl ?_
    refine ct_bipush (v := 8) (q := 88) dX5_piece_86 (by decide) rfl ?_
    refine ct_icmp_ge (q := 91) (tgt := 100) dX5_piece_88 (by decide) rfl (fun z23 => ?_) (fun z23 => ?_)
    · replace h := it_t h z23
      exact ct_lessK (vX5_piece_b100 hB hb hlv hF0 hF1 hF2  a0 M r h) (And.intro rfl (trivial))
    · replace h := it_f h z23
      refine ct_aload_0 (q := 92) dX5_piece_91 rfl ?_
      refine ct_iload_1 (q := 93) dX5_piece_92 rfl ?_
      refine ct_iload_2 (q := 94) dX5_piece_93 rfl ?_
      obtain ⟨r24, gr24, h⟩ := ob h
      obtain ⟨er24, gr24⟩ := cV_spec gr24
      refine ct_cVi2 (q := 97) hB dX5_piece_94 lk_RX5_88 hlv (hF2 _ _ _ _ _ _ gr24) er24 (by decide) rfl (Nat.le_of_ble_eq_true rfl) rfl ?_
      refine ct_goto (q := 104) dX5_piece_97 (by decide) ?_
      exact ct_iret dX5_piece_104 rfl ⟨Nat.le_refl 0, Nat.le_refl 0⟩ (poI_of h)

def fX5_piece (F : Nat → Nat → Int32 → Int32 → Int32 → ctM → Option (Int32 × ctM)) (a0 : Nat) (x1 : Int32) (x2 : Int32) (M : ctM) : Option (Int32 × ctM) :=
  (gI kdC 5 4 a0 M).bind fun x21 =>
  if x21 = (-3) then
    (cV kdC 5 a0 (fX5_number a0 M)).bind fun r34 =>
    some (r34.1, r34.2)
  else
    (gI kdC 5 4 a0 M).bind fun x23 =>
    if x23 = (-2) then
      (cV kdC 5 a0 (fX5_name a0 M)).bind fun r33 =>
      some (r33.1, r33.2)
    else
      (gI kdC 5 4 a0 M).bind fun x25 =>
      if x25 = 33 then
        if 8 ≤ x2 then
          fX5_piece_b76 F a0 x1 x2 M
        else
          (cV kdC 5 a0 (fX5_advance a0 M)).bind fun r28 =>
          (cV kdC 5 a0 (F 1 a0 x1 (x2 + 1) 0 r28)).bind fun r29 =>
          if 0 ≤ r29.1 then
            (gP kdC 5 6 a0 r29.2).bind fun a31 =>
            (cV kdC 1 a31 (fX1_addStep a31 33 r29.1 r29.1 r29.2)).bind fun r32 =>
            some (r32.1, r32.2)
          else
            some ((-1), r29.2)
      else
        fX5_piece_b76 F a0 x1 x2 M

set_option maxHeartbeats 4000000 in
set_option maxRecDepth 20000 in
theorem ctX5_piece {B : ctB} {n : Nat} (hB : ctOk B kdC lnC n) {lv lw : Nat} {F : Nat → Nat → Int32 → Int32 → Int32 → ctM → Option (Int32 × ctM)} (hb : 6 ≤ lv) (hlv : lw + 1 ≤ lv) (hF0 : ∀ (a : Nat) (x y w : Int32) (M : ctM) (r : Int32 × ctM), F 0 a x y w M = some r → ctC B mX5_chain (lw, 0, 0) [.ref a, .int x, .int y, .int w] n M (poI r n)) (hF1 : ∀ (a : Nat) (x y w : Int32) (M : ctM) (r : Int32 × ctM), F 1 a x y w M = some r → ctC B mX5_piece (lw, 0, 0) [.ref a, .int x, .int y] n M (poI r n)) (hF2 : ∀ (a : Nat) (x y w : Int32) (M : ctM) (r : Int32 × ctM), F 2 a x y w M = some r → ctC B mX5_bracket (lw, 0, 0) [.ref a, .int x, .int y] n M (poI r n)) {a0 : Nat} {x1 : Int32} {x2 : Int32} {M : ctM} {r : Int32 × ctM} (h : fX5_piece F a0 x1 x2 M = some r) : ctC B mX5_piece (lv, 0, 0) [.ref a0, .int x1, .int x2] n M (poI r n) := by
  refine ctC_of (by decide) (Nat.le_of_ble_eq_true rfl) ?_
  show ctV B mX5_piece (lv, 0, 0) (poI r n) 0 [some (.ref a0), some (.int x1), some (.int x2), none] [] (0, 0) n M
  unfold fX5_piece at h
  refine ct_aload_0 (q := 1) dX5_piece_0 rfl ?_
  obtain ⟨x21, gx21, h⟩ := ob h
  refine ct_getI (q := 4) hB dX5_piece_1 fl_RX5_25 rfl gx21 rfl ?_
  refine ct_bipush (v := -3) (q := 6) dX5_piece_4 (by decide) rfl ?_
  refine ct_icmp_ne (q := 9) (tgt := 14) dX5_piece_6 (by decide) rfl (fun z22 => ?_) (fun z22 => ?_)
  · replace h := it_f h z22
    refine ct_aload_0 (q := 15) dX5_piece_14 rfl ?_
    obtain ⟨x23, gx23, h⟩ := ob h
    refine ct_getI (q := 18) hB dX5_piece_15 fl_RX5_25 rfl gx23 rfl ?_
    refine ct_bipush (v := -2) (q := 20) dX5_piece_18 (by decide) rfl ?_
    refine ct_icmp_ne (q := 23) (tgt := 28) dX5_piece_20 (by decide) rfl (fun z24 => ?_) (fun z24 => ?_)
    · replace h := it_f h z24
      refine ct_aload_0 (q := 29) dX5_piece_28 rfl ?_
      obtain ⟨x25, gx25, h⟩ := ob h
      refine ct_getI (q := 32) hB dX5_piece_29 fl_RX5_25 rfl gx25 rfl ?_
      refine ct_bipush (v := 33) (q := 34) dX5_piece_32 (by decide) rfl ?_
      refine ct_icmp_ne (q := 37) (tgt := 76) dX5_piece_34 (by decide) rfl (fun z26 => ?_) (fun z26 => ?_)
      · replace h := it_f h z26
        exact ct_lessK (vX5_piece_b76 hB hb hlv hF0 hF1 hF2  a0 x1 x2 M r h) (And.intro rfl (And.intro rfl (And.intro rfl (trivial))))
      · replace h := it_t h z26
        refine ct_iload_2 (q := 38) dX5_piece_37 rfl ?_
        refine ct_bipush (v := 8) (q := 40) dX5_piece_38 (by decide) rfl ?_
        refine ct_icmp_ge (q := 43) (tgt := 76) dX5_piece_40 (by decide) rfl (fun z27 => ?_) (fun z27 => ?_)
        · replace h := it_t h z27
          exact ct_lessK (vX5_piece_b76 hB hb hlv hF0 hF1 hF2  a0 x1 x2 M r h) (And.intro rfl (And.intro rfl (And.intro rfl (trivial))))
        · replace h := it_f h z27
          refine ct_aload_0 (q := 44) dX5_piece_43 rfl ?_
          obtain ⟨r28, gr28, h⟩ := ob h
          obtain ⟨er28, gr28⟩ := cV_spec gr28
          refine ct_cVv0 (q := 47) hB dX5_piece_44 lk_RX5_38 (Nat.le_trans (by decide : _ ≤ 6) hb) (ctX5_advance hB gr28) er28 (by decide) rfl (Nat.le_of_ble_eq_true rfl) rfl ?_
          refine ct_aload_0 (q := 48) dX5_piece_47 rfl ?_
          refine ct_iload_1 (q := 49) dX5_piece_48 rfl ?_
          refine ct_iload_2 (q := 50) dX5_piece_49 rfl ?_
          refine ct_iconst (v := 1) (q := 51) dX5_piece_50 (by decide) rfl ?_
          refine ct_iadd (q := 52) dX5_piece_51 rfl ?_
          obtain ⟨r29, gr29, h⟩ := ob h
          obtain ⟨er29, gr29⟩ := cV_spec gr29
          refine ct_cVi2 (q := 55) hB dX5_piece_52 lk_RX5_72 hlv (hF1 _ _ _ _ _ _ gr29) er29 (by decide) rfl (Nat.le_of_ble_eq_true rfl) rfl ?_
          refine ct_istore_3 (q := 56) dX5_piece_55 (by decide) rfl rfl ?_
          refine ct_iload_3 (q := 57) dX5_piece_56 rfl ?_
          refine ct_if_ge (q := 60) (tgt := 64) dX5_piece_57 (by decide) rfl (fun z30 => ?_) (fun z30 => ?_)
          · replace h := it_t h z30
            refine ct_aload_0 (q := 65) dX5_piece_64 rfl ?_
            obtain ⟨a31, ga31, h⟩ := ob h
            refine ct_getP (q := 68) hB dX5_piece_65 fl_RX5_34 rfl ga31 rfl ?_
            refine ct_bipush (v := 33) (q := 70) dX5_piece_68 (by decide) rfl ?_
            refine ct_iload_3 (q := 71) dX5_piece_70 rfl ?_
            refine ct_iload_3 (q := 72) dX5_piece_71 rfl ?_
            obtain ⟨r32, gr32, h⟩ := ob h
            obtain ⟨er32, gr32⟩ := cV_spec gr32
            refine ct_cVi3 (q := 75) hB dX5_piece_72 lk_RX5_79 (Nat.le_trans (by decide : _ ≤ 6) hb) (ctX1_addStep hB gr32) er32 (by decide) rfl (Nat.le_of_ble_eq_true rfl) rfl ?_
            exact ct_iret dX5_piece_75 rfl ⟨Nat.le_refl 0, Nat.le_refl 0⟩ (poI_of h)
          · replace h := it_f h z30
            refine ct_iconst (v := -1) (q := 61) dX5_piece_60 (by decide) rfl ?_
            refine ct_goto (q := 75) dX5_piece_61 (by decide) ?_
            exact ct_iret dX5_piece_75 rfl ⟨Nat.le_refl 0, Nat.le_refl 0⟩ (poI_of h)
    · replace h := it_t h z24
      refine ct_aload_0 (q := 24) dX5_piece_23 rfl ?_
      obtain ⟨r33, gr33, h⟩ := ob h
      obtain ⟨er33, gr33⟩ := cV_spec gr33
      refine ct_cVi0 (q := 27) hB dX5_piece_24 lk_RX5_85 (Nat.le_trans (by decide : _ ≤ 6) hb) (ctX5_name hB gr33) er33 (by decide) rfl (Nat.le_of_ble_eq_true rfl) rfl ?_
      exact ct_iret dX5_piece_27 rfl ⟨Nat.le_refl 0, Nat.le_refl 0⟩ (poI_of h)
  · replace h := it_t h z22
    refine ct_aload_0 (q := 10) dX5_piece_9 rfl ?_
    obtain ⟨r34, gr34, h⟩ := ob h
    obtain ⟨er34, gr34⟩ := cV_spec gr34
    refine ct_cVi0 (q := 13) hB dX5_piece_10 lk_RX5_82 (Nat.le_trans (by decide : _ ≤ 6) hb) (ctX5_number hB gr34) er34 (by decide) rfl (Nat.le_of_ble_eq_true rfl) rfl ?_
    exact ct_iret dX5_piece_13 rfl ⟨Nat.le_refl 0, Nat.le_refl 0⟩ (poI_of h)

def fX5_bracket (F : Nat → Nat → Int32 → Int32 → Int32 → ctM → Option (Int32 × ctM)) (a0 : Nat) (x1 : Int32) (x2 : Int32) (M : ctM) : Option (Int32 × ctM) :=
  (cV kdC 5 a0 (fX5_advance a0 M)).bind fun r21 =>
  (cV kdC 5 a0 (F 0 a0 0 (x1 + 1) x2 r21)).bind fun r22 =>
  if 0 ≤ r22.1 then
    (gI kdC 5 4 a0 r22.2).bind fun x24 =>
    if x24 = 41 then
      (cV kdC 5 a0 (fX5_advance a0 r22.2)).bind fun r26 =>
      some (r22.1, r26)
    else
      (cV kdC 5 a0 (fX5_fail a0 r22.2)).bind fun r27 =>
      some (r27.1, r27.2)
  else
    some ((-1), r22.2)

set_option maxHeartbeats 4000000 in
set_option maxRecDepth 20000 in
theorem ctX5_bracket {B : ctB} {n : Nat} (hB : ctOk B kdC lnC n) {lv lw : Nat} {F : Nat → Nat → Int32 → Int32 → Int32 → ctM → Option (Int32 × ctM)} (hb : 6 ≤ lv) (hlv : lw + 1 ≤ lv) (hF0 : ∀ (a : Nat) (x y w : Int32) (M : ctM) (r : Int32 × ctM), F 0 a x y w M = some r → ctC B mX5_chain (lw, 0, 0) [.ref a, .int x, .int y, .int w] n M (poI r n)) (hF1 : ∀ (a : Nat) (x y w : Int32) (M : ctM) (r : Int32 × ctM), F 1 a x y w M = some r → ctC B mX5_piece (lw, 0, 0) [.ref a, .int x, .int y] n M (poI r n)) (hF2 : ∀ (a : Nat) (x y w : Int32) (M : ctM) (r : Int32 × ctM), F 2 a x y w M = some r → ctC B mX5_bracket (lw, 0, 0) [.ref a, .int x, .int y] n M (poI r n)) {a0 : Nat} {x1 : Int32} {x2 : Int32} {M : ctM} {r : Int32 × ctM} (h : fX5_bracket F a0 x1 x2 M = some r) : ctC B mX5_bracket (lv, 0, 0) [.ref a0, .int x1, .int x2] n M (poI r n) := by
  refine ctC_of (by decide) (Nat.le_of_ble_eq_true rfl) ?_
  show ctV B mX5_bracket (lv, 0, 0) (poI r n) 0 [some (.ref a0), some (.int x1), some (.int x2), none] [] (0, 0) n M
  unfold fX5_bracket at h
  refine ct_aload_0 (q := 1) dX5_bracket_0 rfl ?_
  obtain ⟨r21, gr21, h⟩ := ob h
  obtain ⟨er21, gr21⟩ := cV_spec gr21
  refine ct_cVv0 (q := 4) hB dX5_bracket_1 lk_RX5_38 (Nat.le_trans (by decide : _ ≤ 6) hb) (ctX5_advance hB gr21) er21 (by decide) rfl (Nat.le_of_ble_eq_true rfl) rfl ?_
  refine ct_aload_0 (q := 5) dX5_bracket_4 rfl ?_
  refine ct_iconst (v := 0) (q := 6) dX5_bracket_5 (by decide) rfl ?_
  refine ct_iload_1 (q := 7) dX5_bracket_6 rfl ?_
  refine ct_iconst (v := 1) (q := 8) dX5_bracket_7 (by decide) rfl ?_
  refine ct_iadd (q := 9) dX5_bracket_8 rfl ?_
  refine ct_iload_2 (q := 10) dX5_bracket_9 rfl ?_
  obtain ⟨r22, gr22, h⟩ := ob h
  obtain ⟨er22, gr22⟩ := cV_spec gr22
  refine ct_cVi3 (q := 13) hB dX5_bracket_10 lk_RX5_49 hlv (hF0 _ _ _ _ _ _ gr22) er22 (by decide) rfl (Nat.le_of_ble_eq_true rfl) rfl ?_
  refine ct_istore_3 (q := 14) dX5_bracket_13 (by decide) rfl rfl ?_
  refine ct_iload_3 (q := 15) dX5_bracket_14 rfl ?_
  refine ct_if_ge (q := 18) (tgt := 20) dX5_bracket_15 (by decide) rfl (fun z23 => ?_) (fun z23 => ?_)
  · replace h := it_t h z23
    refine ct_aload_0 (q := 21) dX5_bracket_20 rfl ?_
    obtain ⟨x24, gx24, h⟩ := ob h
    refine ct_getI (q := 24) hB dX5_bracket_21 fl_RX5_25 rfl gx24 rfl ?_
    refine ct_bipush (v := 41) (q := 26) dX5_bracket_24 (by decide) rfl ?_
    refine ct_icmp_eq (q := 29) (tgt := 34) dX5_bracket_26 (by decide) rfl (fun z25 => ?_) (fun z25 => ?_)
    · replace h := it_t h z25
      refine ct_aload_0 (q := 35) dX5_bracket_34 rfl ?_
      obtain ⟨r26, gr26, h⟩ := ob h
      obtain ⟨er26, gr26⟩ := cV_spec gr26
      refine ct_cVv0 (q := 38) hB dX5_bracket_35 lk_RX5_38 (Nat.le_trans (by decide : _ ≤ 6) hb) (ctX5_advance hB gr26) er26 (by decide) rfl (Nat.le_of_ble_eq_true rfl) rfl ?_
      refine ct_iload_3 (q := 39) dX5_bracket_38 rfl ?_
      exact ct_iret dX5_bracket_39 rfl ⟨Nat.le_refl 0, Nat.le_refl 0⟩ (poI_of h)
    · replace h := it_f h z25
      refine ct_aload_0 (q := 30) dX5_bracket_29 rfl ?_
      obtain ⟨r27, gr27, h⟩ := ob h
      obtain ⟨er27, gr27⟩ := cV_spec gr27
      refine ct_cVi0 (q := 33) hB dX5_bracket_30 lk_RX5_53 (Nat.le_trans (by decide : _ ≤ 6) hb) (ctX5_fail hB gr27) er27 (by decide) rfl (Nat.le_of_ble_eq_true rfl) rfl ?_
      exact ct_iret dX5_bracket_33 rfl ⟨Nat.le_refl 0, Nat.le_refl 0⟩ (poI_of h)
  · replace h := it_f h z23
    refine ct_iconst (v := -1) (q := 19) dX5_bracket_18 (by decide) rfl ?_
    exact ct_iret dX5_bracket_19 rfl ⟨Nat.le_refl 0, Nat.le_refl 0⟩ (poI_of h)

def fXP : Nat → Nat → Nat → Int32 → Int32 → Int32 → ctM → Option (Int32 × ctM)
  | 0, _, _, _, _, _, _ => none
  | d + 1, z, a, x, y, w, M =>
    if z = 0 then fX5_chain (fXP d) a x y w M else
    if z = 1 then fX5_piece (fXP d) a x y M else
    fX5_bracket (fXP d) a x y M

set_option maxHeartbeats 4000000 in
set_option maxRecDepth 20000 in
theorem ctXP {B : ctB} {n : Nat} (hB : ctOk B kdC lnC n) : ∀ (d : Nat), (∀ (a : Nat) (x y w : Int32) (M : ctM) (r : Int32 × ctM), fXP d 0 a x y w M = some r → ctC B mX5_chain (6 + d, 0, 0) [.ref a, .int x, .int y, .int w] n M (poI r n)) ∧ (∀ (a : Nat) (x y w : Int32) (M : ctM) (r : Int32 × ctM), fXP d 1 a x y w M = some r → ctC B mX5_piece (6 + d, 0, 0) [.ref a, .int x, .int y] n M (poI r n)) ∧ (∀ (a : Nat) (x y w : Int32) (M : ctM) (r : Int32 × ctM), fXP d 2 a x y w M = some r → ctC B mX5_bracket (6 + d, 0, 0) [.ref a, .int x, .int y] n M (poI r n)) := by
  intro d
  induction d with
  | zero => exact ⟨fun a x y w M r h => absurd h (by simp [fXP]), fun a x y w M r h => absurd h (by simp [fXP]), fun a x y w M r h => absurd h (by simp [fXP])⟩
  | succ d ih =>
    obtain ⟨hF0, hF1, hF2⟩ := ih
    refine ⟨fun a x y w M r h => ?_, fun a x y w M r h => ?_, fun a x y w M r h => ?_⟩
    · rw [fXP] at h
      replace h := it_t h rfl
      exact ctX5_chain hB (lv := 6 + (d + 1)) (lw := 6 + d) (Nat.le_add_right _ _) (Nat.le_refl _) hF0 hF1 hF2 h
    · rw [fXP] at h
      replace h := it_f h (by decide)
      replace h := it_t h rfl
      exact ctX5_piece hB (lv := 6 + (d + 1)) (lw := 6 + d) (Nat.le_add_right _ _) (Nat.le_refl _) hF0 hF1 hF2 h
    · rw [fXP] at h
      replace h := it_f h (by decide)
      replace h := it_f h (by decide)
      exact ctX5_bracket hB (lv := 6 + (d + 1)) (lw := 6 + d) (Nat.le_add_right _ _) (Nat.le_refl _) hF0 hF1 hF2 h

theorem ctXP_0 {B : ctB} {n : Nat} (hB : ctOk B kdC lnC n) (d : Nat) : (∀ (a : Nat) (x y w : Int32) (M : ctM) (r : Int32 × ctM), fXP d 0 a x y w M = some r → ctC B mX5_chain (6 + d, 0, 0) [.ref a, .int x, .int y, .int w] n M (poI r n)) := (ctXP hB d).1

theorem ctXP_1 {B : ctB} {n : Nat} (hB : ctOk B kdC lnC n) (d : Nat) : (∀ (a : Nat) (x y w : Int32) (M : ctM) (r : Int32 × ctM), fXP d 1 a x y w M = some r → ctC B mX5_piece (6 + d, 0, 0) [.ref a, .int x, .int y] n M (poI r n)) := (ctXP hB d).2.1

theorem ctXP_2 {B : ctB} {n : Nat} (hB : ctOk B kdC lnC n) (d : Nat) : (∀ (a : Nat) (x y w : Int32) (M : ctM) (r : Int32 × ctM), fXP d 2 a x y w M = some r → ctC B mX5_bracket (6 + d, 0, 0) [.ref a, .int x, .int y] n M (poI r n)) := (ctXP hB d).2.2

def fX5_keyOfWord_b59 (k2 : Nat → Int32 → ctM → Option (Int32 × ctM)) (k24 : Nat → Int32 → Int32 → Int32 → ctM → Option (Int32 × ctM)) (a0 : Nat) (x1 : Int32) (x3 : Int32) (xs0 : Int32) (xs1 : Int32) (M : ctM) : Option (Int32 × ctM) :=
  k24 a0 x1 (xs0 + xs1) (x3 + 1) M

set_option maxHeartbeats 4000000 in
set_option maxRecDepth 20000 in
theorem vX5_keyOfWord_b59 {B : ctB} {n : Nat} (hB : ctOk B kdC lnC n) {k2 : Nat → Int32 → ctM → Option (Int32 × ctM)} {k24 : Nat → Int32 → Int32 → Int32 → ctM → Option (Int32 × ctM)} (hk2 : ∀ (a0 : Nat) (x1 : Int32) (M : ctM) (r : Int32 × ctM), k2 a0 x1 M = some r → ctV B mX5_keyOfWord (5, 0, 0) (poI r n) 2 [some (.ref a0), some (.int x1), none, none] [] (0, 0) n M) (hk24 : ∀ (a0 : Nat) (x1 : Int32) (x2 : Int32) (x3 : Int32) (M : ctM) (r : Int32 × ctM), k24 a0 x1 x2 x3 M = some r → ctV B mX5_keyOfWord (5, 0, 0) (poI r n) 24 [some (.ref a0), some (.int x1), some (.int x2), some (.int x3)] [] (0, 0) n M) : ∀ (a0 : Nat) (x1 : Int32) (x3 : Int32) (xs0 : Int32) (xs1 : Int32) (M : ctM) (r : Int32 × ctM), fX5_keyOfWord_b59 k2 k24 a0 x1 x3 xs0 xs1 M = some r → ctV B mX5_keyOfWord (5, 0, 0) (poI r n) 59 [some (.ref a0), some (.int x1), none, some (.int x3)] [.int xs1, .int xs0] (0, 0) n M := by
  intro a0 x1 x3 xs0 xs1 M r h
  unfold fX5_keyOfWord_b59 at h
  refine ct_iadd (q := 60) dX5_keyOfWord_59 rfl ?_
  refine ct_istore_2 (q := 61) dX5_keyOfWord_60 (by decide) rfl rfl ?_
  refine ct_iinc_3 (q := 64) (v := x3 + 1) dX5_keyOfWord_61 (by first | rfl | decide) (by decide) rfl rfl ?_
  refine ct_goto (q := 24) dX5_keyOfWord_64 (by decide) ?_
  exact ct_lessK (hk24 a0 x1 (xs0 + xs1) (x3 + 1) M r h) (And.intro rfl (And.intro rfl (And.intro rfl (And.intro rfl (trivial)))))

def fX5_keyOfWord_h24 (k2 : Nat → Int32 → ctM → Option (Int32 × ctM)) : Nat → Nat → Int32 → Int32 → Int32 → ctM → Option (Int32 × ctM)
  | 0, _, _, _, _, _ => none
  | N + 1, a0, x1, x2, x3, M =>
    if 4 ≤ x3 then
      if x2 = 4 then
        some (x1, M)
      else
        k2 a0 (x1 + 1) M
    else
      (gP kdC 5 0 a0 M).bind fun a23 =>
      (gI kdC 5 2 a0 M).bind fun x24 =>
      (aI kdC lnC 8 a23 (x24 + x3) M).bind fun x25 =>
      (chA 0 ((4 * x1) + x3)).bind fun x26 =>
      if x25 = x26 then
        fX5_keyOfWord_b59 k2 (fX5_keyOfWord_h24 k2 N) a0 x1 x3 x2 1 M
      else
        fX5_keyOfWord_b59 k2 (fX5_keyOfWord_h24 k2 N) a0 x1 x3 x2 0 M

set_option maxHeartbeats 4000000 in
set_option maxRecDepth 20000 in
theorem vX5_keyOfWord_h24 {B : ctB} {n : Nat} (hB : ctOk B kdC lnC n) {k2 : Nat → Int32 → ctM → Option (Int32 × ctM)} (hk2 : ∀ (a0 : Nat) (x1 : Int32) (M : ctM) (r : Int32 × ctM), k2 a0 x1 M = some r → ctV B mX5_keyOfWord (5, 0, 0) (poI r n) 2 [some (.ref a0), some (.int x1), none, none] [] (0, 0) n M) : ∀ (N : Nat) (a0 : Nat) (x1 : Int32) (x2 : Int32) (x3 : Int32) (M : ctM) (r : Int32 × ctM), fX5_keyOfWord_h24 k2 N a0 x1 x2 x3 M = some r → ctV B mX5_keyOfWord (5, 0, 0) (poI r n) 24 [some (.ref a0), some (.int x1), some (.int x2), some (.int x3)] [] (0, 0) n M := by
  intro N
  induction N with
  | zero => intro a0 x1 x2 x3 M r h; exact absurd h (by simp [fX5_keyOfWord_h24])
  | succ N ih =>
    intro a0 x1 x2 x3 M r h
    rw [fX5_keyOfWord_h24] at h
    refine ct_iload_3 (q := 25) dX5_keyOfWord_24 rfl ?_
    refine ct_iconst (v := 4) (q := 26) dX5_keyOfWord_25 (by decide) rfl ?_
    refine ct_icmp_ge (q := 29) (tgt := 67) dX5_keyOfWord_26 (by decide) rfl (fun z21 => ?_) (fun z21 => ?_)
    · replace h := it_t h z21
      refine ct_iload_2 (q := 68) dX5_keyOfWord_67 rfl ?_
      refine ct_iconst (v := 4) (q := 69) dX5_keyOfWord_68 (by decide) rfl ?_
      refine ct_icmp_ne (q := 72) (tgt := 74) dX5_keyOfWord_69 (by decide) rfl (fun z22 => ?_) (fun z22 => ?_)
      · replace h := it_f h z22
        refine ct_iinc_1 (q := 77) (v := x1 + 1) dX5_keyOfWord_74 (by first | rfl | decide) (by decide) rfl rfl ?_
        refine ct_goto (q := 2) dX5_keyOfWord_77 (by decide) ?_
        exact ct_lessK (hk2 a0 (x1 + 1) M r h) (And.intro rfl (And.intro rfl (trivial)))
      · replace h := it_t h z22
        refine ct_iload_1 (q := 73) dX5_keyOfWord_72 rfl ?_
        exact ct_iret dX5_keyOfWord_73 rfl ⟨Nat.le_refl 0, Nat.le_refl 0⟩ (poI_of h)
    · replace h := it_f h z21
      refine ct_iload_2 (q := 30) dX5_keyOfWord_29 rfl ?_
      refine ct_aload_0 (q := 31) dX5_keyOfWord_30 rfl ?_
      obtain ⟨a23, ga23, h⟩ := ob h
      refine ct_getP (q := 34) hB dX5_keyOfWord_31 fl_RX5_9 rfl ga23 rfl ?_
      refine ct_aload_0 (q := 35) dX5_keyOfWord_34 rfl ?_
      obtain ⟨x24, gx24, h⟩ := ob h
      refine ct_getI (q := 38) hB dX5_keyOfWord_35 fl_RX5_19 rfl gx24 rfl ?_
      refine ct_iload_3 (q := 39) dX5_keyOfWord_38 rfl ?_
      refine ct_iadd (q := 40) dX5_keyOfWord_39 rfl ?_
      obtain ⟨x25, gx25, h⟩ := ob h
      refine ct_bald (q := 41) hB dX5_keyOfWord_40 gx25 rfl ?_
      refine ct_ldcS (q := 43) (i := 0) (by decide) rfl dX5_keyOfWord_41 rfl ?_
      refine ct_iconst (v := 4) (q := 44) dX5_keyOfWord_43 (by decide) rfl ?_
      refine ct_iload_1 (q := 45) dX5_keyOfWord_44 rfl ?_
      refine ct_imul (q := 46) dX5_keyOfWord_45 rfl ?_
      refine ct_iload_3 (q := 47) dX5_keyOfWord_46 rfl ?_
      refine ct_iadd (q := 48) dX5_keyOfWord_47 rfl ?_
      obtain ⟨x26, gx26, h⟩ := ob h
      refine ct_charAt (q := 51) (by decide) dX5_keyOfWord_48 lk_RX5_66 (by decide) (Nat.le_of_ble_eq_true rfl) gx26 rfl ?_
      refine ct_icmp_ne (q := 54) (tgt := 58) dX5_keyOfWord_51 (by decide) rfl (fun z27 => ?_) (fun z27 => ?_)
      · replace h := it_f h z27
        refine ct_iconst (v := 0) (q := 59) dX5_keyOfWord_58 (by decide) rfl ?_
        exact ct_lessK (vX5_keyOfWord_b59 hB hk2 ih a0 x1 x3 x2 0 M r h) (And.intro rfl (And.intro rfl (And.intro rfl (trivial))))
      · replace h := it_t h z27
        refine ct_iconst (v := 1) (q := 55) dX5_keyOfWord_54 (by decide) rfl ?_
        refine ct_goto (q := 59) dX5_keyOfWord_55 (by decide) ?_
        exact ct_lessK (vX5_keyOfWord_b59 hB hk2 ih a0 x1 x3 x2 1 M r h) (And.intro rfl (And.intro rfl (And.intro rfl (trivial))))

def fX5_keyOfWord_h2 : Nat → Nat → Int32 → ctM → Option (Int32 × ctM)
  | 0, _, _, _ => none
  | N + 1, a0, x1, M =>
    if 3 ≤ x1 then
      some ((-1), M)
    else
      (gI kdC 5 3 a0 M).bind fun x22 =>
      (gI kdC 5 2 a0 M).bind fun x23 =>
      if (x22 - x23) = 4 then
        fX5_keyOfWord_h24 (fX5_keyOfWord_h2 N) 4000 a0 x1 0 0 M
      else
        some ((-1), M)

set_option maxHeartbeats 4000000 in
set_option maxRecDepth 20000 in
theorem vX5_keyOfWord_h2 {B : ctB} {n : Nat} (hB : ctOk B kdC lnC n) : ∀ (N : Nat) (a0 : Nat) (x1 : Int32) (M : ctM) (r : Int32 × ctM), fX5_keyOfWord_h2 N a0 x1 M = some r → ctV B mX5_keyOfWord (5, 0, 0) (poI r n) 2 [some (.ref a0), some (.int x1), none, none] [] (0, 0) n M := by
  intro N
  induction N with
  | zero => intro a0 x1 M r h; exact absurd h (by simp [fX5_keyOfWord_h2])
  | succ N ih =>
    intro a0 x1 M r h
    rw [fX5_keyOfWord_h2] at h
    refine ct_iload_1 (q := 3) dX5_keyOfWord_2 rfl ?_
    refine ct_iconst (v := 3) (q := 4) dX5_keyOfWord_3 (by decide) rfl ?_
    refine ct_icmp_ge (q := 7) (tgt := 80) dX5_keyOfWord_4 (by decide) rfl (fun z21 => ?_) (fun z21 => ?_)
    · replace h := it_t h z21
      refine ct_iconst (v := -1) (q := 81) dX5_keyOfWord_80 (by decide) rfl ?_
      exact ct_iret dX5_keyOfWord_81 rfl ⟨Nat.le_refl 0, Nat.le_refl 0⟩ (poI_of h)
    · replace h := it_f h z21
      refine ct_aload_0 (q := 8) dX5_keyOfWord_7 rfl ?_
      obtain ⟨x22, gx22, h⟩ := ob h
      refine ct_getI (q := 11) hB dX5_keyOfWord_8 fl_RX5_22 rfl gx22 rfl ?_
      refine ct_aload_0 (q := 12) dX5_keyOfWord_11 rfl ?_
      obtain ⟨x23, gx23, h⟩ := ob h
      refine ct_getI (q := 15) hB dX5_keyOfWord_12 fl_RX5_19 rfl gx23 rfl ?_
      refine ct_isub (q := 16) dX5_keyOfWord_15 rfl ?_
      refine ct_iconst (v := 4) (q := 17) dX5_keyOfWord_16 (by decide) rfl ?_
      refine ct_icmp_ne (q := 20) (tgt := 80) dX5_keyOfWord_17 (by decide) rfl (fun z24 => ?_) (fun z24 => ?_)
      · replace h := it_f h z24
        refine ct_iconst (v := -1) (q := 81) dX5_keyOfWord_80 (by decide) rfl ?_
        exact ct_iret dX5_keyOfWord_81 rfl ⟨Nat.le_refl 0, Nat.le_refl 0⟩ (poI_of h)
      · replace h := it_t h z24
        refine ct_iconst (v := 0) (q := 21) dX5_keyOfWord_20 (by decide) rfl ?_
        refine ct_istore_2 (q := 22) dX5_keyOfWord_21 (by decide) rfl rfl ?_
        refine ct_iconst (v := 0) (q := 23) dX5_keyOfWord_22 (by decide) rfl ?_
        refine ct_istore_3 (q := 24) dX5_keyOfWord_23 (by decide) rfl rfl ?_
        exact ct_lessK (vX5_keyOfWord_h24 hB ih 4000 a0 x1 0 0 M r h) (And.intro rfl (And.intro rfl (And.intro rfl (And.intro rfl (trivial)))))

def fX5_keyOfWord (a0 : Nat) (M : ctM) : Option (Int32 × ctM) :=
  fX5_keyOfWord_h2 4000 a0 0 M

set_option maxHeartbeats 4000000 in
set_option maxRecDepth 20000 in
theorem ctX5_keyOfWord {B : ctB} {n : Nat} (hB : ctOk B kdC lnC n) {a0 : Nat} {M : ctM} {r : Int32 × ctM} (h : fX5_keyOfWord a0 M = some r) : ctC B mX5_keyOfWord (5, 0, 0) [.ref a0] n M (poI r n) := by
  refine ctC_of (by decide) (Nat.le_of_ble_eq_true rfl) ?_
  show ctV B mX5_keyOfWord (5, 0, 0) (poI r n) 0 [some (.ref a0), none, none, none] [] (0, 0) n M
  unfold fX5_keyOfWord at h
  refine ct_iconst (v := 0) (q := 1) dX5_keyOfWord_0 (by decide) rfl ?_
  refine ct_istore_1 (q := 2) dX5_keyOfWord_1 (by decide) rfl rfl ?_
  exact ct_lessK (vX5_keyOfWord_h2 hB  4000 a0 0 M r h) (And.intro rfl (And.intro rfl (trivial)))

def fX5_faultOf_b83 (a0 : Nat) (M : ctM) : Option (Int32 × ctM) :=
  (gI kdC 5 5 a0 M).bind fun x21 =>
  some (x21, M)

set_option maxHeartbeats 4000000 in
set_option maxRecDepth 20000 in
theorem vX5_faultOf_b83 {B : ctB} {n : Nat} (hB : ctOk B kdC lnC n) : ∀ (a0 : Nat) (M : ctM) (r : Int32 × ctM), fX5_faultOf_b83 a0 M = some r → ctV B mX5_faultOf (127, 0, 0) (poI r n) 83 [some (.ref a0), none, none] [] (0, 0) n M := by
  intro a0 M r h
  unfold fX5_faultOf_b83 at h
  refine ct_aload_0 (q := 84) dX5_faultOf_83 rfl ?_
  obtain ⟨x21, gx21, h⟩ := ob h
  refine ct_getI (q := 87) hB dX5_faultOf_84 fl_RX5_28 rfl gx21 rfl ?_
  exact ct_iret dX5_faultOf_87 rfl ⟨Nat.le_refl 0, Nat.le_refl 0⟩ (poI_of h)

def fX5_faultOf_b36 (a0 : Nat) (xs0 : Int32) (M : ctM) : Option (Int32 × ctM) :=
  if 0 ≤ xs0 then
    (gP kdC 5 6 a0 M).bind fun a22 =>
    (cV kdC 1 a22 (fX1_begin a22 xs0 M)).bind fun r23 =>
    (cV kdC 5 a0 (fX5_advance a0 r23)).bind fun r24 =>
    (cV kdC 5 a0 (fXP 120 0 a0 0 0 0 r24)).bind fun r25 =>
    if r25.1 < 0 then
      fX5_faultOf_b83 a0 r25.2
    else
      (gI kdC 5 4 a0 r25.2).bind fun x27 =>
      if x27 = (-1) then
        fX5_faultOf_b83 a0 r25.2
      else
        (cV kdC 5 a0 (fX5_fail a0 r25.2)).bind fun r29 =>
        fX5_faultOf_b83 a0 r29.2
  else
    (gI kdC 5 2 a0 M).bind fun x30 =>
    some (x30, M)

set_option maxHeartbeats 4000000 in
set_option maxRecDepth 20000 in
theorem vX5_faultOf_b36 {B : ctB} {n : Nat} (hB : ctOk B kdC lnC n) : ∀ (a0 : Nat) (xs0 : Int32) (M : ctM) (r : Int32 × ctM), fX5_faultOf_b36 a0 xs0 M = some r → ctV B mX5_faultOf (127, 0, 0) (poI r n) 36 [some (.ref a0), none, none] [.int xs0] (0, 0) n M := by
  intro a0 xs0 M r h
  unfold fX5_faultOf_b36 at h
  refine ct_istore_1 (q := 37) dX5_faultOf_36 (by decide) rfl rfl ?_
  refine ct_iload_1 (q := 38) dX5_faultOf_37 rfl ?_
  refine ct_if_ge (q := 41) (tgt := 46) dX5_faultOf_38 (by decide) rfl (fun z21 => ?_) (fun z21 => ?_)
  · replace h := it_t h z21
    refine ct_aload_0 (q := 47) dX5_faultOf_46 rfl ?_
    obtain ⟨a22, ga22, h⟩ := ob h
    refine ct_getP (q := 50) hB dX5_faultOf_47 fl_RX5_34 rfl ga22 rfl ?_
    refine ct_iload_1 (q := 51) dX5_faultOf_50 rfl ?_
    obtain ⟨r23, gr23, h⟩ := ob h
    obtain ⟨er23, gr23⟩ := cV_spec gr23
    refine ct_cVv1 (q := 54) hB dX5_faultOf_51 lk_RX5_45 (by decide) (ctX1_begin hB gr23) er23 (by decide) rfl (Nat.le_of_ble_eq_true rfl) rfl ?_
    refine ct_aload_0 (q := 55) dX5_faultOf_54 rfl ?_
    obtain ⟨r24, gr24, h⟩ := ob h
    obtain ⟨er24, gr24⟩ := cV_spec gr24
    refine ct_cVv0 (q := 58) hB dX5_faultOf_55 lk_RX5_38 (by decide) (ctX5_advance hB gr24) er24 (by decide) rfl (Nat.le_of_ble_eq_true rfl) rfl ?_
    refine ct_aload_0 (q := 59) dX5_faultOf_58 rfl ?_
    refine ct_iconst (v := 0) (q := 60) dX5_faultOf_59 (by decide) rfl ?_
    refine ct_iconst (v := 0) (q := 61) dX5_faultOf_60 (by decide) rfl ?_
    refine ct_iconst (v := 0) (q := 62) dX5_faultOf_61 (by decide) rfl ?_
    obtain ⟨r25, gr25, h⟩ := ob h
    obtain ⟨er25, gr25⟩ := cV_spec gr25
    refine ct_cVi3 (q := 65) hB dX5_faultOf_62 lk_RX5_49 (by decide) (ctXP_0 hB _ _ _ _ _ _ _ gr25) er25 (by decide) rfl (Nat.le_of_ble_eq_true rfl) rfl ?_
    refine ct_istore_2 (q := 66) dX5_faultOf_65 (by decide) rfl rfl ?_
    refine ct_iload_2 (q := 67) dX5_faultOf_66 rfl ?_
    refine ct_if_lt (q := 70) (tgt := 83) dX5_faultOf_67 (by decide) rfl (fun z26 => ?_) (fun z26 => ?_)
    · replace h := it_t h z26
      exact ct_lessK (vX5_faultOf_b83 hB  a0 r25.2 r h) (And.intro rfl (trivial))
    · replace h := it_f h z26
      refine ct_aload_0 (q := 71) dX5_faultOf_70 rfl ?_
      obtain ⟨x27, gx27, h⟩ := ob h
      refine ct_getI (q := 74) hB dX5_faultOf_71 fl_RX5_25 rfl gx27 rfl ?_
      refine ct_iconst (v := -1) (q := 75) dX5_faultOf_74 (by decide) rfl ?_
      refine ct_icmp_eq (q := 78) (tgt := 83) dX5_faultOf_75 (by decide) rfl (fun z28 => ?_) (fun z28 => ?_)
      · replace h := it_t h z28
        exact ct_lessK (vX5_faultOf_b83 hB  a0 r25.2 r h) (And.intro rfl (trivial))
      · replace h := it_f h z28
        refine ct_aload_0 (q := 79) dX5_faultOf_78 rfl ?_
        obtain ⟨r29, gr29, h⟩ := ob h
        obtain ⟨er29, gr29⟩ := cV_spec gr29
        refine ct_cVi0 (q := 82) hB dX5_faultOf_79 lk_RX5_53 (by decide) (ctX5_fail hB gr29) er29 (by decide) rfl (Nat.le_of_ble_eq_true rfl) rfl ?_
        refine ct_pop (q := 83) dX5_faultOf_82 rfl rfl ?_
        exact ct_lessK (vX5_faultOf_b83 hB  a0 r29.2 r h) (And.intro rfl (trivial))
  · replace h := it_f h z21
    refine ct_aload_0 (q := 42) dX5_faultOf_41 rfl ?_
    obtain ⟨x30, gx30, h⟩ := ob h
    refine ct_getI (q := 45) hB dX5_faultOf_42 fl_RX5_19 rfl gx30 rfl ?_
    exact ct_iret dX5_faultOf_45 rfl ⟨Nat.le_refl 0, Nat.le_refl 0⟩ (poI_of h)

def fX5_faultOf (a0 : Nat) (M : ctM) : Option (Int32 × ctM) :=
  (pI kdC 5 3 a0 0 M).bind fun M21 =>
  (pI kdC 5 4 a0 (-1) M21).bind fun M22 =>
  (pI kdC 5 5 a0 (-1) M22).bind fun M23 =>
  (cV kdC 5 a0 (fX5_advance a0 M23)).bind fun r24 =>
  (gI kdC 5 4 a0 r24).bind fun x25 =>
  if x25 = (-2) then
    (cV kdC 5 a0 (fX5_keyOfWord a0 r24)).bind fun r27 =>
    fX5_faultOf_b36 a0 r27.1 r27.2
  else
    fX5_faultOf_b36 a0 (-1) r24

set_option maxHeartbeats 4000000 in
set_option maxRecDepth 20000 in
theorem ctX5_faultOf {B : ctB} {n : Nat} (hB : ctOk B kdC lnC n) {a0 : Nat} {M : ctM} {r : Int32 × ctM} (h : fX5_faultOf a0 M = some r) : ctC B mX5_faultOf (127, 0, 0) [.ref a0] n M (poI r n) := by
  refine ctC_of (by decide) (Nat.le_of_ble_eq_true rfl) ?_
  show ctV B mX5_faultOf (127, 0, 0) (poI r n) 0 [some (.ref a0), none, none] [] (0, 0) n M
  unfold fX5_faultOf at h
  refine ct_aload_0 (q := 1) dX5_faultOf_0 rfl ?_
  refine ct_iconst (v := 0) (q := 2) dX5_faultOf_1 (by decide) rfl ?_
  obtain ⟨M21, gM21, h⟩ := ob h
  refine ct_putI (q := 5) hB dX5_faultOf_2 fl_RX5_22 rfl rfl (Or.inl rfl) gM21 rfl ?_
  refine ct_aload_0 (q := 6) dX5_faultOf_5 rfl ?_
  refine ct_iconst (v := -1) (q := 7) dX5_faultOf_6 (by decide) rfl ?_
  obtain ⟨M22, gM22, h⟩ := ob h
  refine ct_putI (q := 10) hB dX5_faultOf_7 fl_RX5_25 rfl rfl (Or.inl rfl) gM22 rfl ?_
  refine ct_aload_0 (q := 11) dX5_faultOf_10 rfl ?_
  refine ct_iconst (v := -1) (q := 12) dX5_faultOf_11 (by decide) rfl ?_
  obtain ⟨M23, gM23, h⟩ := ob h
  refine ct_putI (q := 15) hB dX5_faultOf_12 fl_RX5_28 rfl rfl (Or.inl rfl) gM23 rfl ?_
  refine ct_aload_0 (q := 16) dX5_faultOf_15 rfl ?_
  obtain ⟨r24, gr24, h⟩ := ob h
  obtain ⟨er24, gr24⟩ := cV_spec gr24
  refine ct_cVv0 (q := 19) hB dX5_faultOf_16 lk_RX5_38 (by decide) (ctX5_advance hB gr24) er24 (by decide) rfl (Nat.le_of_ble_eq_true rfl) rfl ?_
  refine ct_aload_0 (q := 20) dX5_faultOf_19 rfl ?_
  obtain ⟨x25, gx25, h⟩ := ob h
  refine ct_getI (q := 23) hB dX5_faultOf_20 fl_RX5_25 rfl gx25 rfl ?_
  refine ct_bipush (v := -2) (q := 25) dX5_faultOf_23 (by decide) rfl ?_
  refine ct_icmp_ne (q := 28) (tgt := 35) dX5_faultOf_25 (by decide) rfl (fun z26 => ?_) (fun z26 => ?_)
  · replace h := it_f h z26
    refine ct_iconst (v := -1) (q := 36) dX5_faultOf_35 (by decide) rfl ?_
    exact ct_lessK (vX5_faultOf_b36 hB  a0 (-1) r24 r h) (And.intro rfl (trivial))
  · replace h := it_t h z26
    refine ct_aload_0 (q := 29) dX5_faultOf_28 rfl ?_
    obtain ⟨r27, gr27, h⟩ := ob h
    obtain ⟨er27, gr27⟩ := cV_spec gr27
    refine ct_cVi0 (q := 32) hB dX5_faultOf_29 lk_RX5_41 (by decide) (ctX5_keyOfWord hB gr27) er27 (by decide) rfl (Nat.le_of_ble_eq_true rfl) rfl ?_
    refine ct_goto (q := 36) dX5_faultOf_32 (by decide) ?_
    exact ct_lessK (vX5_faultOf_b36 hB  a0 r27.1 r27.2 r h) (And.intro rfl (trivial))

