def fX0_light (a0 : Nat) (x1 : Int32) (x2 : Int32) (x3 : Int32) (x4 : Int32) (M : ctM) : Option (ctM) :=
  (pI kdC 0 0 a0 x1 M).bind fun M21 =>
  (pI kdC 0 1 a0 x2 M21).bind fun M22 =>
  (pI kdC 0 2 a0 x3 M22).bind fun M23 =>
  (pI kdC 0 3 a0 x4 M23).bind fun M24 =>
  (pI kdC 0 4 a0 0 M24).bind fun M25 =>
  (pI kdC 0 5 a0 999 M25).bind fun M26 =>
  (pI kdC 0 6 a0 0 M26).bind fun M27 =>
  some M27

set_option maxHeartbeats 4000000 in
set_option maxRecDepth 20000 in
theorem ctX0_light {B : ctB} {n : Nat} (hB : ctOk B kdC lnC n) {a0 : Nat} {x1 : Int32} {x2 : Int32} {x3 : Int32} {x4 : Int32} {M : ctM} {r : ctM} (h : fX0_light a0 x1 x2 x3 x4 M = some r) : ctC B mX0_light (0, 0, 0) [.ref a0, .int x1, .int x2, .int x3, .int x4] n M (poV r n) := by
  refine ctC_of (by decide) (Nat.le_of_ble_eq_true rfl) ?_
  show ctV B mX0_light (0, 0, 0) (poV r n) 0 [some (.ref a0), some (.int x1), some (.int x2), some (.int x3), some (.int x4)] [] (0, 0) n M
  unfold fX0_light at h
  refine ct_aload_0 (q := 1) dX0_light_0 rfl ?_
  refine ct_iload_1 (q := 2) dX0_light_1 rfl ?_
  obtain ⟨M21, gM21, h⟩ := ob h
  refine ct_putI (q := 5) hB dX0_light_2 fl_RX0_9 rfl rfl (Or.inl rfl) gM21 rfl ?_
  refine ct_aload_0 (q := 6) dX0_light_5 rfl ?_
  refine ct_iload_2 (q := 7) dX0_light_6 rfl ?_
  obtain ⟨M22, gM22, h⟩ := ob h
  refine ct_putI (q := 10) hB dX0_light_7 fl_RX0_15 rfl rfl (Or.inl rfl) gM22 rfl ?_
  refine ct_aload_0 (q := 11) dX0_light_10 rfl ?_
  refine ct_iload_3 (q := 12) dX0_light_11 rfl ?_
  obtain ⟨M23, gM23, h⟩ := ob h
  refine ct_putI (q := 15) hB dX0_light_12 fl_RX0_18 rfl rfl (Or.inl rfl) gM23 rfl ?_
  refine ct_aload_0 (q := 16) dX0_light_15 rfl ?_
  refine ct_iload_4 (q := 18) dX0_light_16 rfl ?_
  obtain ⟨M24, gM24, h⟩ := ob h
  refine ct_putI (q := 21) hB dX0_light_18 fl_RX0_21 rfl rfl (Or.inl rfl) gM24 rfl ?_
  refine ct_aload_0 (q := 22) dX0_light_21 rfl ?_
  refine ct_iconst (v := 0) (q := 23) dX0_light_22 (by decide) rfl ?_
  obtain ⟨M25, gM25, h⟩ := ob h
  refine ct_putI (q := 26) hB dX0_light_23 fl_RX0_24 rfl rfl (Or.inl rfl) gM25 rfl ?_
  refine ct_aload_0 (q := 27) dX0_light_26 rfl ?_
  refine ct_sipush (v := 999) (q := 30) dX0_light_27 (by decide) rfl ?_
  obtain ⟨M26, gM26, h⟩ := ob h
  refine ct_putI (q := 33) hB dX0_light_30 fl_RX0_27 rfl rfl (Or.inl rfl) gM26 rfl ?_
  refine ct_aload_0 (q := 34) dX0_light_33 rfl ?_
  refine ct_iconst (v := 0) (q := 35) dX0_light_34 (by decide) rfl ?_
  obtain ⟨M27, gM27, h⟩ := ob h
  refine ct_putI (q := 38) hB dX0_light_35 fl_RX0_30 rfl rfl (Or.inl rfl) gM27 rfl ?_
  exact ct_vret dX0_light_38 rfl ⟨Nat.le_refl 0, Nat.le_refl 0⟩ (poV_of h)

def fX0_become (a0 : Nat) (a1 : Nat) (M : ctM) : Option (ctM) :=
  (gI kdC 0 0 a1 M).bind fun x21 =>
  (pI kdC 0 0 a0 x21 M).bind fun M22 =>
  (gI kdC 0 1 a1 M22).bind fun x23 =>
  (pI kdC 0 1 a0 x23 M22).bind fun M24 =>
  (gI kdC 0 2 a1 M24).bind fun x25 =>
  (pI kdC 0 2 a0 x25 M24).bind fun M26 =>
  (gI kdC 0 3 a1 M26).bind fun x27 =>
  (pI kdC 0 3 a0 x27 M26).bind fun M28 =>
  (gI kdC 0 4 a1 M28).bind fun x29 =>
  (pI kdC 0 4 a0 x29 M28).bind fun M30 =>
  (gI kdC 0 5 a1 M30).bind fun x31 =>
  (pI kdC 0 5 a0 x31 M30).bind fun M32 =>
  (gI kdC 0 6 a1 M32).bind fun x33 =>
  (pI kdC 0 6 a0 x33 M32).bind fun M34 =>
  some M34

set_option maxHeartbeats 4000000 in
set_option maxRecDepth 20000 in
theorem ctX0_become {B : ctB} {n : Nat} (hB : ctOk B kdC lnC n) {a0 : Nat} {a1 : Nat} {M : ctM} {r : ctM} (h : fX0_become a0 a1 M = some r) : ctC B mX0_become (0, 0, 0) [.ref a0, .ref a1] n M (poV r n) := by
  refine ctC_of (by decide) (Nat.le_of_ble_eq_true rfl) ?_
  show ctV B mX0_become (0, 0, 0) (poV r n) 0 [some (.ref a0), some (.ref a1)] [] (0, 0) n M
  unfold fX0_become at h
  refine ct_aload_0 (q := 1) dX0_become_0 rfl ?_
  refine ct_aload_1 (q := 2) dX0_become_1 rfl ?_
  obtain ⟨x21, gx21, h⟩ := ob h
  refine ct_getI (q := 5) hB dX0_become_2 fl_RX0_9 rfl gx21 rfl ?_
  obtain ⟨M22, gM22, h⟩ := ob h
  refine ct_putI (q := 8) hB dX0_become_5 fl_RX0_9 rfl rfl (Or.inl rfl) gM22 rfl ?_
  refine ct_aload_0 (q := 9) dX0_become_8 rfl ?_
  refine ct_aload_1 (q := 10) dX0_become_9 rfl ?_
  obtain ⟨x23, gx23, h⟩ := ob h
  refine ct_getI (q := 13) hB dX0_become_10 fl_RX0_15 rfl gx23 rfl ?_
  obtain ⟨M24, gM24, h⟩ := ob h
  refine ct_putI (q := 16) hB dX0_become_13 fl_RX0_15 rfl rfl (Or.inl rfl) gM24 rfl ?_
  refine ct_aload_0 (q := 17) dX0_become_16 rfl ?_
  refine ct_aload_1 (q := 18) dX0_become_17 rfl ?_
  obtain ⟨x25, gx25, h⟩ := ob h
  refine ct_getI (q := 21) hB dX0_become_18 fl_RX0_18 rfl gx25 rfl ?_
  obtain ⟨M26, gM26, h⟩ := ob h
  refine ct_putI (q := 24) hB dX0_become_21 fl_RX0_18 rfl rfl (Or.inl rfl) gM26 rfl ?_
  refine ct_aload_0 (q := 25) dX0_become_24 rfl ?_
  refine ct_aload_1 (q := 26) dX0_become_25 rfl ?_
  obtain ⟨x27, gx27, h⟩ := ob h
  refine ct_getI (q := 29) hB dX0_become_26 fl_RX0_21 rfl gx27 rfl ?_
  obtain ⟨M28, gM28, h⟩ := ob h
  refine ct_putI (q := 32) hB dX0_become_29 fl_RX0_21 rfl rfl (Or.inl rfl) gM28 rfl ?_
  refine ct_aload_0 (q := 33) dX0_become_32 rfl ?_
  refine ct_aload_1 (q := 34) dX0_become_33 rfl ?_
  obtain ⟨x29, gx29, h⟩ := ob h
  refine ct_getI (q := 37) hB dX0_become_34 fl_RX0_24 rfl gx29 rfl ?_
  obtain ⟨M30, gM30, h⟩ := ob h
  refine ct_putI (q := 40) hB dX0_become_37 fl_RX0_24 rfl rfl (Or.inl rfl) gM30 rfl ?_
  refine ct_aload_0 (q := 41) dX0_become_40 rfl ?_
  refine ct_aload_1 (q := 42) dX0_become_41 rfl ?_
  obtain ⟨x31, gx31, h⟩ := ob h
  refine ct_getI (q := 45) hB dX0_become_42 fl_RX0_27 rfl gx31 rfl ?_
  obtain ⟨M32, gM32, h⟩ := ob h
  refine ct_putI (q := 48) hB dX0_become_45 fl_RX0_27 rfl rfl (Or.inl rfl) gM32 rfl ?_
  refine ct_aload_0 (q := 49) dX0_become_48 rfl ?_
  refine ct_aload_1 (q := 50) dX0_become_49 rfl ?_
  obtain ⟨x33, gx33, h⟩ := ob h
  refine ct_getI (q := 53) hB dX0_become_50 fl_RX0_30 rfl gx33 rfl ?_
  obtain ⟨M34, gM34, h⟩ := ob h
  refine ct_putI (q := 56) hB dX0_become_53 fl_RX0_30 rfl rfl (Or.inl rfl) gM34 rfl ?_
  exact ct_vret dX0_become_56 rfl ⟨Nat.le_refl 0, Nat.le_refl 0⟩ (poV_of h)

def fX0_isLit (a0 : Nat) (M : ctM) : Option (Int32 × ctM) :=
  (gI kdC 0 5 a0 M).bind fun x21 =>
  if x21 ≤ 0 then
    some (0, M)
  else
    some (1, M)

set_option maxHeartbeats 4000000 in
set_option maxRecDepth 20000 in
theorem ctX0_isLit {B : ctB} {n : Nat} (hB : ctOk B kdC lnC n) {a0 : Nat} {M : ctM} {r : Int32 × ctM} (h : fX0_isLit a0 M = some r) : ctC B mX0_isLit (0, 0, 0) [.ref a0] n M (poI r n) := by
  refine ctC_of (by decide) (Nat.le_of_ble_eq_true rfl) ?_
  show ctV B mX0_isLit (0, 0, 0) (poI r n) 0 [some (.ref a0)] [] (0, 0) n M
  unfold fX0_isLit at h
  refine ct_aload_0 (q := 1) dX0_isLit_0 rfl ?_
  obtain ⟨x21, gx21, h⟩ := ob h
  refine ct_getI (q := 4) hB dX0_isLit_1 fl_RX0_27 rfl gx21 rfl ?_
  refine ct_if_le (q := 7) (tgt := 11) dX0_isLit_4 (by decide) rfl (fun z22 => ?_) (fun z22 => ?_)
  · replace h := it_t h z22
    refine ct_iconst (v := 0) (q := 12) dX0_isLit_11 (by decide) rfl ?_
    exact ct_zret dX0_isLit_12 rfl (by decide) ⟨Nat.le_refl 0, Nat.le_refl 0⟩ (poI_of h)
  · replace h := it_f h z22
    refine ct_iconst (v := 1) (q := 8) dX0_isLit_7 (by decide) rfl ?_
    refine ct_goto (q := 12) dX0_isLit_8 (by decide) ?_
    exact ct_zret dX0_isLit_12 rfl (by decide) ⟨Nat.le_refl 0, Nat.le_refl 0⟩ (poI_of h)

def fX0_isOf_b38 (M : ctM) : Option (Int32 × ctM) :=
  some (1, M)

set_option maxHeartbeats 4000000 in
set_option maxRecDepth 20000 in
theorem vX0_isOf_b38 {B : ctB} {n : Nat} (hB : ctOk B kdC lnC n) : ∀  (M : ctM) (r : Int32 × ctM), fX0_isOf_b38  M = some r → ctV B mX0_isOf (0, 0, 0) (poI r n) 38 [none, none] [] (0, 0) n M := by
  intro  M r h
  unfold fX0_isOf_b38 at h
  refine ct_iconst (v := 1) (q := 39) dX0_isOf_38 (by decide) rfl ?_
  refine ct_goto (q := 43) dX0_isOf_39 (by decide) ?_
  exact ct_zret dX0_isOf_43 rfl (by decide) ⟨Nat.le_refl 0, Nat.le_refl 0⟩ (poI_of h)

def fX0_isOf_b25 (a0 : Nat) (x1 : Int32) (M : ctM) : Option (Int32 × ctM) :=
  if x1 = 2 then
    (gI kdC 0 0 a0 M).bind fun x22 =>
    if x22 = 4 then
      fX0_isOf_b38 M
    else
      some (0, M)
  else
    some (0, M)

set_option maxHeartbeats 4000000 in
set_option maxRecDepth 20000 in
theorem vX0_isOf_b25 {B : ctB} {n : Nat} (hB : ctOk B kdC lnC n) : ∀ (a0 : Nat) (x1 : Int32) (M : ctM) (r : Int32 × ctM), fX0_isOf_b25 a0 x1 M = some r → ctV B mX0_isOf (0, 0, 0) (poI r n) 25 [some (.ref a0), some (.int x1)] [] (0, 0) n M := by
  intro a0 x1 M r h
  unfold fX0_isOf_b25 at h
  refine ct_iload_1 (q := 26) dX0_isOf_25 rfl ?_
  refine ct_iconst (v := 2) (q := 27) dX0_isOf_26 (by decide) rfl ?_
  refine ct_icmp_ne (q := 30) (tgt := 42) dX0_isOf_27 (by decide) rfl (fun z21 => ?_) (fun z21 => ?_)
  · replace h := it_f h z21
    refine ct_iconst (v := 0) (q := 43) dX0_isOf_42 (by decide) rfl ?_
    exact ct_zret dX0_isOf_43 rfl (by decide) ⟨Nat.le_refl 0, Nat.le_refl 0⟩ (poI_of h)
  · replace h := it_t h z21
    refine ct_aload_0 (q := 31) dX0_isOf_30 rfl ?_
    obtain ⟨x22, gx22, h⟩ := ob h
    refine ct_getI (q := 34) hB dX0_isOf_31 fl_RX0_9 rfl gx22 rfl ?_
    refine ct_iconst (v := 4) (q := 35) dX0_isOf_34 (by decide) rfl ?_
    refine ct_icmp_ne (q := 38) (tgt := 42) dX0_isOf_35 (by decide) rfl (fun z23 => ?_) (fun z23 => ?_)
    · replace h := it_f h z23
      refine ct_iconst (v := 0) (q := 43) dX0_isOf_42 (by decide) rfl ?_
      exact ct_zret dX0_isOf_43 rfl (by decide) ⟨Nat.le_refl 0, Nat.le_refl 0⟩ (poI_of h)
    · replace h := it_t h z23
      exact ct_lessK (vX0_isOf_b38 hB   M r h) (trivial)

def fX0_isOf (a0 : Nat) (x1 : Int32) (M : ctM) : Option (Int32 × ctM) :=
  if x1 = 0 then
    fX0_isOf_b38 M
  else
    (gI kdC 0 0 a0 M).bind fun x22 =>
    if x1 = x22 then
      fX0_isOf_b38 M
    else
      if x1 = 1 then
        (gI kdC 0 0 a0 M).bind fun x25 =>
        if x25 = 3 then
          fX0_isOf_b38 M
        else
          fX0_isOf_b25 a0 x1 M
      else
        fX0_isOf_b25 a0 x1 M

set_option maxHeartbeats 4000000 in
set_option maxRecDepth 20000 in
theorem ctX0_isOf {B : ctB} {n : Nat} (hB : ctOk B kdC lnC n) {a0 : Nat} {x1 : Int32} {M : ctM} {r : Int32 × ctM} (h : fX0_isOf a0 x1 M = some r) : ctC B mX0_isOf (0, 0, 0) [.ref a0, .int x1] n M (poI r n) := by
  refine ctC_of (by decide) (Nat.le_of_ble_eq_true rfl) ?_
  show ctV B mX0_isOf (0, 0, 0) (poI r n) 0 [some (.ref a0), some (.int x1)] [] (0, 0) n M
  unfold fX0_isOf at h
  refine ct_iload_1 (q := 1) dX0_isOf_0 rfl ?_
  refine ct_if_eq (q := 4) (tgt := 38) dX0_isOf_1 (by decide) rfl (fun z21 => ?_) (fun z21 => ?_)
  · replace h := it_t h z21
    exact ct_lessK (vX0_isOf_b38 hB   M r h) (trivial)
  · replace h := it_f h z21
    refine ct_iload_1 (q := 5) dX0_isOf_4 rfl ?_
    refine ct_aload_0 (q := 6) dX0_isOf_5 rfl ?_
    obtain ⟨x22, gx22, h⟩ := ob h
    refine ct_getI (q := 9) hB dX0_isOf_6 fl_RX0_9 rfl gx22 rfl ?_
    refine ct_icmp_eq (q := 12) (tgt := 38) dX0_isOf_9 (by decide) rfl (fun z23 => ?_) (fun z23 => ?_)
    · replace h := it_t h z23
      exact ct_lessK (vX0_isOf_b38 hB   M r h) (trivial)
    · replace h := it_f h z23
      refine ct_iload_1 (q := 13) dX0_isOf_12 rfl ?_
      refine ct_iconst (v := 1) (q := 14) dX0_isOf_13 (by decide) rfl ?_
      refine ct_icmp_ne (q := 17) (tgt := 25) dX0_isOf_14 (by decide) rfl (fun z24 => ?_) (fun z24 => ?_)
      · replace h := it_f h z24
        exact ct_lessK (vX0_isOf_b25 hB  a0 x1 M r h) (And.intro rfl (And.intro rfl (trivial)))
      · replace h := it_t h z24
        refine ct_aload_0 (q := 18) dX0_isOf_17 rfl ?_
        obtain ⟨x25, gx25, h⟩ := ob h
        refine ct_getI (q := 21) hB dX0_isOf_18 fl_RX0_9 rfl gx25 rfl ?_
        refine ct_iconst (v := 3) (q := 22) dX0_isOf_21 (by decide) rfl ?_
        refine ct_icmp_eq (q := 25) (tgt := 38) dX0_isOf_22 (by decide) rfl (fun z26 => ?_) (fun z26 => ?_)
        · replace h := it_t h z26
          exact ct_lessK (vX0_isOf_b38 hB   M r h) (trivial)
        · replace h := it_f h z26
          exact ct_lessK (vX0_isOf_b25 hB  a0 x1 M r h) (And.intro rfl (And.intro rfl (trivial)))

def fX0_wayTo (a0 : Nat) (x1 : Int32) (x2 : Int32) (M : ctM) : Option (Int32 × ctM) :=
  (gI kdC 0 1 a0 M).bind fun x21 =>
  (gI kdC 0 2 a0 M).bind fun x22 =>
  some (((if 0 ≤ (x21 - x1) then (x21 - x1) else 0 - (x21 - x1)) + (if 0 ≤ (x22 - x2) then (x22 - x2) else 0 - (x22 - x2))), M)

set_option maxHeartbeats 4000000 in
set_option maxRecDepth 20000 in
theorem ctX0_wayTo {B : ctB} {n : Nat} (hB : ctOk B kdC lnC n) {a0 : Nat} {x1 : Int32} {x2 : Int32} {M : ctM} {r : Int32 × ctM} (h : fX0_wayTo a0 x1 x2 M = some r) : ctC B mX0_wayTo (1, 0, 0) [.ref a0, .int x1, .int x2] n M (poI r n) := by
  refine ctC_of (by decide) (Nat.le_of_ble_eq_true rfl) ?_
  show ctV B mX0_wayTo (1, 0, 0) (poI r n) 0 [some (.ref a0), some (.int x1), some (.int x2)] [] (0, 0) n M
  unfold fX0_wayTo at h
  refine ct_aload_0 (q := 1) dX0_wayTo_0 rfl ?_
  obtain ⟨x21, gx21, h⟩ := ob h
  refine ct_getI (q := 4) hB dX0_wayTo_1 fl_RX0_15 rfl gx21 rfl ?_
  refine ct_iload_1 (q := 5) dX0_wayTo_4 rfl ?_
  refine ct_isub (q := 6) dX0_wayTo_5 rfl ?_
  refine ct_abs (q := 9) dX0_wayTo_6 ma_RX0_33 (by decide) (Nat.le_of_ble_eq_true rfl) ⟨Nat.le_refl 0, Nat.le_refl 0⟩ rfl ?_
  refine ct_aload_0 (q := 10) dX0_wayTo_9 rfl ?_
  obtain ⟨x22, gx22, h⟩ := ob h
  refine ct_getI (q := 13) hB dX0_wayTo_10 fl_RX0_18 rfl gx22 rfl ?_
  refine ct_iload_2 (q := 14) dX0_wayTo_13 rfl ?_
  refine ct_isub (q := 15) dX0_wayTo_14 rfl ?_
  refine ct_abs (q := 18) dX0_wayTo_15 ma_RX0_33 (by decide) (Nat.le_of_ble_eq_true rfl) ⟨Nat.le_refl 0, Nat.le_refl 0⟩ rfl ?_
  refine ct_iadd (q := 19) dX0_wayTo_18 rfl ?_
  exact ct_iret dX0_wayTo_19 rfl ⟨Nat.le_refl 0, Nat.le_refl 0⟩ (poI_of h)

def fX0_paceFrom (a0 : Nat) (x1 : Int32) (M : ctM) : Option (Int32 × ctM) :=
  (gI kdC 0 0 a0 M).bind fun x21 =>
  if x21 = 1 then
    some ((x1 + 1), M)
  else
  if x21 = 2 then
    some ((x1 / 2), M)
  else
  if x21 = 3 then
    some ((2 * (x1 + 1)), M)
  else
  if x21 = 4 then
    some (0, M)
  else
  if x21 = 5 then
    some ((x1 + 2), M)
  else
    some (x1, M)

set_option maxHeartbeats 4000000 in
set_option maxRecDepth 20000 in
theorem ctX0_paceFrom {B : ctB} {n : Nat} (hB : ctOk B kdC lnC n) {a0 : Nat} {x1 : Int32} {M : ctM} {r : Int32 × ctM} (h : fX0_paceFrom a0 x1 M = some r) : ctC B mX0_paceFrom (0, 0, 0) [.ref a0, .int x1] n M (poI r n) := by
  refine ctC_of (by decide) (Nat.le_of_ble_eq_true rfl) ?_
  show ctV B mX0_paceFrom (0, 0, 0) (poI r n) 0 [some (.ref a0), some (.int x1)] [] (0, 0) n M
  unfold fX0_paceFrom at h
  refine ct_aload_0 (q := 1) dX0_paceFrom_0 rfl ?_
  obtain ⟨x21, gx21, h⟩ := ob h
  refine ct_getI (q := 4) hB dX0_paceFrom_1 fl_RX0_9 rfl gx21 rfl ?_
  by_cases z22 : x21 = 1
  · replace h := it_t h z22
    refine ct_tsw (q := 40) 1 z22 dX0_paceFrom_4 (by decide) (by decide) rfl (by decide) ?_
    refine ct_iload_1 (q := 41) dX0_paceFrom_40 rfl ?_
    refine ct_iconst (v := 1) (q := 42) dX0_paceFrom_41 (by decide) rfl ?_
    refine ct_iadd (q := 43) dX0_paceFrom_42 rfl ?_
    exact ct_iret dX0_paceFrom_43 rfl ⟨Nat.le_refl 0, Nat.le_refl 0⟩ (poI_of h)
  replace h := it_f h z22
  by_cases z23 : x21 = 2
  · replace h := it_t h z23
    refine ct_tsw (q := 50) 2 z23 dX0_paceFrom_4 (by decide) (by decide) rfl (by decide) ?_
    refine ct_iload_1 (q := 51) dX0_paceFrom_50 rfl ?_
    refine ct_iconst (v := 2) (q := 52) dX0_paceFrom_51 (by decide) rfl ?_
    refine ct_idiv (q := 53) dX0_paceFrom_52 (by decide) rfl ?_
    exact ct_iret dX0_paceFrom_53 rfl ⟨Nat.le_refl 0, Nat.le_refl 0⟩ (poI_of h)
  replace h := it_f h z23
  by_cases z24 : x21 = 3
  · replace h := it_t h z24
    refine ct_tsw (q := 44) 3 z24 dX0_paceFrom_4 (by decide) (by decide) rfl (by decide) ?_
    refine ct_iconst (v := 2) (q := 45) dX0_paceFrom_44 (by decide) rfl ?_
    refine ct_iload_1 (q := 46) dX0_paceFrom_45 rfl ?_
    refine ct_iconst (v := 1) (q := 47) dX0_paceFrom_46 (by decide) rfl ?_
    refine ct_iadd (q := 48) dX0_paceFrom_47 rfl ?_
    refine ct_imul (q := 49) dX0_paceFrom_48 rfl ?_
    exact ct_iret dX0_paceFrom_49 rfl ⟨Nat.le_refl 0, Nat.le_refl 0⟩ (poI_of h)
  replace h := it_f h z24
  by_cases z25 : x21 = 4
  · replace h := it_t h z25
    refine ct_tsw (q := 54) 4 z25 dX0_paceFrom_4 (by decide) (by decide) rfl (by decide) ?_
    refine ct_iconst (v := 0) (q := 55) dX0_paceFrom_54 (by decide) rfl ?_
    exact ct_iret dX0_paceFrom_55 rfl ⟨Nat.le_refl 0, Nat.le_refl 0⟩ (poI_of h)
  replace h := it_f h z25
  by_cases z26 : x21 = 5
  · replace h := it_t h z26
    refine ct_tsw (q := 56) 5 z26 dX0_paceFrom_4 (by decide) (by decide) rfl (by decide) ?_
    refine ct_iload_1 (q := 57) dX0_paceFrom_56 rfl ?_
    refine ct_iconst (v := 2) (q := 58) dX0_paceFrom_57 (by decide) rfl ?_
    refine ct_iadd (q := 59) dX0_paceFrom_58 rfl ?_
    exact ct_iret dX0_paceFrom_59 rfl ⟨Nat.le_refl 0, Nat.le_refl 0⟩ (poI_of h)
  replace h := it_f h z26
  refine ct_tswD (q := 60) dX0_paceFrom_4 (by have := And.intro (lv_neT z22 (show Int32.toInt (1) = 1 by decide)) trivial; have y0 := lv_neT z22 (show Int32.toInt (1) = 1 by decide); have y1 := lv_neT z23 (show Int32.toInt (2) = 2 by decide); have y2 := lv_neT z24 (show Int32.toInt (3) = 3 by decide); have y3 := lv_neT z25 (show Int32.toInt (4) = 4 by decide); have y4 := lv_neT z26 (show Int32.toInt (5) = 5 by decide); omega) (by decide) ?_
  refine ct_iload_1 (q := 61) dX0_paceFrom_60 rfl ?_
  exact ct_iret dX0_paceFrom_61 rfl ⟨Nat.le_refl 0, Nat.le_refl 0⟩ (poI_of h)

def fX6_isWithin (x0 : Int32) (x1 : Int32) (x2 : Int32) (M : ctM) : Option (Int32 × ctM) :=
  if x0 < x1 then
    some (0, M)
  else
    if x2 < x0 then
      some (0, M)
    else
      some (1, M)

set_option maxHeartbeats 4000000 in
set_option maxRecDepth 20000 in
theorem ctX6_isWithin {B : ctB} {n : Nat} (hB : ctOk B kdC lnC n) {x0 : Int32} {x1 : Int32} {x2 : Int32} {M : ctM} {r : Int32 × ctM} (h : fX6_isWithin x0 x1 x2 M = some r) : ctC B mX6_isWithin (0, 0, 0) [.int x0, .int x1, .int x2] n M (poI r n) := by
  refine ctC_of (by decide) (Nat.le_of_ble_eq_true rfl) ?_
  show ctV B mX6_isWithin (0, 0, 0) (poI r n) 0 [some (.int x0), some (.int x1), some (.int x2)] [] (0, 0) n M
  unfold fX6_isWithin at h
  refine ct_iload_0 (q := 1) dX6_isWithin_0 rfl ?_
  refine ct_iload_1 (q := 2) dX6_isWithin_1 rfl ?_
  refine ct_icmp_lt (q := 5) (tgt := 14) dX6_isWithin_2 (by decide) rfl (fun z21 => ?_) (fun z21 => ?_)
  · replace h := it_t h z21
    refine ct_iconst (v := 0) (q := 15) dX6_isWithin_14 (by decide) rfl ?_
    exact ct_zret dX6_isWithin_15 rfl (by decide) ⟨Nat.le_refl 0, Nat.le_refl 0⟩ (poI_of h)
  · replace h := it_f h z21
    refine ct_iload_0 (q := 6) dX6_isWithin_5 rfl ?_
    refine ct_iload_2 (q := 7) dX6_isWithin_6 rfl ?_
    refine ct_icmp_gt (q := 10) (tgt := 14) dX6_isWithin_7 (by decide) rfl (fun z22 => ?_) (fun z22 => ?_)
    · replace h := it_t h z22
      refine ct_iconst (v := 0) (q := 15) dX6_isWithin_14 (by decide) rfl ?_
      exact ct_zret dX6_isWithin_15 rfl (by decide) ⟨Nat.le_refl 0, Nat.le_refl 0⟩ (poI_of h)
    · replace h := it_f h z22
      refine ct_iconst (v := 1) (q := 11) dX6_isWithin_10 (by decide) rfl ?_
      refine ct_goto (q := 15) dX6_isWithin_11 (by decide) ?_
      exact ct_zret dX6_isWithin_15 rfl (by decide) ⟨Nat.le_refl 0, Nat.le_refl 0⟩ (poI_of h)

def fX0_turnedFrom (a0 : Nat) (x1 : Int32) (x2 : Int32) (M : ctM) : Option (Int32 × ctM) :=
  (gI kdC 0 0 a0 M).bind fun x21 =>
  if x21 = 1 then
    some ((2 * x1), M)
  else
  if x21 = 2 then
    some ((-x1), M)
  else
  if x21 = 3 then
    some (((2 * x1) + 3), M)
  else
  if x21 = 4 then
    (fX6_isWithin x1 (-4) 4 M).bind fun r26 =>
    if r26.1 = 0 then
      some ((-x1), r26.2)
    else
      some (0, r26.2)
  else
  if x21 = 5 then
    some ((x1 + x2), M)
  else
    some (x1, M)

set_option maxHeartbeats 4000000 in
set_option maxRecDepth 20000 in
theorem ctX0_turnedFrom {B : ctB} {n : Nat} (hB : ctOk B kdC lnC n) {a0 : Nat} {x1 : Int32} {x2 : Int32} {M : ctM} {r : Int32 × ctM} (h : fX0_turnedFrom a0 x1 x2 M = some r) : ctC B mX0_turnedFrom (1, 0, 0) [.ref a0, .int x1, .int x2] n M (poI r n) := by
  refine ctC_of (by decide) (Nat.le_of_ble_eq_true rfl) ?_
  show ctV B mX0_turnedFrom (1, 0, 0) (poI r n) 0 [some (.ref a0), some (.int x1), some (.int x2)] [] (0, 0) n M
  unfold fX0_turnedFrom at h
  refine ct_aload_0 (q := 1) dX0_turnedFrom_0 rfl ?_
  obtain ⟨x21, gx21, h⟩ := ob h
  refine ct_getI (q := 4) hB dX0_turnedFrom_1 fl_RX0_9 rfl gx21 rfl ?_
  by_cases z22 : x21 = 1
  · replace h := it_t h z22
    refine ct_tsw (q := 40) 1 z22 dX0_turnedFrom_4 (by decide) (by decide) rfl (by decide) ?_
    refine ct_iconst (v := 2) (q := 41) dX0_turnedFrom_40 (by decide) rfl ?_
    refine ct_iload_1 (q := 42) dX0_turnedFrom_41 rfl ?_
    refine ct_imul (q := 43) dX0_turnedFrom_42 rfl ?_
    exact ct_iret dX0_turnedFrom_43 rfl ⟨Nat.le_refl 0, Nat.le_refl 0⟩ (poI_of h)
  replace h := it_f h z22
  by_cases z23 : x21 = 2
  · replace h := it_t h z23
    refine ct_tsw (q := 50) 2 z23 dX0_turnedFrom_4 (by decide) (by decide) rfl (by decide) ?_
    refine ct_iload_1 (q := 51) dX0_turnedFrom_50 rfl ?_
    refine ct_ineg (q := 52) dX0_turnedFrom_51 rfl ?_
    exact ct_iret dX0_turnedFrom_52 rfl ⟨Nat.le_refl 0, Nat.le_refl 0⟩ (poI_of h)
  replace h := it_f h z23
  by_cases z24 : x21 = 3
  · replace h := it_t h z24
    refine ct_tsw (q := 44) 3 z24 dX0_turnedFrom_4 (by decide) (by decide) rfl (by decide) ?_
    refine ct_iconst (v := 2) (q := 45) dX0_turnedFrom_44 (by decide) rfl ?_
    refine ct_iload_1 (q := 46) dX0_turnedFrom_45 rfl ?_
    refine ct_imul (q := 47) dX0_turnedFrom_46 rfl ?_
    refine ct_iconst (v := 3) (q := 48) dX0_turnedFrom_47 (by decide) rfl ?_
    refine ct_iadd (q := 49) dX0_turnedFrom_48 rfl ?_
    exact ct_iret dX0_turnedFrom_49 rfl ⟨Nat.le_refl 0, Nat.le_refl 0⟩ (poI_of h)
  replace h := it_f h z24
  by_cases z25 : x21 = 4
  · replace h := it_t h z25
    refine ct_tsw (q := 53) 4 z25 dX0_turnedFrom_4 (by decide) (by decide) rfl (by decide) ?_
    refine ct_iload_1 (q := 54) dX0_turnedFrom_53 rfl ?_
    refine ct_bipush (v := -4) (q := 56) dX0_turnedFrom_54 (by decide) rfl ?_
    refine ct_iconst (v := 4) (q := 57) dX0_turnedFrom_56 (by decide) rfl ?_
    obtain ⟨r26, gr26, h⟩ := ob h
    refine ct_cSi3 (q := 60) dX0_turnedFrom_57 lk_RX0_39 (by decide) (ctX6_isWithin hB gr26) (Nat.le_of_ble_eq_true rfl) rfl ?_
    refine ct_if_eq (q := 63) (tgt := 67) dX0_turnedFrom_60 (by decide) rfl (fun z27 => ?_) (fun z27 => ?_)
    · replace h := it_t h z27
      refine ct_iload_1 (q := 68) dX0_turnedFrom_67 rfl ?_
      refine ct_ineg (q := 69) dX0_turnedFrom_68 rfl ?_
      exact ct_iret dX0_turnedFrom_69 rfl ⟨Nat.le_refl 0, Nat.le_refl 0⟩ (poI_of h)
    · replace h := it_f h z27
      refine ct_iconst (v := 0) (q := 64) dX0_turnedFrom_63 (by decide) rfl ?_
      refine ct_goto (q := 69) dX0_turnedFrom_64 (by decide) ?_
      exact ct_iret dX0_turnedFrom_69 rfl ⟨Nat.le_refl 0, Nat.le_refl 0⟩ (poI_of h)
  replace h := it_f h z25
  by_cases z28 : x21 = 5
  · replace h := it_t h z28
    refine ct_tsw (q := 70) 5 z28 dX0_turnedFrom_4 (by decide) (by decide) rfl (by decide) ?_
    refine ct_iload_1 (q := 71) dX0_turnedFrom_70 rfl ?_
    refine ct_iload_2 (q := 72) dX0_turnedFrom_71 rfl ?_
    refine ct_iadd (q := 73) dX0_turnedFrom_72 rfl ?_
    exact ct_iret dX0_turnedFrom_73 rfl ⟨Nat.le_refl 0, Nat.le_refl 0⟩ (poI_of h)
  replace h := it_f h z28
  refine ct_tswD (q := 74) dX0_turnedFrom_4 (by have := And.intro (lv_neT z22 (show Int32.toInt (1) = 1 by decide)) trivial; have y0 := lv_neT z22 (show Int32.toInt (1) = 1 by decide); have y1 := lv_neT z23 (show Int32.toInt (2) = 2 by decide); have y2 := lv_neT z24 (show Int32.toInt (3) = 3 by decide); have y3 := lv_neT z25 (show Int32.toInt (4) = 4 by decide); have y4 := lv_neT z28 (show Int32.toInt (5) = 5 by decide); omega) (by decide) ?_
  refine ct_iload_1 (q := 75) dX0_turnedFrom_74 rfl ?_
  exact ct_iret dX0_turnedFrom_75 rfl ⟨Nat.le_refl 0, Nat.le_refl 0⟩ (poI_of h)

def fX0_worth (a0 : Nat) (M : ctM) : Option (Int32 × ctM) :=
  (gI kdC 0 0 a0 M).bind fun x21 =>
  if x21 = 1 then
    (gI kdC 0 3 a0 M).bind fun x23 =>
    some ((x23 + 4), M)
  else
  if x21 = 2 then
    (gI kdC 0 3 a0 M).bind fun x25 =>
    some ((9 - x25), M)
  else
  if x21 = 3 then
    (gI kdC 0 3 a0 M).bind fun x27 =>
    some ((2 * (x27 + 4)), M)
  else
  if x21 = 4 then
    (gI kdC 0 3 a0 M).bind fun x29 =>
    some (((9 - x29) - 2), M)
  else
  if x21 = 5 then
    (gI kdC 0 3 a0 M).bind fun x31 =>
    (gI kdC 0 3 a0 M).bind fun x32 =>
    some ((x31 * x32), M)
  else
    (gI kdC 0 3 a0 M).bind fun x33 =>
    some (x33, M)

set_option maxHeartbeats 4000000 in
set_option maxRecDepth 20000 in
theorem ctX0_worth {B : ctB} {n : Nat} (hB : ctOk B kdC lnC n) {a0 : Nat} {M : ctM} {r : Int32 × ctM} (h : fX0_worth a0 M = some r) : ctC B mX0_worth (0, 0, 0) [.ref a0] n M (poI r n) := by
  refine ctC_of (by decide) (Nat.le_of_ble_eq_true rfl) ?_
  show ctV B mX0_worth (0, 0, 0) (poI r n) 0 [some (.ref a0)] [] (0, 0) n M
  unfold fX0_worth at h
  refine ct_aload_0 (q := 1) dX0_worth_0 rfl ?_
  obtain ⟨x21, gx21, h⟩ := ob h
  refine ct_getI (q := 4) hB dX0_worth_1 fl_RX0_9 rfl gx21 rfl ?_
  by_cases z22 : x21 = 1
  · replace h := it_t h z22
    refine ct_tsw (q := 40) 1 z22 dX0_worth_4 (by decide) (by decide) rfl (by decide) ?_
    refine ct_aload_0 (q := 41) dX0_worth_40 rfl ?_
    obtain ⟨x23, gx23, h⟩ := ob h
    refine ct_getI (q := 44) hB dX0_worth_41 fl_RX0_21 rfl gx23 rfl ?_
    refine ct_iconst (v := 4) (q := 45) dX0_worth_44 (by decide) rfl ?_
    refine ct_iadd (q := 46) dX0_worth_45 rfl ?_
    exact ct_iret dX0_worth_46 rfl ⟨Nat.le_refl 0, Nat.le_refl 0⟩ (poI_of h)
  replace h := it_f h z22
  by_cases z24 : x21 = 2
  · replace h := it_t h z24
    refine ct_tsw (q := 56) 2 z24 dX0_worth_4 (by decide) (by decide) rfl (by decide) ?_
    refine ct_bipush (v := 9) (q := 58) dX0_worth_56 (by decide) rfl ?_
    refine ct_aload_0 (q := 59) dX0_worth_58 rfl ?_
    obtain ⟨x25, gx25, h⟩ := ob h
    refine ct_getI (q := 62) hB dX0_worth_59 fl_RX0_21 rfl gx25 rfl ?_
    refine ct_isub (q := 63) dX0_worth_62 rfl ?_
    exact ct_iret dX0_worth_63 rfl ⟨Nat.le_refl 0, Nat.le_refl 0⟩ (poI_of h)
  replace h := it_f h z24
  by_cases z26 : x21 = 3
  · replace h := it_t h z26
    refine ct_tsw (q := 47) 3 z26 dX0_worth_4 (by decide) (by decide) rfl (by decide) ?_
    refine ct_iconst (v := 2) (q := 48) dX0_worth_47 (by decide) rfl ?_
    refine ct_aload_0 (q := 49) dX0_worth_48 rfl ?_
    obtain ⟨x27, gx27, h⟩ := ob h
    refine ct_getI (q := 52) hB dX0_worth_49 fl_RX0_21 rfl gx27 rfl ?_
    refine ct_iconst (v := 4) (q := 53) dX0_worth_52 (by decide) rfl ?_
    refine ct_iadd (q := 54) dX0_worth_53 rfl ?_
    refine ct_imul (q := 55) dX0_worth_54 rfl ?_
    exact ct_iret dX0_worth_55 rfl ⟨Nat.le_refl 0, Nat.le_refl 0⟩ (poI_of h)
  replace h := it_f h z26
  by_cases z28 : x21 = 4
  · replace h := it_t h z28
    refine ct_tsw (q := 64) 4 z28 dX0_worth_4 (by decide) (by decide) rfl (by decide) ?_
    refine ct_bipush (v := 9) (q := 66) dX0_worth_64 (by decide) rfl ?_
    refine ct_aload_0 (q := 67) dX0_worth_66 rfl ?_
    obtain ⟨x29, gx29, h⟩ := ob h
    refine ct_getI (q := 70) hB dX0_worth_67 fl_RX0_21 rfl gx29 rfl ?_
    refine ct_isub (q := 71) dX0_worth_70 rfl ?_
    refine ct_iconst (v := 2) (q := 72) dX0_worth_71 (by decide) rfl ?_
    refine ct_isub (q := 73) dX0_worth_72 rfl ?_
    exact ct_iret dX0_worth_73 rfl ⟨Nat.le_refl 0, Nat.le_refl 0⟩ (poI_of h)
  replace h := it_f h z28
  by_cases z30 : x21 = 5
  · replace h := it_t h z30
    refine ct_tsw (q := 74) 5 z30 dX0_worth_4 (by decide) (by decide) rfl (by decide) ?_
    refine ct_aload_0 (q := 75) dX0_worth_74 rfl ?_
    obtain ⟨x31, gx31, h⟩ := ob h
    refine ct_getI (q := 78) hB dX0_worth_75 fl_RX0_21 rfl gx31 rfl ?_
    refine ct_aload_0 (q := 79) dX0_worth_78 rfl ?_
    obtain ⟨x32, gx32, h⟩ := ob h
    refine ct_getI (q := 82) hB dX0_worth_79 fl_RX0_21 rfl gx32 rfl ?_
    refine ct_imul (q := 83) dX0_worth_82 rfl ?_
    exact ct_iret dX0_worth_83 rfl ⟨Nat.le_refl 0, Nat.le_refl 0⟩ (poI_of h)
  replace h := it_f h z30
  refine ct_tswD (q := 84) dX0_worth_4 (by have := And.intro (lv_neT z22 (show Int32.toInt (1) = 1 by decide)) trivial; have y0 := lv_neT z22 (show Int32.toInt (1) = 1 by decide); have y1 := lv_neT z24 (show Int32.toInt (2) = 2 by decide); have y2 := lv_neT z26 (show Int32.toInt (3) = 3 by decide); have y3 := lv_neT z28 (show Int32.toInt (4) = 4 by decide); have y4 := lv_neT z30 (show Int32.toInt (5) = 5 by decide); omega) (by decide) ?_
  refine ct_aload_0 (q := 85) dX0_worth_84 rfl ?_
  obtain ⟨x33, gx33, h⟩ := ob h
  refine ct_getI (q := 88) hB dX0_worth_85 fl_RX0_21 rfl gx33 rfl ?_
  exact ct_iret dX0_worth_88 rfl ⟨Nat.le_refl 0, Nat.le_refl 0⟩ (poI_of h)

def fX0_burnTo_b64 (x2 : Int32) (as0 : Nat) (xs1 : Int32) (xs2 : Int32) (M : ctM) : Option (Int32 × ctM) :=
  (pI kdC 0 6 as0 (xs1 + xs2) M).bind fun M21 =>
  if x2 = 0 ∨ x2 = 1 then some (x2, M21) else none

set_option maxHeartbeats 4000000 in
set_option maxRecDepth 20000 in
theorem vX0_burnTo_b64 {B : ctB} {n : Nat} (hB : ctOk B kdC lnC n) : ∀ (x2 : Int32) (as0 : Nat) (xs1 : Int32) (xs2 : Int32) (M : ctM) (r : Int32 × ctM), fX0_burnTo_b64 x2 as0 xs1 xs2 M = some r → ctV B mX0_burnTo (1, 0, 0) (poI r n) 64 [none, none, some (.int x2), none] [.int xs2, .int xs1, .ref as0] (0, 0) n M := by
  intro x2 as0 xs1 xs2 M r h
  unfold fX0_burnTo_b64 at h
  refine ct_iadd (q := 65) dX0_burnTo_64 rfl ?_
  obtain ⟨M21, gM21, h⟩ := ob h
  refine ct_putI (q := 68) hB dX0_burnTo_65 fl_RX0_30 rfl rfl (Or.inl rfl) gM21 rfl ?_
  refine ct_iload_2 (q := 69) dX0_burnTo_68 rfl ?_
  by_cases z22 : x2 = 0 ∨ x2 = 1
  · exact ct_zret dX0_burnTo_69 rfl z22 ⟨Nat.le_refl 0, Nat.le_refl 0⟩ (poI_of (it_t h z22))
  · exact absurd (it_f h z22) (by simp)

def fX0_burnTo_b30 (a0 : Nat) (x2 : Int32) (as0 : Nat) (xs1 : Int32) (M : ctM) : Option (Int32 × ctM) :=
  (pI kdC 0 4 as0 xs1 M).bind fun M21 =>
  (gI kdC 0 5 a0 M21).bind fun x22 =>
  (gI kdC 0 3 a0 M21).bind fun x23 =>
  (pI kdC 0 5 a0 (if 0 < (x22 - x23) then (x22 - x23) else 0) M21).bind fun M24 =>
  (gI kdC 0 6 a0 M24).bind fun x25 =>
  if x2 = 0 then
    fX0_burnTo_b64 x2 a0 x25 0 M24
  else
    fX0_burnTo_b64 x2 a0 x25 1 M24

set_option maxHeartbeats 4000000 in
set_option maxRecDepth 20000 in
theorem vX0_burnTo_b30 {B : ctB} {n : Nat} (hB : ctOk B kdC lnC n) : ∀ (a0 : Nat) (x2 : Int32) (as0 : Nat) (xs1 : Int32) (M : ctM) (r : Int32 × ctM), fX0_burnTo_b30 a0 x2 as0 xs1 M = some r → ctV B mX0_burnTo (1, 0, 0) (poI r n) 30 [some (.ref a0), none, some (.int x2), none] [.int xs1, .ref as0] (0, 0) n M := by
  intro a0 x2 as0 xs1 M r h
  unfold fX0_burnTo_b30 at h
  obtain ⟨M21, gM21, h⟩ := ob h
  refine ct_putI (q := 33) hB dX0_burnTo_30 fl_RX0_24 rfl rfl (Or.inl rfl) gM21 rfl ?_
  refine ct_aload_0 (q := 34) dX0_burnTo_33 rfl ?_
  refine ct_iconst (v := 0) (q := 35) dX0_burnTo_34 (by decide) rfl ?_
  refine ct_aload_0 (q := 36) dX0_burnTo_35 rfl ?_
  obtain ⟨x22, gx22, h⟩ := ob h
  refine ct_getI (q := 39) hB dX0_burnTo_36 fl_RX0_27 rfl gx22 rfl ?_
  refine ct_aload_0 (q := 40) dX0_burnTo_39 rfl ?_
  obtain ⟨x23, gx23, h⟩ := ob h
  refine ct_getI (q := 43) hB dX0_burnTo_40 fl_RX0_21 rfl gx23 rfl ?_
  refine ct_isub (q := 44) dX0_burnTo_43 rfl ?_
  refine ct_max (q := 47) dX0_burnTo_44 ma_RX0_43 (by decide) (Nat.le_of_ble_eq_true rfl) ⟨Nat.le_refl 0, Nat.le_refl 0⟩ rfl ?_
  obtain ⟨M24, gM24, h⟩ := ob h
  refine ct_putI (q := 50) hB dX0_burnTo_47 fl_RX0_27 rfl rfl (Or.inl rfl) gM24 rfl ?_
  refine ct_aload_0 (q := 51) dX0_burnTo_50 rfl ?_
  refine ct_dup (q := 52) dX0_burnTo_51 rfl rfl ?_
  obtain ⟨x25, gx25, h⟩ := ob h
  refine ct_getI (q := 55) hB dX0_burnTo_52 fl_RX0_30 rfl gx25 rfl ?_
  refine ct_iload_2 (q := 56) dX0_burnTo_55 rfl ?_
  refine ct_if_eq (q := 59) (tgt := 63) dX0_burnTo_56 (by decide) rfl (fun z26 => ?_) (fun z26 => ?_)
  · replace h := it_t h z26
    refine ct_iconst (v := 0) (q := 64) dX0_burnTo_63 (by decide) rfl ?_
    exact ct_lessK (vX0_burnTo_b64 hB  x2 a0 x25 0 M24 r h) (And.intro rfl (trivial))
  · replace h := it_f h z26
    refine ct_iconst (v := 1) (q := 60) dX0_burnTo_59 (by decide) rfl ?_
    refine ct_goto (q := 64) dX0_burnTo_60 (by decide) ?_
    exact ct_lessK (vX0_burnTo_b64 hB  x2 a0 x25 1 M24 r h) (And.intro rfl (trivial))

def fX0_burnTo_b11 (a0 : Nat) (x1 : Int32) (xs0 : Int32) (M : ctM) : Option (Int32 × ctM) :=
  if 0 ≤ (x1 % 120) then
    fX0_burnTo_b30 a0 xs0 a0 (x1 % 120) M
  else
    fX0_burnTo_b30 a0 xs0 a0 ((x1 % 120) + 120) M

set_option maxHeartbeats 4000000 in
set_option maxRecDepth 20000 in
theorem vX0_burnTo_b11 {B : ctB} {n : Nat} (hB : ctOk B kdC lnC n) : ∀ (a0 : Nat) (x1 : Int32) (xs0 : Int32) (M : ctM) (r : Int32 × ctM), fX0_burnTo_b11 a0 x1 xs0 M = some r → ctV B mX0_burnTo (1, 0, 0) (poI r n) 11 [some (.ref a0), some (.int x1), none, none] [.int xs0] (0, 0) n M := by
  intro a0 x1 xs0 M r h
  unfold fX0_burnTo_b11 at h
  refine ct_istore_2 (q := 12) dX0_burnTo_11 (by decide) rfl rfl ?_
  refine ct_iload_1 (q := 13) dX0_burnTo_12 rfl ?_
  refine ct_bipush (v := 120) (q := 15) dX0_burnTo_13 (by decide) rfl ?_
  refine ct_irem (q := 16) dX0_burnTo_15 (by decide) rfl ?_
  refine ct_istore_3 (q := 17) dX0_burnTo_16 (by decide) rfl rfl ?_
  refine ct_aload_0 (q := 18) dX0_burnTo_17 rfl ?_
  refine ct_iload_3 (q := 19) dX0_burnTo_18 rfl ?_
  refine ct_if_ge (q := 22) (tgt := 29) dX0_burnTo_19 (by decide) rfl (fun z21 => ?_) (fun z21 => ?_)
  · replace h := it_t h z21
    refine ct_iload_3 (q := 30) dX0_burnTo_29 rfl ?_
    exact ct_lessK (vX0_burnTo_b30 hB  a0 xs0 a0 (x1 % 120) M r h) (And.intro rfl (And.intro rfl (trivial)))
  · replace h := it_f h z21
    refine ct_iload_3 (q := 23) dX0_burnTo_22 rfl ?_
    refine ct_bipush (v := 120) (q := 25) dX0_burnTo_23 (by decide) rfl ?_
    refine ct_iadd (q := 26) dX0_burnTo_25 rfl ?_
    refine ct_goto (q := 30) dX0_burnTo_26 (by decide) ?_
    exact ct_lessK (vX0_burnTo_b30 hB  a0 xs0 a0 ((x1 % 120) + 120) M r h) (And.intro rfl (And.intro rfl (trivial)))

def fX0_burnTo (a0 : Nat) (x1 : Int32) (M : ctM) : Option (Int32 × ctM) :=
  if x1 < 120 then
    fX0_burnTo_b11 a0 x1 0 M
  else
    fX0_burnTo_b11 a0 x1 1 M

set_option maxHeartbeats 4000000 in
set_option maxRecDepth 20000 in
theorem ctX0_burnTo {B : ctB} {n : Nat} (hB : ctOk B kdC lnC n) {a0 : Nat} {x1 : Int32} {M : ctM} {r : Int32 × ctM} (h : fX0_burnTo a0 x1 M = some r) : ctC B mX0_burnTo (1, 0, 0) [.ref a0, .int x1] n M (poI r n) := by
  refine ctC_of (by decide) (Nat.le_of_ble_eq_true rfl) ?_
  show ctV B mX0_burnTo (1, 0, 0) (poI r n) 0 [some (.ref a0), some (.int x1), none, none] [] (0, 0) n M
  unfold fX0_burnTo at h
  refine ct_iload_1 (q := 1) dX0_burnTo_0 rfl ?_
  refine ct_bipush (v := 120) (q := 3) dX0_burnTo_1 (by decide) rfl ?_
  refine ct_icmp_lt (q := 6) (tgt := 10) dX0_burnTo_3 (by decide) rfl (fun z21 => ?_) (fun z21 => ?_)
  · replace h := it_t h z21
    refine ct_iconst (v := 0) (q := 11) dX0_burnTo_10 (by decide) rfl ?_
    exact ct_lessK (vX0_burnTo_b11 hB  a0 x1 0 M r h) (And.intro rfl (And.intro rfl (trivial)))
  · replace h := it_f h z21
    refine ct_iconst (v := 1) (q := 7) dX0_burnTo_6 (by decide) rfl ?_
    refine ct_goto (q := 11) dX0_burnTo_7 (by decide) ?_
    exact ct_lessK (vX0_burnTo_b11 hB  a0 x1 1 M r h) (And.intro rfl (And.intro rfl (trivial)))

def fX1_begin (a0 : Nat) (x1 : Int32) (M : ctM) : Option (ctM) :=
  (pI kdC 1 0 a0 x1 M).bind fun M21 =>
  (pI kdC 1 1 a0 0 M21).bind fun M22 =>
  (pI kdC 1 2 a0 0 M22).bind fun M23 =>
  some M23

set_option maxHeartbeats 4000000 in
set_option maxRecDepth 20000 in
theorem ctX1_begin {B : ctB} {n : Nat} (hB : ctOk B kdC lnC n) {a0 : Nat} {x1 : Int32} {M : ctM} {r : ctM} (h : fX1_begin a0 x1 M = some r) : ctC B mX1_begin (0, 0, 0) [.ref a0, .int x1] n M (poV r n) := by
  refine ctC_of (by decide) (Nat.le_of_ble_eq_true rfl) ?_
  show ctV B mX1_begin (0, 0, 0) (poV r n) 0 [some (.ref a0), some (.int x1)] [] (0, 0) n M
  unfold fX1_begin at h
  refine ct_aload_0 (q := 1) dX1_begin_0 rfl ?_
  refine ct_iload_1 (q := 2) dX1_begin_1 rfl ?_
  obtain ⟨M21, gM21, h⟩ := ob h
  refine ct_putI (q := 5) hB dX1_begin_2 fl_RX1_9 rfl rfl (Or.inl rfl) gM21 rfl ?_
  refine ct_aload_0 (q := 6) dX1_begin_5 rfl ?_
  refine ct_iconst (v := 0) (q := 7) dX1_begin_6 (by decide) rfl ?_
  obtain ⟨M22, gM22, h⟩ := ob h
  refine ct_putI (q := 10) hB dX1_begin_7 fl_RX1_15 rfl rfl (Or.inl rfl) gM22 rfl ?_
  refine ct_aload_0 (q := 11) dX1_begin_10 rfl ?_
  refine ct_iconst (v := 0) (q := 12) dX1_begin_11 (by decide) rfl ?_
  obtain ⟨M23, gM23, h⟩ := ob h
  refine ct_putI (q := 15) hB dX1_begin_12 fl_RX1_18 rfl rfl (Or.inl rfl) gM23 rfl ?_
  exact ct_vret dX1_begin_15 rfl ⟨Nat.le_refl 0, Nat.le_refl 0⟩ (poV_of h)

def fX1_put (a0 : Nat) (x1 : Int32) (x2 : Int32) (x3 : Int32) (M : ctM) : Option (Int32 × ctM) :=
  (gP kdC 1 3 a0 M).bind fun a21 =>
  (gI kdC 1 2 a0 M).bind fun x22 =>
  (sI kdC lnC 9 a21 x22 x1 M).bind fun M23 =>
  (gP kdC 1 4 a0 M23).bind fun a24 =>
  (gI kdC 1 2 a0 M23).bind fun x25 =>
  (sI kdC lnC 9 a24 x25 x2 M23).bind fun M26 =>
  (gP kdC 1 5 a0 M26).bind fun a27 =>
  (gI kdC 1 2 a0 M26).bind fun x28 =>
  (sI kdC lnC 9 a27 x28 x3 M26).bind fun M29 =>
  (gI kdC 1 2 a0 M29).bind fun x30 =>
  (pI kdC 1 2 a0 (x30 + 1) M29).bind fun M31 =>
  (gI kdC 1 2 a0 M31).bind fun x32 =>
  some ((x32 - 1), M31)

set_option maxHeartbeats 4000000 in
set_option maxRecDepth 20000 in
theorem ctX1_put {B : ctB} {n : Nat} (hB : ctOk B kdC lnC n) {a0 : Nat} {x1 : Int32} {x2 : Int32} {x3 : Int32} {M : ctM} {r : Int32 × ctM} (h : fX1_put a0 x1 x2 x3 M = some r) : ctC B mX1_put (0, 0, 0) [.ref a0, .int x1, .int x2, .int x3] n M (poI r n) := by
  refine ctC_of (by decide) (Nat.le_of_ble_eq_true rfl) ?_
  show ctV B mX1_put (0, 0, 0) (poI r n) 0 [some (.ref a0), some (.int x1), some (.int x2), some (.int x3)] [] (0, 0) n M
  unfold fX1_put at h
  refine ct_aload_0 (q := 1) dX1_put_0 rfl ?_
  obtain ⟨a21, ga21, h⟩ := ob h
  refine ct_getP (q := 4) hB dX1_put_1 fl_RX1_21 rfl ga21 rfl ?_
  refine ct_aload_0 (q := 5) dX1_put_4 rfl ?_
  obtain ⟨x22, gx22, h⟩ := ob h
  refine ct_getI (q := 8) hB dX1_put_5 fl_RX1_18 rfl gx22 rfl ?_
  refine ct_iload_1 (q := 9) dX1_put_8 rfl ?_
  obtain ⟨M23, gM23, h⟩ := ob h
  refine ct_iast (q := 10) hB dX1_put_9 gM23 rfl ?_
  refine ct_aload_0 (q := 11) dX1_put_10 rfl ?_
  obtain ⟨a24, ga24, h⟩ := ob h
  refine ct_getP (q := 14) hB dX1_put_11 fl_RX1_25 rfl ga24 rfl ?_
  refine ct_aload_0 (q := 15) dX1_put_14 rfl ?_
  obtain ⟨x25, gx25, h⟩ := ob h
  refine ct_getI (q := 18) hB dX1_put_15 fl_RX1_18 rfl gx25 rfl ?_
  refine ct_iload_2 (q := 19) dX1_put_18 rfl ?_
  obtain ⟨M26, gM26, h⟩ := ob h
  refine ct_iast (q := 20) hB dX1_put_19 gM26 rfl ?_
  refine ct_aload_0 (q := 21) dX1_put_20 rfl ?_
  obtain ⟨a27, ga27, h⟩ := ob h
  refine ct_getP (q := 24) hB dX1_put_21 fl_RX1_28 rfl ga27 rfl ?_
  refine ct_aload_0 (q := 25) dX1_put_24 rfl ?_
  obtain ⟨x28, gx28, h⟩ := ob h
  refine ct_getI (q := 28) hB dX1_put_25 fl_RX1_18 rfl gx28 rfl ?_
  refine ct_iload_3 (q := 29) dX1_put_28 rfl ?_
  obtain ⟨M29, gM29, h⟩ := ob h
  refine ct_iast (q := 30) hB dX1_put_29 gM29 rfl ?_
  refine ct_aload_0 (q := 31) dX1_put_30 rfl ?_
  refine ct_dup (q := 32) dX1_put_31 rfl rfl ?_
  obtain ⟨x30, gx30, h⟩ := ob h
  refine ct_getI (q := 35) hB dX1_put_32 fl_RX1_18 rfl gx30 rfl ?_
  refine ct_iconst (v := 1) (q := 36) dX1_put_35 (by decide) rfl ?_
  refine ct_iadd (q := 37) dX1_put_36 rfl ?_
  obtain ⟨M31, gM31, h⟩ := ob h
  refine ct_putI (q := 40) hB dX1_put_37 fl_RX1_18 rfl rfl (Or.inl rfl) gM31 rfl ?_
  refine ct_aload_0 (q := 41) dX1_put_40 rfl ?_
  obtain ⟨x32, gx32, h⟩ := ob h
  refine ct_getI (q := 44) hB dX1_put_41 fl_RX1_18 rfl gx32 rfl ?_
  refine ct_iconst (v := 1) (q := 45) dX1_put_44 (by decide) rfl ?_
  refine ct_isub (q := 46) dX1_put_45 rfl ?_
  exact ct_iret dX1_put_46 rfl ⟨Nat.le_refl 0, Nat.le_refl 0⟩ (poI_of h)

def fX1_addLeaf (a0 : Nat) (x1 : Int32) (x2 : Int32) (M : ctM) : Option (Int32 × ctM) :=
  (gI kdC 1 2 a0 M).bind fun x21 =>
  if x21 < 96 then
    (gI kdC 1 1 a0 M).bind fun x23 =>
    (pI kdC 1 1 a0 (x23 + 1) M).bind fun M24 =>
    (cV kdC 1 a0 (fX1_put a0 x1 x2 0 M24)).bind fun r25 =>
    some (r25.1, r25.2)
  else
    some ((-1), M)

set_option maxHeartbeats 4000000 in
set_option maxRecDepth 20000 in
theorem ctX1_addLeaf {B : ctB} {n : Nat} (hB : ctOk B kdC lnC n) {a0 : Nat} {x1 : Int32} {x2 : Int32} {M : ctM} {r : Int32 × ctM} (h : fX1_addLeaf a0 x1 x2 M = some r) : ctC B mX1_addLeaf (1, 0, 0) [.ref a0, .int x1, .int x2] n M (poI r n) := by
  refine ctC_of (by decide) (Nat.le_of_ble_eq_true rfl) ?_
  show ctV B mX1_addLeaf (1, 0, 0) (poI r n) 0 [some (.ref a0), some (.int x1), some (.int x2)] [] (0, 0) n M
  unfold fX1_addLeaf at h
  refine ct_aload_0 (q := 1) dX1_addLeaf_0 rfl ?_
  obtain ⟨x21, gx21, h⟩ := ob h
  refine ct_getI (q := 4) hB dX1_addLeaf_1 fl_RX1_18 rfl gx21 rfl ?_
  refine ct_bipush (v := 96) (q := 6) dX1_addLeaf_4 (by decide) rfl ?_
  refine ct_icmp_lt (q := 9) (tgt := 11) dX1_addLeaf_6 (by decide) rfl (fun z22 => ?_) (fun z22 => ?_)
  · replace h := it_t h z22
    refine ct_aload_0 (q := 12) dX1_addLeaf_11 rfl ?_
    refine ct_dup (q := 13) dX1_addLeaf_12 rfl rfl ?_
    obtain ⟨x23, gx23, h⟩ := ob h
    refine ct_getI (q := 16) hB dX1_addLeaf_13 fl_RX1_15 rfl gx23 rfl ?_
    refine ct_iconst (v := 1) (q := 17) dX1_addLeaf_16 (by decide) rfl ?_
    refine ct_iadd (q := 18) dX1_addLeaf_17 rfl ?_
    obtain ⟨M24, gM24, h⟩ := ob h
    refine ct_putI (q := 21) hB dX1_addLeaf_18 fl_RX1_15 rfl rfl (Or.inl rfl) gM24 rfl ?_
    refine ct_aload_0 (q := 22) dX1_addLeaf_21 rfl ?_
    refine ct_iload_1 (q := 23) dX1_addLeaf_22 rfl ?_
    refine ct_iload_2 (q := 24) dX1_addLeaf_23 rfl ?_
    refine ct_iconst (v := 0) (q := 25) dX1_addLeaf_24 (by decide) rfl ?_
    obtain ⟨r25, gr25, h⟩ := ob h
    obtain ⟨er25, gr25⟩ := cV_spec gr25
    refine ct_cVi3 (q := 28) hB dX1_addLeaf_25 lk_RX1_34 (by decide) (ctX1_put hB gr25) er25 (by decide) rfl (Nat.le_of_ble_eq_true rfl) rfl ?_
    exact ct_iret dX1_addLeaf_28 rfl ⟨Nat.le_refl 0, Nat.le_refl 0⟩ (poI_of h)
  · replace h := it_f h z22
    refine ct_iconst (v := -1) (q := 10) dX1_addLeaf_9 (by decide) rfl ?_
    exact ct_iret dX1_addLeaf_10 rfl ⟨Nat.le_refl 0, Nat.le_refl 0⟩ (poI_of h)

def fX1_addStep (a0 : Nat) (x1 : Int32) (x2 : Int32) (x3 : Int32) (M : ctM) : Option (Int32 × ctM) :=
  (gI kdC 1 2 a0 M).bind fun x21 =>
  if 96 ≤ x21 then
    some ((-1), M)
  else
    (gI kdC 1 2 a0 M).bind fun x23 =>
    (fX6_isWithin x2 0 (x23 - 1) M).bind fun r24 =>
    if r24.1 = 0 then
      some ((-1), r24.2)
    else
      (gI kdC 1 2 a0 r24.2).bind fun x26 =>
      (fX6_isWithin x3 0 (x26 - 1) r24.2).bind fun r27 =>
      if r27.1 = 0 then
        some ((-1), r27.2)
      else
        (cV kdC 1 a0 (fX1_put a0 x1 x2 x3 r27.2)).bind fun r29 =>
        some (r29.1, r29.2)

set_option maxHeartbeats 4000000 in
set_option maxRecDepth 20000 in
theorem ctX1_addStep {B : ctB} {n : Nat} (hB : ctOk B kdC lnC n) {a0 : Nat} {x1 : Int32} {x2 : Int32} {x3 : Int32} {M : ctM} {r : Int32 × ctM} (h : fX1_addStep a0 x1 x2 x3 M = some r) : ctC B mX1_addStep (1, 0, 0) [.ref a0, .int x1, .int x2, .int x3] n M (poI r n) := by
  refine ctC_of (by decide) (Nat.le_of_ble_eq_true rfl) ?_
  show ctV B mX1_addStep (1, 0, 0) (poI r n) 0 [some (.ref a0), some (.int x1), some (.int x2), some (.int x3)] [] (0, 0) n M
  unfold fX1_addStep at h
  refine ct_aload_0 (q := 1) dX1_addStep_0 rfl ?_
  obtain ⟨x21, gx21, h⟩ := ob h
  refine ct_getI (q := 4) hB dX1_addStep_1 fl_RX1_18 rfl gx21 rfl ?_
  refine ct_bipush (v := 96) (q := 6) dX1_addStep_4 (by decide) rfl ?_
  refine ct_icmp_ge (q := 9) (tgt := 37) dX1_addStep_6 (by decide) rfl (fun z22 => ?_) (fun z22 => ?_)
  · replace h := it_t h z22
    refine ct_iconst (v := -1) (q := 38) dX1_addStep_37 (by decide) rfl ?_
    exact ct_iret dX1_addStep_38 rfl ⟨Nat.le_refl 0, Nat.le_refl 0⟩ (poI_of h)
  · replace h := it_f h z22
    refine ct_iload_2 (q := 10) dX1_addStep_9 rfl ?_
    refine ct_iconst (v := 0) (q := 11) dX1_addStep_10 (by decide) rfl ?_
    refine ct_aload_0 (q := 12) dX1_addStep_11 rfl ?_
    obtain ⟨x23, gx23, h⟩ := ob h
    refine ct_getI (q := 15) hB dX1_addStep_12 fl_RX1_18 rfl gx23 rfl ?_
    refine ct_iconst (v := 1) (q := 16) dX1_addStep_15 (by decide) rfl ?_
    refine ct_isub (q := 17) dX1_addStep_16 rfl ?_
    obtain ⟨r24, gr24, h⟩ := ob h
    refine ct_cSi3 (q := 20) dX1_addStep_17 lk_RX1_38 (by decide) (ctX6_isWithin hB gr24) (Nat.le_of_ble_eq_true rfl) rfl ?_
    refine ct_if_eq (q := 23) (tgt := 37) dX1_addStep_20 (by decide) rfl (fun z25 => ?_) (fun z25 => ?_)
    · replace h := it_t h z25
      refine ct_iconst (v := -1) (q := 38) dX1_addStep_37 (by decide) rfl ?_
      exact ct_iret dX1_addStep_38 rfl ⟨Nat.le_refl 0, Nat.le_refl 0⟩ (poI_of h)
    · replace h := it_f h z25
      refine ct_iload_3 (q := 24) dX1_addStep_23 rfl ?_
      refine ct_iconst (v := 0) (q := 25) dX1_addStep_24 (by decide) rfl ?_
      refine ct_aload_0 (q := 26) dX1_addStep_25 rfl ?_
      obtain ⟨x26, gx26, h⟩ := ob h
      refine ct_getI (q := 29) hB dX1_addStep_26 fl_RX1_18 rfl gx26 rfl ?_
      refine ct_iconst (v := 1) (q := 30) dX1_addStep_29 (by decide) rfl ?_
      refine ct_isub (q := 31) dX1_addStep_30 rfl ?_
      obtain ⟨r27, gr27, h⟩ := ob h
      refine ct_cSi3 (q := 34) dX1_addStep_31 lk_RX1_38 (by decide) (ctX6_isWithin hB gr27) (Nat.le_of_ble_eq_true rfl) rfl ?_
      refine ct_if_ne (q := 37) (tgt := 39) dX1_addStep_34 (by decide) rfl (fun z28 => ?_) (fun z28 => ?_)
      · replace h := it_f h z28
        refine ct_aload_0 (q := 40) dX1_addStep_39 rfl ?_
        refine ct_iload_1 (q := 41) dX1_addStep_40 rfl ?_
        refine ct_iload_2 (q := 42) dX1_addStep_41 rfl ?_
        refine ct_iload_3 (q := 43) dX1_addStep_42 rfl ?_
        obtain ⟨r29, gr29, h⟩ := ob h
        obtain ⟨er29, gr29⟩ := cV_spec gr29
        refine ct_cVi3 (q := 46) hB dX1_addStep_43 lk_RX1_34 (by decide) (ctX1_put hB gr29) er29 (by decide) rfl (Nat.le_of_ble_eq_true rfl) rfl ?_
        exact ct_iret dX1_addStep_46 rfl ⟨Nat.le_refl 0, Nat.le_refl 0⟩ (poI_of h)
      · replace h := it_t h z28
        refine ct_iconst (v := -1) (q := 38) dX1_addStep_37 (by decide) rfl ?_
        exact ct_iret dX1_addStep_38 rfl ⟨Nat.le_refl 0, Nat.le_refl 0⟩ (poI_of h)

def fX1_work_b100 (M : ctM) : Option (Int32 × ctM) :=
  some (1, M)

set_option maxHeartbeats 4000000 in
set_option maxRecDepth 20000 in
theorem vX1_work_b100 {B : ctB} {n : Nat} (hB : ctOk B kdC lnC n) : ∀  (M : ctM) (r : Int32 × ctM), fX1_work_b100  M = some r → ctV B mX1_work (0, 0, 0) (poI r n) 100 [none, none, none] [] (0, 0) n M := by
  intro  M r h
  unfold fX1_work_b100 at h
  refine ct_iconst (v := 1) (q := 101) dX1_work_100 (by decide) rfl ?_
  refine ct_goto (q := 105) dX1_work_101 (by decide) ?_
  exact ct_iret dX1_work_105 rfl ⟨Nat.le_refl 0, Nat.le_refl 0⟩ (poI_of h)

def fX1_work (x0 : Int32) (x1 : Int32) (x2 : Int32) (M : ctM) : Option (Int32 × ctM) :=
  if x0 = 33 then
    if x1 = 0 then
      some (1, M)
    else
      some (0, M)
  else
  if x0 = 38 then
    if x1 = 0 then
      some (0, M)
    else
      if x2 = 0 then
        some (0, M)
      else
        some (1, M)
  else
  if x0 = 42 then
    some ((x1 * x2), M)
  else
  if x0 = 43 then
    some ((x1 + x2), M)
  else
  if x0 = 45 then
    some ((x1 - x2), M)
  else
  if x0 = 47 then
    if x2 = 0 then
      some (0, M)
    else
      if x2 = 0 then none else
      some ((x1 / x2), M)
  else
  if x0 = 60 then
    if x2 ≤ x1 then
      some (0, M)
    else
      some (1, M)
  else
  if x0 = 61 then
    if x1 = x2 then
      some (1, M)
    else
      some (0, M)
  else
  if x0 = 62 then
    if x1 ≤ x2 then
      some (0, M)
    else
      some (1, M)
  else
  if x0 = 124 then
    if x1 = 0 then
      if x2 = 0 then
        some (0, M)
      else
        fX1_work_b100 M
    else
      fX1_work_b100 M
  else
    some (0, M)

set_option maxHeartbeats 4000000 in
set_option maxRecDepth 20000 in
theorem ctX1_work {B : ctB} {n : Nat} (hB : ctOk B kdC lnC n) {x0 : Int32} {x1 : Int32} {x2 : Int32} {M : ctM} {r : Int32 × ctM} (h : fX1_work x0 x1 x2 M = some r) : ctC B mX1_work (0, 0, 0) [.int x0, .int x1, .int x2] n M (poI r n) := by
  refine ctC_of (by decide) (Nat.le_of_ble_eq_true rfl) ?_
  show ctV B mX1_work (0, 0, 0) (poI r n) 0 [some (.int x0), some (.int x1), some (.int x2)] [] (0, 0) n M
  unfold fX1_work at h
  refine ct_iload_0 (q := 1) dX1_work_0 rfl ?_
  by_cases z21 : x0 = 33
  · replace h := it_t h z21
    refine ct_lsw (q := 177) (off := 176) dX1_work_1 (by decide) (by rw [z21] <;> rfl) (by decide) ?_
    refine ct_iload_1 (q := 178) dX1_work_177 rfl ?_
    refine ct_if_ne (q := 181) (tgt := 185) dX1_work_178 (by decide) rfl (fun z22 => ?_) (fun z22 => ?_)
    · replace h := it_f h z22
      refine ct_iconst (v := 0) (q := 186) dX1_work_185 (by decide) rfl ?_
      exact ct_iret dX1_work_186 rfl ⟨Nat.le_refl 0, Nat.le_refl 0⟩ (poI_of h)
    · replace h := it_t h z22
      refine ct_iconst (v := 1) (q := 182) dX1_work_181 (by decide) rfl ?_
      refine ct_goto (q := 186) dX1_work_182 (by decide) ?_
      exact ct_iret dX1_work_186 rfl ⟨Nat.le_refl 0, Nat.le_refl 0⟩ (poI_of h)
  replace h := it_f h z21
  by_cases z23 : x0 = 38
  · replace h := it_t h z23
    refine ct_lsw (q := 106) (off := 105) dX1_work_1 (by decide) (by rw [z23] <;> rfl) (by decide) ?_
    refine ct_iload_1 (q := 107) dX1_work_106 rfl ?_
    refine ct_if_eq (q := 110) (tgt := 118) dX1_work_107 (by decide) rfl (fun z24 => ?_) (fun z24 => ?_)
    · replace h := it_t h z24
      refine ct_iconst (v := 0) (q := 119) dX1_work_118 (by decide) rfl ?_
      exact ct_iret dX1_work_119 rfl ⟨Nat.le_refl 0, Nat.le_refl 0⟩ (poI_of h)
    · replace h := it_f h z24
      refine ct_iload_2 (q := 111) dX1_work_110 rfl ?_
      refine ct_if_eq (q := 114) (tgt := 118) dX1_work_111 (by decide) rfl (fun z25 => ?_) (fun z25 => ?_)
      · replace h := it_t h z25
        refine ct_iconst (v := 0) (q := 119) dX1_work_118 (by decide) rfl ?_
        exact ct_iret dX1_work_119 rfl ⟨Nat.le_refl 0, Nat.le_refl 0⟩ (poI_of h)
      · replace h := it_f h z25
        refine ct_iconst (v := 1) (q := 115) dX1_work_114 (by decide) rfl ?_
        refine ct_goto (q := 119) dX1_work_115 (by decide) ?_
        exact ct_iret dX1_work_119 rfl ⟨Nat.le_refl 0, Nat.le_refl 0⟩ (poI_of h)
  replace h := it_f h z23
  by_cases z26 : x0 = 42
  · replace h := it_t h z26
    refine ct_lsw (q := 161) (off := 160) dX1_work_1 (by decide) (by rw [z26] <;> rfl) (by decide) ?_
    refine ct_iload_1 (q := 162) dX1_work_161 rfl ?_
    refine ct_iload_2 (q := 163) dX1_work_162 rfl ?_
    refine ct_imul (q := 164) dX1_work_163 rfl ?_
    exact ct_iret dX1_work_164 rfl ⟨Nat.le_refl 0, Nat.le_refl 0⟩ (poI_of h)
  replace h := it_f h z26
  by_cases z27 : x0 = 43
  · replace h := it_t h z27
    refine ct_lsw (q := 153) (off := 152) dX1_work_1 (by decide) (by rw [z27] <;> rfl) (by decide) ?_
    refine ct_iload_1 (q := 154) dX1_work_153 rfl ?_
    refine ct_iload_2 (q := 155) dX1_work_154 rfl ?_
    refine ct_iadd (q := 156) dX1_work_155 rfl ?_
    exact ct_iret dX1_work_156 rfl ⟨Nat.le_refl 0, Nat.le_refl 0⟩ (poI_of h)
  replace h := it_f h z27
  by_cases z28 : x0 = 45
  · replace h := it_t h z28
    refine ct_lsw (q := 157) (off := 156) dX1_work_1 (by decide) (by rw [z28] <;> rfl) (by decide) ?_
    refine ct_iload_1 (q := 158) dX1_work_157 rfl ?_
    refine ct_iload_2 (q := 159) dX1_work_158 rfl ?_
    refine ct_isub (q := 160) dX1_work_159 rfl ?_
    exact ct_iret dX1_work_160 rfl ⟨Nat.le_refl 0, Nat.le_refl 0⟩ (poI_of h)
  replace h := it_f h z28
  by_cases z29 : x0 = 47
  · replace h := it_t h z29
    refine ct_lsw (q := 165) (off := 164) dX1_work_1 (by decide) (by rw [z29] <;> rfl) (by decide) ?_
    refine ct_iload_2 (q := 166) dX1_work_165 rfl ?_
    refine ct_if_ne (q := 169) (tgt := 173) dX1_work_166 (by decide) rfl (fun z30 => ?_) (fun z30 => ?_)
    · replace h := it_f h z30
      refine ct_iload_1 (q := 174) dX1_work_173 rfl ?_
      refine ct_iload_2 (q := 175) dX1_work_174 rfl ?_
      by_cases z31 : x2 = 0
      · exact absurd (it_t h z31) (by simp)
      replace h := it_f h z31
      refine ct_idiv (q := 176) dX1_work_175 z31 rfl ?_
      exact ct_iret dX1_work_176 rfl ⟨Nat.le_refl 0, Nat.le_refl 0⟩ (poI_of h)
    · replace h := it_t h z30
      refine ct_iconst (v := 0) (q := 170) dX1_work_169 (by decide) rfl ?_
      refine ct_goto (q := 176) dX1_work_170 (by decide) ?_
      exact ct_iret dX1_work_176 rfl ⟨Nat.le_refl 0, Nat.le_refl 0⟩ (poI_of h)
  replace h := it_f h z29
  by_cases z32 : x0 = 60
  · replace h := it_t h z32
    refine ct_lsw (q := 120) (off := 119) dX1_work_1 (by decide) (by rw [z32] <;> rfl) (by decide) ?_
    refine ct_iload_1 (q := 121) dX1_work_120 rfl ?_
    refine ct_iload_2 (q := 122) dX1_work_121 rfl ?_
    refine ct_icmp_ge (q := 125) (tgt := 129) dX1_work_122 (by decide) rfl (fun z33 => ?_) (fun z33 => ?_)
    · replace h := it_t h z33
      refine ct_iconst (v := 0) (q := 130) dX1_work_129 (by decide) rfl ?_
      exact ct_iret dX1_work_130 rfl ⟨Nat.le_refl 0, Nat.le_refl 0⟩ (poI_of h)
    · replace h := it_f h z33
      refine ct_iconst (v := 1) (q := 126) dX1_work_125 (by decide) rfl ?_
      refine ct_goto (q := 130) dX1_work_126 (by decide) ?_
      exact ct_iret dX1_work_130 rfl ⟨Nat.le_refl 0, Nat.le_refl 0⟩ (poI_of h)
  replace h := it_f h z32
  by_cases z34 : x0 = 61
  · replace h := it_t h z34
    refine ct_lsw (q := 131) (off := 130) dX1_work_1 (by decide) (by rw [z34] <;> rfl) (by decide) ?_
    refine ct_iload_1 (q := 132) dX1_work_131 rfl ?_
    refine ct_iload_2 (q := 133) dX1_work_132 rfl ?_
    refine ct_icmp_ne (q := 136) (tgt := 140) dX1_work_133 (by decide) rfl (fun z35 => ?_) (fun z35 => ?_)
    · replace h := it_f h z35
      refine ct_iconst (v := 0) (q := 141) dX1_work_140 (by decide) rfl ?_
      exact ct_iret dX1_work_141 rfl ⟨Nat.le_refl 0, Nat.le_refl 0⟩ (poI_of h)
    · replace h := it_t h z35
      refine ct_iconst (v := 1) (q := 137) dX1_work_136 (by decide) rfl ?_
      refine ct_goto (q := 141) dX1_work_137 (by decide) ?_
      exact ct_iret dX1_work_141 rfl ⟨Nat.le_refl 0, Nat.le_refl 0⟩ (poI_of h)
  replace h := it_f h z34
  by_cases z36 : x0 = 62
  · replace h := it_t h z36
    refine ct_lsw (q := 142) (off := 141) dX1_work_1 (by decide) (by rw [z36] <;> rfl) (by decide) ?_
    refine ct_iload_1 (q := 143) dX1_work_142 rfl ?_
    refine ct_iload_2 (q := 144) dX1_work_143 rfl ?_
    refine ct_icmp_le (q := 147) (tgt := 151) dX1_work_144 (by decide) rfl (fun z37 => ?_) (fun z37 => ?_)
    · replace h := it_t h z37
      refine ct_iconst (v := 0) (q := 152) dX1_work_151 (by decide) rfl ?_
      exact ct_iret dX1_work_152 rfl ⟨Nat.le_refl 0, Nat.le_refl 0⟩ (poI_of h)
    · replace h := it_f h z37
      refine ct_iconst (v := 1) (q := 148) dX1_work_147 (by decide) rfl ?_
      refine ct_goto (q := 152) dX1_work_148 (by decide) ?_
      exact ct_iret dX1_work_152 rfl ⟨Nat.le_refl 0, Nat.le_refl 0⟩ (poI_of h)
  replace h := it_f h z36
  by_cases z38 : x0 = 124
  · replace h := it_t h z38
    refine ct_lsw (q := 92) (off := 91) dX1_work_1 (by decide) (by rw [z38] <;> rfl) (by decide) ?_
    refine ct_iload_1 (q := 93) dX1_work_92 rfl ?_
    refine ct_if_ne (q := 96) (tgt := 100) dX1_work_93 (by decide) rfl (fun z39 => ?_) (fun z39 => ?_)
    · replace h := it_f h z39
      exact ct_lessK (vX1_work_b100 hB   M r h) (trivial)
    · replace h := it_t h z39
      refine ct_iload_2 (q := 97) dX1_work_96 rfl ?_
      refine ct_if_eq (q := 100) (tgt := 104) dX1_work_97 (by decide) rfl (fun z40 => ?_) (fun z40 => ?_)
      · replace h := it_t h z40
        refine ct_iconst (v := 0) (q := 105) dX1_work_104 (by decide) rfl ?_
        exact ct_iret dX1_work_105 rfl ⟨Nat.le_refl 0, Nat.le_refl 0⟩ (poI_of h)
      · replace h := it_f h z40
        exact ct_lessK (vX1_work_b100 hB   M r h) (trivial)
  replace h := it_f h z38
  refine ct_lsw (q := 187) (off := 186) dX1_work_1 (by decide) (by show Op.lookupswitch.offset [(33, 176), (38, 105), (42, 160), (43, 152), (45, 156), (47, 164), (60, 119), (61, 130), (62, 141), (124, 91)] 186 _ = _; rw [lv_osw z21 (show Int32.toInt (33) = 33 by decide), lv_osw z23 (show Int32.toInt (38) = 38 by decide), lv_osw z26 (show Int32.toInt (42) = 42 by decide), lv_osw z27 (show Int32.toInt (43) = 43 by decide), lv_osw z28 (show Int32.toInt (45) = 45 by decide), lv_osw z29 (show Int32.toInt (47) = 47 by decide), lv_osw z32 (show Int32.toInt (60) = 60 by decide), lv_osw z34 (show Int32.toInt (61) = 61 by decide), lv_osw z36 (show Int32.toInt (62) = 62 by decide), lv_osw z38 (show Int32.toInt (124) = 124 by decide)]; rfl) (by decide) ?_
  refine ct_iconst (v := 0) (q := 188) dX1_work_187 (by decide) rfl ?_
  exact ct_iret dX1_work_188 rfl ⟨Nat.le_refl 0, Nat.le_refl 0⟩ (poI_of h)

def fX1_gives_b108 (k6 : Nat → Int32 → Int32 → Int32 → Int32 → Int32 → ctM → Option (Int32 × ctM)) (a0 : Nat) (x1 : Int32) (x2 : Int32) (x3 : Int32) (x4 : Int32) (x5 : Int32) (M : ctM) : Option (Int32 × ctM) :=
  (gP kdC 1 6 a0 M).bind fun a21 =>
  (sI kdC lnC 9 a21 x5 x4 M).bind fun M22 =>
  k6 a0 x1 x2 x3 x4 (x5 + 1) M22

set_option maxHeartbeats 4000000 in
set_option maxRecDepth 20000 in
theorem vX1_gives_b108 {B : ctB} {n : Nat} (hB : ctOk B kdC lnC n) {k6 : Nat → Int32 → Int32 → Int32 → Int32 → Int32 → ctM → Option (Int32 × ctM)} (hk6 : ∀ (a0 : Nat) (x1 : Int32) (x2 : Int32) (x3 : Int32) (x4 : Int32) (x5 : Int32) (M : ctM) (r : Int32 × ctM), k6 a0 x1 x2 x3 x4 x5 M = some r → ctV B mX1_gives (1, 0, 0) (poI r n) 6 [some (.ref a0), some (.int x1), some (.int x2), some (.int x3), some (.int x4), some (.int x5), none] [] (0, 0) n M) : ∀ (a0 : Nat) (x1 : Int32) (x2 : Int32) (x3 : Int32) (x4 : Int32) (x5 : Int32) (M : ctM) (r : Int32 × ctM), fX1_gives_b108 k6 a0 x1 x2 x3 x4 x5 M = some r → ctV B mX1_gives (1, 0, 0) (poI r n) 108 [some (.ref a0), some (.int x1), some (.int x2), some (.int x3), some (.int x4), some (.int x5), none] [] (0, 0) n M := by
  intro a0 x1 x2 x3 x4 x5 M r h
  unfold fX1_gives_b108 at h
  refine ct_aload_0 (q := 109) dX1_gives_108 rfl ?_
  obtain ⟨a21, ga21, h⟩ := ob h
  refine ct_getP (q := 112) hB dX1_gives_109 fl_RX1_31 rfl ga21 rfl ?_
  refine ct_iload_5 (q := 114) dX1_gives_112 rfl ?_
  refine ct_iload_4 (q := 116) dX1_gives_114 rfl ?_
  obtain ⟨M22, gM22, h⟩ := ob h
  refine ct_iast (q := 117) hB dX1_gives_116 gM22 rfl ?_
  refine ct_iinc_5 (q := 120) (v := x5 + 1) dX1_gives_117 (by first | rfl | decide) (by decide) rfl rfl ?_
  refine ct_goto (q := 6) dX1_gives_120 (by decide) ?_
  exact ct_lessK (hk6 a0 x1 x2 x3 x4 (x5 + 1) M22 r h) (And.intro rfl (And.intro rfl (And.intro rfl (And.intro rfl (And.intro rfl (And.intro rfl (trivial)))))))

def fX1_gives_b72 (k6 : Nat → Int32 → Int32 → Int32 → Int32 → Int32 → ctM → Option (Int32 × ctM)) (a0 : Nat) (x1 : Int32) (x2 : Int32) (x3 : Int32) (x5 : Int32) (xs0 : Int32) (M : ctM) : Option (Int32 × ctM) :=
  fX1_gives_b108 k6 a0 x1 x2 x3 xs0 x5 M

set_option maxHeartbeats 4000000 in
set_option maxRecDepth 20000 in
theorem vX1_gives_b72 {B : ctB} {n : Nat} (hB : ctOk B kdC lnC n) {k6 : Nat → Int32 → Int32 → Int32 → Int32 → Int32 → ctM → Option (Int32 × ctM)} (hk6 : ∀ (a0 : Nat) (x1 : Int32) (x2 : Int32) (x3 : Int32) (x4 : Int32) (x5 : Int32) (M : ctM) (r : Int32 × ctM), k6 a0 x1 x2 x3 x4 x5 M = some r → ctV B mX1_gives (1, 0, 0) (poI r n) 6 [some (.ref a0), some (.int x1), some (.int x2), some (.int x3), some (.int x4), some (.int x5), none] [] (0, 0) n M) : ∀ (a0 : Nat) (x1 : Int32) (x2 : Int32) (x3 : Int32) (x5 : Int32) (xs0 : Int32) (M : ctM) (r : Int32 × ctM), fX1_gives_b72 k6 a0 x1 x2 x3 x5 xs0 M = some r → ctV B mX1_gives (1, 0, 0) (poI r n) 72 [some (.ref a0), some (.int x1), some (.int x2), some (.int x3), none, some (.int x5), none] [.int xs0] (0, 0) n M := by
  intro a0 x1 x2 x3 x5 xs0 M r h
  unfold fX1_gives_b72 at h
  refine ct_istore_4 (q := 74) dX1_gives_72 (by decide) rfl rfl ?_
  refine ct_goto (q := 108) dX1_gives_74 (by decide) ?_
  exact ct_lessK (vX1_gives_b108 hB hk6 a0 x1 x2 x3 xs0 x5 M r h) (And.intro rfl (And.intro rfl (And.intro rfl (And.intro rfl (And.intro rfl (And.intro rfl (trivial)))))))

def fX1_gives_h6 : Nat → Nat → Int32 → Int32 → Int32 → Int32 → Int32 → ctM → Option (Int32 × ctM)
  | 0, _, _, _, _, _, _, _ => none
  | N + 1, a0, x1, x2, x3, x4, x5, M =>
    (gI kdC 1 2 a0 M).bind fun x21 =>
    if x21 ≤ x5 then
      some (x4, M)
    else
      (gP kdC 1 4 a0 M).bind fun a23 =>
      (aI kdC lnC 9 a23 x5 M).bind fun x24 =>
      (gP kdC 1 3 a0 M).bind fun a25 =>
      (aI kdC lnC 9 a25 x5 M).bind fun x26 =>
      if x26 = 0 then
        fX1_gives_b108 (fX1_gives_h6 N) a0 x1 x2 x3 x24 x5 M
      else
        (gP kdC 1 3 a0 M).bind fun a28 =>
        (aI kdC lnC 9 a28 x5 M).bind fun x29 =>
        if x29 = 1 then
          if x24 = 0 then
            fX1_gives_b72 (fX1_gives_h6 N) a0 x1 x2 x3 x5 x1 M
          else
            if x24 = 1 then
              fX1_gives_b72 (fX1_gives_h6 N) a0 x1 x2 x3 x5 x2 M
            else
              fX1_gives_b72 (fX1_gives_h6 N) a0 x1 x2 x3 x5 x3 M
        else
          (gP kdC 1 3 a0 M).bind fun a31 =>
          (aI kdC lnC 9 a31 x5 M).bind fun x32 =>
          (gP kdC 1 6 a0 M).bind fun a33 =>
          (aI kdC lnC 9 a33 x24 M).bind fun x34 =>
          (gP kdC 1 6 a0 M).bind fun a35 =>
          (gP kdC 1 5 a0 M).bind fun a36 =>
          (aI kdC lnC 9 a36 x5 M).bind fun x37 =>
          (aI kdC lnC 9 a35 x37 M).bind fun x38 =>
          (fX1_work x32 x34 x38 M).bind fun r39 =>
          fX1_gives_b108 (fX1_gives_h6 N) a0 x1 x2 x3 r39.1 x5 r39.2

set_option maxHeartbeats 4000000 in
set_option maxRecDepth 20000 in
theorem vX1_gives_h6 {B : ctB} {n : Nat} (hB : ctOk B kdC lnC n) : ∀ (N : Nat) (a0 : Nat) (x1 : Int32) (x2 : Int32) (x3 : Int32) (x4 : Int32) (x5 : Int32) (M : ctM) (r : Int32 × ctM), fX1_gives_h6 N a0 x1 x2 x3 x4 x5 M = some r → ctV B mX1_gives (1, 0, 0) (poI r n) 6 [some (.ref a0), some (.int x1), some (.int x2), some (.int x3), some (.int x4), some (.int x5), none] [] (0, 0) n M := by
  intro N
  induction N with
  | zero => intro a0 x1 x2 x3 x4 x5 M r h; exact absurd h (by simp [fX1_gives_h6])
  | succ N ih =>
    intro a0 x1 x2 x3 x4 x5 M r h
    rw [fX1_gives_h6] at h
    refine ct_iload_5 (q := 8) dX1_gives_6 rfl ?_
    refine ct_aload_0 (q := 9) dX1_gives_8 rfl ?_
    obtain ⟨x21, gx21, h⟩ := ob h
    refine ct_getI (q := 12) hB dX1_gives_9 fl_RX1_18 rfl gx21 rfl ?_
    refine ct_icmp_ge (q := 15) (tgt := 123) dX1_gives_12 (by decide) rfl (fun z22 => ?_) (fun z22 => ?_)
    · replace h := it_t h z22
      refine ct_iload_4 (q := 125) dX1_gives_123 rfl ?_
      exact ct_iret dX1_gives_125 rfl ⟨Nat.le_refl 0, Nat.le_refl 0⟩ (poI_of h)
    · replace h := it_f h z22
      refine ct_aload_0 (q := 16) dX1_gives_15 rfl ?_
      obtain ⟨a23, ga23, h⟩ := ob h
      refine ct_getP (q := 19) hB dX1_gives_16 fl_RX1_25 rfl ga23 rfl ?_
      refine ct_iload_5 (q := 21) dX1_gives_19 rfl ?_
      obtain ⟨x24, gx24, h⟩ := ob h
      refine ct_iald (q := 22) hB dX1_gives_21 gx24 rfl ?_
      refine ct_istore_6 (q := 24) dX1_gives_22 (by decide) rfl rfl ?_
      refine ct_aload_0 (q := 25) dX1_gives_24 rfl ?_
      obtain ⟨a25, ga25, h⟩ := ob h
      refine ct_getP (q := 28) hB dX1_gives_25 fl_RX1_21 rfl ga25 rfl ?_
      refine ct_iload_5 (q := 30) dX1_gives_28 rfl ?_
      obtain ⟨x26, gx26, h⟩ := ob h
      refine ct_iald (q := 31) hB dX1_gives_30 gx26 rfl ?_
      refine ct_if_ne (q := 34) (tgt := 41) dX1_gives_31 (by decide) rfl (fun z27 => ?_) (fun z27 => ?_)
      · replace h := it_f h z27
        refine ct_aload_0 (q := 42) dX1_gives_41 rfl ?_
        obtain ⟨a28, ga28, h⟩ := ob h
        refine ct_getP (q := 45) hB dX1_gives_42 fl_RX1_21 rfl ga28 rfl ?_
        refine ct_iload_5 (q := 47) dX1_gives_45 rfl ?_
        obtain ⟨x29, gx29, h⟩ := ob h
        refine ct_iald (q := 48) hB dX1_gives_47 gx29 rfl ?_
        refine ct_iconst (v := 1) (q := 49) dX1_gives_48 (by decide) rfl ?_
        refine ct_icmp_ne (q := 52) (tgt := 77) dX1_gives_49 (by decide) rfl (fun z30 => ?_) (fun z30 => ?_)
        · replace h := it_f h z30
          refine ct_aload_0 (q := 78) dX1_gives_77 rfl ?_
          obtain ⟨a31, ga31, h⟩ := ob h
          refine ct_getP (q := 81) hB dX1_gives_78 fl_RX1_21 rfl ga31 rfl ?_
          refine ct_iload_5 (q := 83) dX1_gives_81 rfl ?_
          obtain ⟨x32, gx32, h⟩ := ob h
          refine ct_iald (q := 84) hB dX1_gives_83 gx32 rfl ?_
          refine ct_aload_0 (q := 85) dX1_gives_84 rfl ?_
          obtain ⟨a33, ga33, h⟩ := ob h
          refine ct_getP (q := 88) hB dX1_gives_85 fl_RX1_31 rfl ga33 rfl ?_
          refine ct_iload_6 (q := 90) dX1_gives_88 rfl ?_
          obtain ⟨x34, gx34, h⟩ := ob h
          refine ct_iald (q := 91) hB dX1_gives_90 gx34 rfl ?_
          refine ct_aload_0 (q := 92) dX1_gives_91 rfl ?_
          obtain ⟨a35, ga35, h⟩ := ob h
          refine ct_getP (q := 95) hB dX1_gives_92 fl_RX1_31 rfl ga35 rfl ?_
          refine ct_aload_0 (q := 96) dX1_gives_95 rfl ?_
          obtain ⟨a36, ga36, h⟩ := ob h
          refine ct_getP (q := 99) hB dX1_gives_96 fl_RX1_28 rfl ga36 rfl ?_
          refine ct_iload_5 (q := 101) dX1_gives_99 rfl ?_
          obtain ⟨x37, gx37, h⟩ := ob h
          refine ct_iald (q := 102) hB dX1_gives_101 gx37 rfl ?_
          obtain ⟨x38, gx38, h⟩ := ob h
          refine ct_iald (q := 103) hB dX1_gives_102 gx38 rfl ?_
          obtain ⟨r39, gr39, h⟩ := ob h
          refine ct_cSi3 (q := 106) dX1_gives_103 lk_RX1_42 (by decide) (ctX1_work hB gr39) (Nat.le_of_ble_eq_true rfl) rfl ?_
          refine ct_istore_4 (q := 108) dX1_gives_106 (by decide) rfl rfl ?_
          exact ct_lessK (vX1_gives_b108 hB ih a0 x1 x2 x3 r39.1 x5 r39.2 r h) (And.intro rfl (And.intro rfl (And.intro rfl (And.intro rfl (And.intro rfl (And.intro rfl (trivial)))))))
        · replace h := it_t h z30
          refine ct_iload_6 (q := 54) dX1_gives_52 rfl ?_
          refine ct_if_ne (q := 57) (tgt := 61) dX1_gives_54 (by decide) rfl (fun z40 => ?_) (fun z40 => ?_)
          · replace h := it_f h z40
            refine ct_iload_6 (q := 63) dX1_gives_61 rfl ?_
            refine ct_iconst (v := 1) (q := 64) dX1_gives_63 (by decide) rfl ?_
            refine ct_icmp_ne (q := 67) (tgt := 71) dX1_gives_64 (by decide) rfl (fun z41 => ?_) (fun z41 => ?_)
            · replace h := it_f h z41
              refine ct_iload_3 (q := 72) dX1_gives_71 rfl ?_
              exact ct_lessK (vX1_gives_b72 hB ih a0 x1 x2 x3 x5 x3 M r h) (And.intro rfl (And.intro rfl (And.intro rfl (And.intro rfl (And.intro rfl (trivial))))))
            · replace h := it_t h z41
              refine ct_iload_2 (q := 68) dX1_gives_67 rfl ?_
              refine ct_goto (q := 72) dX1_gives_68 (by decide) ?_
              exact ct_lessK (vX1_gives_b72 hB ih a0 x1 x2 x3 x5 x2 M r h) (And.intro rfl (And.intro rfl (And.intro rfl (And.intro rfl (And.intro rfl (trivial))))))
          · replace h := it_t h z40
            refine ct_iload_1 (q := 58) dX1_gives_57 rfl ?_
            refine ct_goto (q := 72) dX1_gives_58 (by decide) ?_
            exact ct_lessK (vX1_gives_b72 hB ih a0 x1 x2 x3 x5 x1 M r h) (And.intro rfl (And.intro rfl (And.intro rfl (And.intro rfl (And.intro rfl (trivial))))))
      · replace h := it_t h z27
        refine ct_iload_6 (q := 36) dX1_gives_34 rfl ?_
        refine ct_istore_4 (q := 38) dX1_gives_36 (by decide) rfl rfl ?_
        refine ct_goto (q := 108) dX1_gives_38 (by decide) ?_
        exact ct_lessK (vX1_gives_b108 hB ih a0 x1 x2 x3 x24 x5 M r h) (And.intro rfl (And.intro rfl (And.intro rfl (And.intro rfl (And.intro rfl (And.intro rfl (trivial)))))))

def fX1_gives (a0 : Nat) (x1 : Int32) (x2 : Int32) (x3 : Int32) (M : ctM) : Option (Int32 × ctM) :=
  fX1_gives_h6 4000 a0 x1 x2 x3 0 0 M

set_option maxHeartbeats 4000000 in
set_option maxRecDepth 20000 in
theorem ctX1_gives {B : ctB} {n : Nat} (hB : ctOk B kdC lnC n) {a0 : Nat} {x1 : Int32} {x2 : Int32} {x3 : Int32} {M : ctM} {r : Int32 × ctM} (h : fX1_gives a0 x1 x2 x3 M = some r) : ctC B mX1_gives (1, 0, 0) [.ref a0, .int x1, .int x2, .int x3] n M (poI r n) := by
  refine ctC_of (by decide) (Nat.le_of_ble_eq_true rfl) ?_
  show ctV B mX1_gives (1, 0, 0) (poI r n) 0 [some (.ref a0), some (.int x1), some (.int x2), some (.int x3), none, none, none] [] (0, 0) n M
  unfold fX1_gives at h
  refine ct_iconst (v := 0) (q := 1) dX1_gives_0 (by decide) rfl ?_
  refine ct_istore_4 (q := 3) dX1_gives_1 (by decide) rfl rfl ?_
  refine ct_iconst (v := 0) (q := 4) dX1_gives_3 (by decide) rfl ?_
  refine ct_istore_5 (q := 6) dX1_gives_4 (by decide) rfl rfl ?_
  exact ct_lessK (vX1_gives_h6 hB  4000 a0 x1 x2 x3 0 0 M r h) (And.intro rfl (And.intro rfl (And.intro rfl (And.intro rfl (And.intro rfl (And.intro rfl (trivial)))))))

def fX2_become_h43 : Nat → Nat → Nat → Int32 → ctM → Option (ctM)
  | 0, _, _, _, _ => none
  | N + 1, a0, a1, x2, M =>
    if 3 ≤ x2 then
      (gI kdC 2 5 a1 M).bind fun x22 =>
      (pI kdC 2 5 a0 x22 M).bind fun M23 =>
      (gI kdC 2 6 a1 M23).bind fun x24 =>
      (pI kdC 2 6 a0 x24 M23).bind fun M25 =>
      (gI kdC 2 7 a1 M25).bind fun x26 =>
      (pI kdC 2 7 a0 x26 M25).bind fun M27 =>
      (gI kdC 2 8 a1 M27).bind fun x28 =>
      (pI kdC 2 8 a0 x28 M27).bind fun M29 =>
      (gI kdC 2 9 a1 M29).bind fun x30 =>
      (pI kdC 2 9 a0 x30 M29).bind fun M31 =>
      (gI kdC 2 10 a1 M31).bind fun x32 =>
      (pI kdC 2 10 a0 x32 M31).bind fun M33 =>
      some M33
    else
      (gP kdC 2 4 a0 M).bind fun a34 =>
      (gP kdC 2 4 a1 M).bind fun a35 =>
      (aI kdC lnC 9 a35 x2 M).bind fun x36 =>
      (sI kdC lnC 9 a34 x2 x36 M).bind fun M37 =>
      fX2_become_h43 N a0 a1 (x2 + 1) M37

set_option maxHeartbeats 4000000 in
set_option maxRecDepth 20000 in
theorem vX2_become_h43 {B : ctB} {n : Nat} (hB : ctOk B kdC lnC n) : ∀ (N : Nat) (a0 : Nat) (a1 : Nat) (x2 : Int32) (M : ctM) (r : ctM), fX2_become_h43 N a0 a1 x2 M = some r → ctV B mX2_become (1, 0, 0) (poV r n) 43 [some (.ref a0), some (.ref a1), some (.int x2)] [] (0, 0) n M := by
  intro N
  induction N with
  | zero => intro a0 a1 x2 M r h; exact absurd h (by simp [fX2_become_h43])
  | succ N ih =>
    intro a0 a1 x2 M r h
    rw [fX2_become_h43] at h
    refine ct_iload_2 (q := 44) dX2_become_43 rfl ?_
    refine ct_iconst (v := 3) (q := 45) dX2_become_44 (by decide) rfl ?_
    refine ct_icmp_ge (q := 48) (tgt := 66) dX2_become_45 (by decide) rfl (fun z21 => ?_) (fun z21 => ?_)
    · replace h := it_t h z21
      refine ct_aload_0 (q := 67) dX2_become_66 rfl ?_
      refine ct_aload_1 (q := 68) dX2_become_67 rfl ?_
      obtain ⟨x22, gx22, h⟩ := ob h
      refine ct_getI (q := 71) hB dX2_become_68 fl_RX2_27 rfl gx22 rfl ?_
      obtain ⟨M23, gM23, h⟩ := ob h
      refine ct_putI (q := 74) hB dX2_become_71 fl_RX2_27 rfl rfl (Or.inl rfl) gM23 rfl ?_
      refine ct_aload_0 (q := 75) dX2_become_74 rfl ?_
      refine ct_aload_1 (q := 76) dX2_become_75 rfl ?_
      obtain ⟨x24, gx24, h⟩ := ob h
      refine ct_getI (q := 79) hB dX2_become_76 fl_RX2_31 rfl gx24 rfl ?_
      obtain ⟨M25, gM25, h⟩ := ob h
      refine ct_putI (q := 82) hB dX2_become_79 fl_RX2_31 rfl rfl (Or.inl rfl) gM25 rfl ?_
      refine ct_aload_0 (q := 83) dX2_become_82 rfl ?_
      refine ct_aload_1 (q := 84) dX2_become_83 rfl ?_
      obtain ⟨x26, gx26, h⟩ := ob h
      refine ct_getI (q := 87) hB dX2_become_84 fl_RX2_34 rfl gx26 rfl ?_
      obtain ⟨M27, gM27, h⟩ := ob h
      refine ct_putI (q := 90) hB dX2_become_87 fl_RX2_34 rfl rfl (Or.inl rfl) gM27 rfl ?_
      refine ct_aload_0 (q := 91) dX2_become_90 rfl ?_
      refine ct_aload_1 (q := 92) dX2_become_91 rfl ?_
      obtain ⟨x28, gx28, h⟩ := ob h
      refine ct_getI (q := 95) hB dX2_become_92 fl_RX2_37 rfl gx28 rfl ?_
      obtain ⟨M29, gM29, h⟩ := ob h
      refine ct_putI (q := 98) hB dX2_become_95 fl_RX2_37 rfl rfl (Or.inl rfl) gM29 rfl ?_
      refine ct_aload_0 (q := 99) dX2_become_98 rfl ?_
      refine ct_aload_1 (q := 100) dX2_become_99 rfl ?_
      obtain ⟨x30, gx30, h⟩ := ob h
      refine ct_getI (q := 103) hB dX2_become_100 fl_RX2_40 rfl gx30 rfl ?_
      obtain ⟨M31, gM31, h⟩ := ob h
      refine ct_putI (q := 106) hB dX2_become_103 fl_RX2_40 rfl rfl (Or.inl rfl) gM31 rfl ?_
      refine ct_aload_0 (q := 107) dX2_become_106 rfl ?_
      refine ct_aload_1 (q := 108) dX2_become_107 rfl ?_
      obtain ⟨x32, gx32, h⟩ := ob h
      refine ct_getI (q := 111) hB dX2_become_108 fl_RX2_43 rfl gx32 rfl ?_
      obtain ⟨M33, gM33, h⟩ := ob h
      refine ct_putI (q := 114) hB dX2_become_111 fl_RX2_43 rfl rfl (Or.inl rfl) gM33 rfl ?_
      exact ct_vret dX2_become_114 rfl ⟨Nat.le_refl 0, Nat.le_refl 0⟩ (poV_of h)
    · replace h := it_f h z21
      refine ct_aload_0 (q := 49) dX2_become_48 rfl ?_
      obtain ⟨a34, ga34, h⟩ := ob h
      refine ct_getP (q := 52) hB dX2_become_49 fl_RX2_24 rfl ga34 rfl ?_
      refine ct_iload_2 (q := 53) dX2_become_52 rfl ?_
      refine ct_aload_1 (q := 54) dX2_become_53 rfl ?_
      obtain ⟨a35, ga35, h⟩ := ob h
      refine ct_getP (q := 57) hB dX2_become_54 fl_RX2_24 rfl ga35 rfl ?_
      refine ct_iload_2 (q := 58) dX2_become_57 rfl ?_
      obtain ⟨x36, gx36, h⟩ := ob h
      refine ct_iald (q := 59) hB dX2_become_58 gx36 rfl ?_
      obtain ⟨M37, gM37, h⟩ := ob h
      refine ct_iast (q := 60) hB dX2_become_59 gM37 rfl ?_
      refine ct_iinc_2 (q := 63) (v := x2 + 1) dX2_become_60 (by first | rfl | decide) (by decide) rfl rfl ?_
      refine ct_goto (q := 43) dX2_become_63 (by decide) ?_
      exact ct_lessK (ih a0 a1 (x2 + 1) M37 r h) (And.intro rfl (And.intro rfl (And.intro rfl (trivial))))

def fX2_become_h2 : Nat → Nat → Nat → Int32 → ctM → Option (ctM)
  | 0, _, _, _, _ => none
  | N + 1, a0, a1, x2, M =>
    if 8 ≤ x2 then
      fX2_become_h43 4000 a0 a1 0 M
    else
      (gP kdC 2 1 a0 M).bind fun a22 =>
      (aP kdC lnC 11 a22 x2 M).bind fun a23 =>
      (gP kdC 2 1 a1 M).bind fun a24 =>
      (aP kdC lnC 11 a24 x2 M).bind fun a25 =>
      (cV kdC 0 a23 (fX0_become a23 a25 M)).bind fun r26 =>
      (gP kdC 2 2 a0 r26).bind fun a27 =>
      (gP kdC 2 2 a1 r26).bind fun a28 =>
      (aI kdC lnC 9 a28 x2 r26).bind fun x29 =>
      (sI kdC lnC 9 a27 x2 x29 r26).bind fun M30 =>
      fX2_become_h2 N a0 a1 (x2 + 1) M30

set_option maxHeartbeats 4000000 in
set_option maxRecDepth 20000 in
theorem vX2_become_h2 {B : ctB} {n : Nat} (hB : ctOk B kdC lnC n) : ∀ (N : Nat) (a0 : Nat) (a1 : Nat) (x2 : Int32) (M : ctM) (r : ctM), fX2_become_h2 N a0 a1 x2 M = some r → ctV B mX2_become (1, 0, 0) (poV r n) 2 [some (.ref a0), some (.ref a1), some (.int x2)] [] (0, 0) n M := by
  intro N
  induction N with
  | zero => intro a0 a1 x2 M r h; exact absurd h (by simp [fX2_become_h2])
  | succ N ih =>
    intro a0 a1 x2 M r h
    rw [fX2_become_h2] at h
    refine ct_iload_2 (q := 3) dX2_become_2 rfl ?_
    refine ct_bipush (v := 8) (q := 5) dX2_become_3 (by decide) rfl ?_
    refine ct_icmp_ge (q := 8) (tgt := 41) dX2_become_5 (by decide) rfl (fun z21 => ?_) (fun z21 => ?_)
    · replace h := it_t h z21
      refine ct_iconst (v := 0) (q := 42) dX2_become_41 (by decide) rfl ?_
      refine ct_istore_2 (q := 43) dX2_become_42 (by decide) rfl rfl ?_
      exact ct_lessK (vX2_become_h43 hB  4000 a0 a1 0 M r h) (And.intro rfl (And.intro rfl (And.intro rfl (trivial))))
    · replace h := it_f h z21
      refine ct_aload_0 (q := 9) dX2_become_8 rfl ?_
      obtain ⟨a22, ga22, h⟩ := ob h
      refine ct_getP (q := 12) hB dX2_become_9 fl_RX2_11 rfl ga22 rfl ?_
      refine ct_iload_2 (q := 13) dX2_become_12 rfl ?_
      obtain ⟨a23, ga23, h⟩ := ob h
      refine ct_aald (q := 14) rfl hB dX2_become_13 ga23 rfl ?_
      refine ct_aload_1 (q := 15) dX2_become_14 rfl ?_
      obtain ⟨a24, ga24, h⟩ := ob h
      refine ct_getP (q := 18) hB dX2_become_15 fl_RX2_11 rfl ga24 rfl ?_
      refine ct_iload_2 (q := 19) dX2_become_18 rfl ?_
      obtain ⟨a25, ga25, h⟩ := ob h
      refine ct_aald (q := 20) rfl hB dX2_become_19 ga25 rfl ?_
      obtain ⟨r26, gr26, h⟩ := ob h
      obtain ⟨er26, gr26⟩ := cV_spec gr26
      refine ct_cVv1 (q := 23) hB dX2_become_20 lk_RX2_51 (by decide) (ctX0_become hB gr26) er26 (by decide) rfl (Nat.le_of_ble_eq_true rfl) rfl ?_
      refine ct_aload_0 (q := 24) dX2_become_23 rfl ?_
      obtain ⟨a27, ga27, h⟩ := ob h
      refine ct_getP (q := 27) hB dX2_become_24 fl_RX2_17 rfl ga27 rfl ?_
      refine ct_iload_2 (q := 28) dX2_become_27 rfl ?_
      refine ct_aload_1 (q := 29) dX2_become_28 rfl ?_
      obtain ⟨a28, ga28, h⟩ := ob h
      refine ct_getP (q := 32) hB dX2_become_29 fl_RX2_17 rfl ga28 rfl ?_
      refine ct_iload_2 (q := 33) dX2_become_32 rfl ?_
      obtain ⟨x29, gx29, h⟩ := ob h
      refine ct_iald (q := 34) hB dX2_become_33 gx29 rfl ?_
      obtain ⟨M30, gM30, h⟩ := ob h
      refine ct_iast (q := 35) hB dX2_become_34 gM30 rfl ?_
      refine ct_iinc_2 (q := 38) (v := x2 + 1) dX2_become_35 (by first | rfl | decide) (by decide) rfl rfl ?_
      refine ct_goto (q := 2) dX2_become_38 (by decide) ?_
      exact ct_lessK (ih a0 a1 (x2 + 1) M30 r h) (And.intro rfl (And.intro rfl (And.intro rfl (trivial))))

def fX2_become (a0 : Nat) (a1 : Nat) (M : ctM) : Option (ctM) :=
  fX2_become_h2 4000 a0 a1 0 M

set_option maxHeartbeats 4000000 in
set_option maxRecDepth 20000 in
theorem ctX2_become {B : ctB} {n : Nat} (hB : ctOk B kdC lnC n) {a0 : Nat} {a1 : Nat} {M : ctM} {r : ctM} (h : fX2_become a0 a1 M = some r) : ctC B mX2_become (1, 0, 0) [.ref a0, .ref a1] n M (poV r n) := by
  refine ctC_of (by decide) (Nat.le_of_ble_eq_true rfl) ?_
  show ctV B mX2_become (1, 0, 0) (poV r n) 0 [some (.ref a0), some (.ref a1), none] [] (0, 0) n M
  unfold fX2_become at h
  refine ct_iconst (v := 0) (q := 1) dX2_become_0 (by decide) rfl ?_
  refine ct_istore_2 (q := 2) dX2_become_1 (by decide) rfl rfl ?_
  exact ct_lessK (vX2_become_h2 hB  4000 a0 a1 0 M r h) (And.intro rfl (And.intro rfl (And.intro rfl (trivial))))

def fX2_lightOne (a0 : Nat) (x1 : Int32) (x2 : Int32) (x3 : Int32) (x4 : Int32) (M : ctM) : Option (Int32 × ctM) :=
  (gI kdC 2 5 a0 M).bind fun x21 =>
  if x21 < 8 then
    (gP kdC 2 1 a0 M).bind fun a23 =>
    (gI kdC 2 5 a0 M).bind fun x24 =>
    (aP kdC lnC 11 a23 x24 M).bind fun a25 =>
    (cV kdC 0 a25 (fX0_light a25 x1 x2 x3 x4 M)).bind fun r26 =>
    (gI kdC 2 5 a0 r26).bind fun x27 =>
    (pI kdC 2 5 a0 (x27 + 1) r26).bind fun M28 =>
    (gI kdC 2 5 a0 M28).bind fun x29 =>
    some ((x29 - 1), M28)
  else
    some ((-1000000003), M)

set_option maxHeartbeats 4000000 in
set_option maxRecDepth 20000 in
theorem ctX2_lightOne {B : ctB} {n : Nat} (hB : ctOk B kdC lnC n) {a0 : Nat} {x1 : Int32} {x2 : Int32} {x3 : Int32} {x4 : Int32} {M : ctM} {r : Int32 × ctM} (h : fX2_lightOne a0 x1 x2 x3 x4 M = some r) : ctC B mX2_lightOne (1, 0, 0) [.ref a0, .int x1, .int x2, .int x3, .int x4] n M (poI r n) := by
  refine ctC_of (by decide) (Nat.le_of_ble_eq_true rfl) ?_
  show ctV B mX2_lightOne (1, 0, 0) (poI r n) 0 [some (.ref a0), some (.int x1), some (.int x2), some (.int x3), some (.int x4)] [] (0, 0) n M
  unfold fX2_lightOne at h
  refine ct_aload_0 (q := 1) dX2_lightOne_0 rfl ?_
  obtain ⟨x21, gx21, h⟩ := ob h
  refine ct_getI (q := 4) hB dX2_lightOne_1 fl_RX2_27 rfl gx21 rfl ?_
  refine ct_bipush (v := 8) (q := 6) dX2_lightOne_4 (by decide) rfl ?_
  refine ct_icmp_lt (q := 9) (tgt := 12) dX2_lightOne_6 (by decide) rfl (fun z22 => ?_) (fun z22 => ?_)
  · replace h := it_t h z22
    refine ct_aload_0 (q := 13) dX2_lightOne_12 rfl ?_
    obtain ⟨a23, ga23, h⟩ := ob h
    refine ct_getP (q := 16) hB dX2_lightOne_13 fl_RX2_11 rfl ga23 rfl ?_
    refine ct_aload_0 (q := 17) dX2_lightOne_16 rfl ?_
    obtain ⟨x24, gx24, h⟩ := ob h
    refine ct_getI (q := 20) hB dX2_lightOne_17 fl_RX2_27 rfl gx24 rfl ?_
    obtain ⟨a25, ga25, h⟩ := ob h
    refine ct_aald (q := 21) rfl hB dX2_lightOne_20 ga25 rfl ?_
    refine ct_iload_1 (q := 22) dX2_lightOne_21 rfl ?_
    refine ct_iload_2 (q := 23) dX2_lightOne_22 rfl ?_
    refine ct_iload_3 (q := 24) dX2_lightOne_23 rfl ?_
    refine ct_iload_4 (q := 26) dX2_lightOne_24 rfl ?_
    obtain ⟨r26, gr26, h⟩ := ob h
    obtain ⟨er26, gr26⟩ := cV_spec gr26
    refine ct_cVv4 (q := 29) hB dX2_lightOne_26 lk_RX2_56 (by decide) (ctX0_light hB gr26) er26 (by decide) rfl (Nat.le_of_ble_eq_true rfl) rfl ?_
    refine ct_aload_0 (q := 30) dX2_lightOne_29 rfl ?_
    refine ct_dup (q := 31) dX2_lightOne_30 rfl rfl ?_
    obtain ⟨x27, gx27, h⟩ := ob h
    refine ct_getI (q := 34) hB dX2_lightOne_31 fl_RX2_27 rfl gx27 rfl ?_
    refine ct_iconst (v := 1) (q := 35) dX2_lightOne_34 (by decide) rfl ?_
    refine ct_iadd (q := 36) dX2_lightOne_35 rfl ?_
    obtain ⟨M28, gM28, h⟩ := ob h
    refine ct_putI (q := 39) hB dX2_lightOne_36 fl_RX2_27 rfl rfl (Or.inl rfl) gM28 rfl ?_
    refine ct_aload_0 (q := 40) dX2_lightOne_39 rfl ?_
    obtain ⟨x29, gx29, h⟩ := ob h
    refine ct_getI (q := 43) hB dX2_lightOne_40 fl_RX2_27 rfl gx29 rfl ?_
    refine ct_iconst (v := 1) (q := 44) dX2_lightOne_43 (by decide) rfl ?_
    refine ct_isub (q := 45) dX2_lightOne_44 rfl ?_
    exact ct_iret dX2_lightOne_45 rfl ⟨Nat.le_refl 0, Nat.le_refl 0⟩ (poI_of h)
  · replace h := it_f h z22
    refine ct_ldc (q := 11) dX2_lightOne_9 wd_324 rfl ?_
    exact ct_iret dX2_lightOne_11 rfl ⟨Nat.le_refl 0, Nat.le_refl 0⟩ (poI_of h)

def fX2_draw (a0 : Nat) (M : ctM) : Option (Int32 × ctM) :=
  (gI kdC 2 9 a0 M).bind fun x21 =>
  (pI kdC 2 9 a0 ((x21 * 1103515245) + 12345) M).bind fun M22 =>
  (gI kdC 2 9 a0 M22).bind fun x23 =>
  some (((x23 : Int32).toUInt32 >>> ((8 : Int32).toUInt32 &&& Int32.toUInt32 31)).toInt32, M22)

set_option maxHeartbeats 4000000 in
set_option maxRecDepth 20000 in
theorem ctX2_draw {B : ctB} {n : Nat} (hB : ctOk B kdC lnC n) {a0 : Nat} {M : ctM} {r : Int32 × ctM} (h : fX2_draw a0 M = some r) : ctC B mX2_draw (0, 0, 0) [.ref a0] n M (poI r n) := by
  refine ctC_of (by decide) (Nat.le_of_ble_eq_true rfl) ?_
  show ctV B mX2_draw (0, 0, 0) (poI r n) 0 [some (.ref a0)] [] (0, 0) n M
  unfold fX2_draw at h
  refine ct_aload_0 (q := 1) dX2_draw_0 rfl ?_
  refine ct_aload_0 (q := 2) dX2_draw_1 rfl ?_
  obtain ⟨x21, gx21, h⟩ := ob h
  refine ct_getI (q := 5) hB dX2_draw_2 fl_RX2_40 rfl gx21 rfl ?_
  refine ct_ldc (q := 7) dX2_draw_5 wd_452 rfl ?_
  refine ct_imul (q := 8) dX2_draw_7 rfl ?_
  refine ct_sipush (v := 12345) (q := 11) dX2_draw_8 (by decide) rfl ?_
  refine ct_iadd (q := 12) dX2_draw_11 rfl ?_
  obtain ⟨M22, gM22, h⟩ := ob h
  refine ct_putI (q := 15) hB dX2_draw_12 fl_RX2_40 rfl rfl (Or.inl rfl) gM22 rfl ?_
  refine ct_aload_0 (q := 16) dX2_draw_15 rfl ?_
  obtain ⟨x23, gx23, h⟩ := ob h
  refine ct_getI (q := 19) hB dX2_draw_16 fl_RX2_40 rfl gx23 rfl ?_
  refine ct_bipush (v := 8) (q := 21) dX2_draw_19 (by decide) rfl ?_
  refine ct_iushr (q := 22) dX2_draw_21 rfl ?_
  exact ct_iret dX2_draw_22 rfl ⟨Nat.le_refl 0, Nat.le_refl 0⟩ (poI_of h)

def fX2_drawOne (a0 : Nat) (M : ctM) : Option (ctM) :=
  (cV kdC 2 a0 (fX2_draw a0 M)).bind fun r21 =>
  (cV kdC 2 a0 (fX2_draw a0 r21.2)).bind fun r22 =>
  (cV kdC 2 a0 (fX2_draw a0 r22.2)).bind fun r23 =>
  (cV kdC 2 a0 (fX2_draw a0 r23.2)).bind fun r24 =>
  (cV kdC 2 a0 (fX2_draw a0 r24.2)).bind fun r25 =>
  (cV kdC 2 a0 (fX2_lightOne a0 (r21.1 % 5) (r22.1 % 30) (r23.1 % 30) (1 + (r24.1 % 9)) r25.2)).bind fun r26 =>
  if r26.1 < 0 then
    some r26.2
  else
    (gP kdC 2 1 a0 r26.2).bind fun a28 =>
    (aP kdC lnC 11 a28 r26.1 r26.2).bind fun a29 =>
    (pI kdC 0 4 a29 (r25.1 % 120) r26.2).bind fun M30 =>
    some M30

set_option maxHeartbeats 4000000 in
set_option maxRecDepth 20000 in
theorem ctX2_drawOne {B : ctB} {n : Nat} (hB : ctOk B kdC lnC n) {a0 : Nat} {M : ctM} {r : ctM} (h : fX2_drawOne a0 M = some r) : ctC B mX2_drawOne (2, 0, 0) [.ref a0] n M (poV r n) := by
  refine ctC_of (by decide) (Nat.le_of_ble_eq_true rfl) ?_
  show ctV B mX2_drawOne (2, 0, 0) (poV r n) 0 [some (.ref a0), none, none, none, none, none, none] [] (0, 0) n M
  unfold fX2_drawOne at h
  refine ct_aload_0 (q := 1) dX2_drawOne_0 rfl ?_
  obtain ⟨r21, gr21, h⟩ := ob h
  obtain ⟨er21, gr21⟩ := cV_spec gr21
  refine ct_cVi0 (q := 4) hB dX2_drawOne_1 lk_RX2_60 (by decide) (ctX2_draw hB gr21) er21 (by decide) rfl (Nat.le_of_ble_eq_true rfl) rfl ?_
  refine ct_iconst (v := 5) (q := 5) dX2_drawOne_4 (by decide) rfl ?_
  refine ct_irem (q := 6) dX2_drawOne_5 (by decide) rfl ?_
  refine ct_istore_1 (q := 7) dX2_drawOne_6 (by decide) rfl rfl ?_
  refine ct_aload_0 (q := 8) dX2_drawOne_7 rfl ?_
  obtain ⟨r22, gr22, h⟩ := ob h
  obtain ⟨er22, gr22⟩ := cV_spec gr22
  refine ct_cVi0 (q := 11) hB dX2_drawOne_8 lk_RX2_60 (by decide) (ctX2_draw hB gr22) er22 (by decide) rfl (Nat.le_of_ble_eq_true rfl) rfl ?_
  refine ct_bipush (v := 30) (q := 13) dX2_drawOne_11 (by decide) rfl ?_
  refine ct_irem (q := 14) dX2_drawOne_13 (by decide) rfl ?_
  refine ct_istore_2 (q := 15) dX2_drawOne_14 (by decide) rfl rfl ?_
  refine ct_aload_0 (q := 16) dX2_drawOne_15 rfl ?_
  obtain ⟨r23, gr23, h⟩ := ob h
  obtain ⟨er23, gr23⟩ := cV_spec gr23
  refine ct_cVi0 (q := 19) hB dX2_drawOne_16 lk_RX2_60 (by decide) (ctX2_draw hB gr23) er23 (by decide) rfl (Nat.le_of_ble_eq_true rfl) rfl ?_
  refine ct_bipush (v := 30) (q := 21) dX2_drawOne_19 (by decide) rfl ?_
  refine ct_irem (q := 22) dX2_drawOne_21 (by decide) rfl ?_
  refine ct_istore_3 (q := 23) dX2_drawOne_22 (by decide) rfl rfl ?_
  refine ct_iconst (v := 1) (q := 24) dX2_drawOne_23 (by decide) rfl ?_
  refine ct_aload_0 (q := 25) dX2_drawOne_24 rfl ?_
  obtain ⟨r24, gr24, h⟩ := ob h
  obtain ⟨er24, gr24⟩ := cV_spec gr24
  refine ct_cVi0 (q := 28) hB dX2_drawOne_25 lk_RX2_60 (by decide) (ctX2_draw hB gr24) er24 (by decide) rfl (Nat.le_of_ble_eq_true rfl) rfl ?_
  refine ct_bipush (v := 9) (q := 30) dX2_drawOne_28 (by decide) rfl ?_
  refine ct_irem (q := 31) dX2_drawOne_30 (by decide) rfl ?_
  refine ct_iadd (q := 32) dX2_drawOne_31 rfl ?_
  refine ct_istore_4 (q := 34) dX2_drawOne_32 (by decide) rfl rfl ?_
  refine ct_aload_0 (q := 35) dX2_drawOne_34 rfl ?_
  obtain ⟨r25, gr25, h⟩ := ob h
  obtain ⟨er25, gr25⟩ := cV_spec gr25
  refine ct_cVi0 (q := 38) hB dX2_drawOne_35 lk_RX2_60 (by decide) (ctX2_draw hB gr25) er25 (by decide) rfl (Nat.le_of_ble_eq_true rfl) rfl ?_
  refine ct_bipush (v := 120) (q := 40) dX2_drawOne_38 (by decide) rfl ?_
  refine ct_irem (q := 41) dX2_drawOne_40 (by decide) rfl ?_
  refine ct_istore_5 (q := 43) dX2_drawOne_41 (by decide) rfl rfl ?_
  refine ct_aload_0 (q := 44) dX2_drawOne_43 rfl ?_
  refine ct_iload_1 (q := 45) dX2_drawOne_44 rfl ?_
  refine ct_iload_2 (q := 46) dX2_drawOne_45 rfl ?_
  refine ct_iload_3 (q := 47) dX2_drawOne_46 rfl ?_
  refine ct_iload_4 (q := 49) dX2_drawOne_47 rfl ?_
  obtain ⟨r26, gr26, h⟩ := ob h
  obtain ⟨er26, gr26⟩ := cV_spec gr26
  refine ct_cVi4 (q := 52) hB dX2_drawOne_49 lk_RX2_64 (by decide) (ctX2_lightOne hB gr26) er26 (by decide) rfl (Nat.le_of_ble_eq_true rfl) rfl ?_
  refine ct_istore_6 (q := 54) dX2_drawOne_52 (by decide) rfl rfl ?_
  refine ct_iload_6 (q := 56) dX2_drawOne_54 rfl ?_
  refine ct_if_lt (q := 59) (tgt := 71) dX2_drawOne_56 (by decide) rfl (fun z27 => ?_) (fun z27 => ?_)
  · replace h := it_t h z27
    exact ct_vret dX2_drawOne_71 rfl ⟨Nat.le_refl 0, Nat.le_refl 0⟩ (poV_of h)
  · replace h := it_f h z27
    refine ct_aload_0 (q := 60) dX2_drawOne_59 rfl ?_
    obtain ⟨a28, ga28, h⟩ := ob h
    refine ct_getP (q := 63) hB dX2_drawOne_60 fl_RX2_11 rfl ga28 rfl ?_
    refine ct_iload_6 (q := 65) dX2_drawOne_63 rfl ?_
    obtain ⟨a29, ga29, h⟩ := ob h
    refine ct_aald (q := 66) rfl hB dX2_drawOne_65 ga29 rfl ?_
    refine ct_iload_5 (q := 68) dX2_drawOne_66 rfl ?_
    obtain ⟨M30, gM30, h⟩ := ob h
    refine ct_putI (q := 71) hB dX2_drawOne_68 fl_RX2_68 rfl rfl (Or.inl rfl) gM30 rfl ?_
    exact ct_vret dX2_drawOne_71 rfl ⟨Nat.le_refl 0, Nat.le_refl 0⟩ (poV_of h)

def fX2_hasGlass (a0 : Nat) (x1 : Int32) (x2 : Int32) (M : ctM) : Option (Int32 × ctM) :=
  (gP kdC 2 2 a0 M).bind fun a21 =>
  (aI kdC lnC 9 a21 x1 M).bind fun x22 =>
  if (((x22 : Int32).toUInt32 >>> ((x2 : Int32).toUInt32 &&& Int32.toUInt32 31)).toInt32 &&& 1) = 1 then
    some (1, M)
  else
    some (0, M)

set_option maxHeartbeats 4000000 in
set_option maxRecDepth 20000 in
theorem ctX2_hasGlass {B : ctB} {n : Nat} (hB : ctOk B kdC lnC n) {a0 : Nat} {x1 : Int32} {x2 : Int32} {M : ctM} {r : Int32 × ctM} (h : fX2_hasGlass a0 x1 x2 M = some r) : ctC B mX2_hasGlass (0, 0, 0) [.ref a0, .int x1, .int x2] n M (poI r n) := by
  refine ctC_of (by decide) (Nat.le_of_ble_eq_true rfl) ?_
  show ctV B mX2_hasGlass (0, 0, 0) (poI r n) 0 [some (.ref a0), some (.int x1), some (.int x2)] [] (0, 0) n M
  unfold fX2_hasGlass at h
  refine ct_aload_0 (q := 1) dX2_hasGlass_0 rfl ?_
  obtain ⟨a21, ga21, h⟩ := ob h
  refine ct_getP (q := 4) hB dX2_hasGlass_1 fl_RX2_17 rfl ga21 rfl ?_
  refine ct_iload_1 (q := 5) dX2_hasGlass_4 rfl ?_
  obtain ⟨x22, gx22, h⟩ := ob h
  refine ct_iald (q := 6) hB dX2_hasGlass_5 gx22 rfl ?_
  refine ct_iload_2 (q := 7) dX2_hasGlass_6 rfl ?_
  refine ct_iushr (q := 8) dX2_hasGlass_7 rfl ?_
  refine ct_iconst (v := 1) (q := 9) dX2_hasGlass_8 (by decide) rfl ?_
  refine ct_iand (q := 10) dX2_hasGlass_9 rfl ?_
  refine ct_iconst (v := 1) (q := 11) dX2_hasGlass_10 (by decide) rfl ?_
  refine ct_icmp_ne (q := 14) (tgt := 18) dX2_hasGlass_11 (by decide) rfl (fun z23 => ?_) (fun z23 => ?_)
  · replace h := it_f h z23
    refine ct_iconst (v := 0) (q := 19) dX2_hasGlass_18 (by decide) rfl ?_
    exact ct_zret dX2_hasGlass_19 rfl (by decide) ⟨Nat.le_refl 0, Nat.le_refl 0⟩ (poI_of h)
  · replace h := it_t h z23
    refine ct_iconst (v := 1) (q := 15) dX2_hasGlass_14 (by decide) rfl ?_
    refine ct_goto (q := 19) dX2_hasGlass_15 (by decide) ?_
    exact ct_zret dX2_hasGlass_19 rfl (by decide) ⟨Nat.le_refl 0, Nat.le_refl 0⟩ (poI_of h)

def fX2_putGlass_b75 (as0 : Nat) (xs1 : Int32) (xs2 : Int32) (M : ctM) : Option (ctM) :=
  (sI kdC lnC 9 as0 xs1 xs2 M).bind fun M21 =>
  some M21

set_option maxHeartbeats 4000000 in
set_option maxRecDepth 20000 in
theorem vX2_putGlass_b75 {B : ctB} {n : Nat} (hB : ctOk B kdC lnC n) : ∀ (as0 : Nat) (xs1 : Int32) (xs2 : Int32) (M : ctM) (r : ctM), fX2_putGlass_b75 as0 xs1 xs2 M = some r → ctV B mX2_putGlass (0, 0, 0) (poV r n) 75 [none, none, none, none, none, none] [.int xs2, .int xs1, .ref as0] (0, 0) n M := by
  intro as0 xs1 xs2 M r h
  unfold fX2_putGlass_b75 at h
  obtain ⟨M21, gM21, h⟩ := ob h
  refine ct_iast (q := 76) hB dX2_putGlass_75 gM21 rfl ?_
  exact ct_vret dX2_putGlass_76 rfl ⟨Nat.le_refl 0, Nat.le_refl 0⟩ (poV_of h)

def fX2_putGlass_b42 (a0 : Nat) (x2 : Int32) (x3 : Int32) (x5 : Int32) (as0 : Nat) (xs1 : Int32) (xs2 : Int32) (M : ctM) : Option (ctM) :=
  (sI kdC lnC 9 as0 xs1 xs2 M).bind fun M21 =>
  (gP kdC 2 2 a0 M21).bind fun a22 =>
  if x3 = 0 then
    (gP kdC 2 2 a0 M21).bind fun a24 =>
    (aI kdC lnC 9 a24 x2 M21).bind fun x25 =>
    fX2_putGlass_b75 a22 x2 (x25 &&& (x5 ^^^ (-1))) M21
  else
    (gP kdC 2 2 a0 M21).bind fun a26 =>
    (aI kdC lnC 9 a26 x2 M21).bind fun x27 =>
    fX2_putGlass_b75 a22 x2 (x27 ||| x5) M21

set_option maxHeartbeats 4000000 in
set_option maxRecDepth 20000 in
theorem vX2_putGlass_b42 {B : ctB} {n : Nat} (hB : ctOk B kdC lnC n) : ∀ (a0 : Nat) (x2 : Int32) (x3 : Int32) (x5 : Int32) (as0 : Nat) (xs1 : Int32) (xs2 : Int32) (M : ctM) (r : ctM), fX2_putGlass_b42 a0 x2 x3 x5 as0 xs1 xs2 M = some r → ctV B mX2_putGlass (0, 0, 0) (poV r n) 42 [some (.ref a0), none, some (.int x2), some (.int x3), none, some (.int x5)] [.int xs2, .int xs1, .ref as0] (0, 0) n M := by
  intro a0 x2 x3 x5 as0 xs1 xs2 M r h
  unfold fX2_putGlass_b42 at h
  obtain ⟨M21, gM21, h⟩ := ob h
  refine ct_iast (q := 43) hB dX2_putGlass_42 gM21 rfl ?_
  refine ct_aload_0 (q := 44) dX2_putGlass_43 rfl ?_
  obtain ⟨a22, ga22, h⟩ := ob h
  refine ct_getP (q := 47) hB dX2_putGlass_44 fl_RX2_17 rfl ga22 rfl ?_
  refine ct_iload_2 (q := 48) dX2_putGlass_47 rfl ?_
  refine ct_iload_3 (q := 49) dX2_putGlass_48 rfl ?_
  refine ct_if_eq (q := 52) (tgt := 64) dX2_putGlass_49 (by decide) rfl (fun z23 => ?_) (fun z23 => ?_)
  · replace h := it_t h z23
    refine ct_aload_0 (q := 65) dX2_putGlass_64 rfl ?_
    obtain ⟨a24, ga24, h⟩ := ob h
    refine ct_getP (q := 68) hB dX2_putGlass_65 fl_RX2_17 rfl ga24 rfl ?_
    refine ct_iload_2 (q := 69) dX2_putGlass_68 rfl ?_
    obtain ⟨x25, gx25, h⟩ := ob h
    refine ct_iald (q := 70) hB dX2_putGlass_69 gx25 rfl ?_
    refine ct_iload_5 (q := 72) dX2_putGlass_70 rfl ?_
    refine ct_iconst (v := -1) (q := 73) dX2_putGlass_72 (by decide) rfl ?_
    refine ct_ixor (q := 74) dX2_putGlass_73 rfl ?_
    refine ct_iand (q := 75) dX2_putGlass_74 rfl ?_
    exact ct_lessK (vX2_putGlass_b75 hB  a22 x2 (x25 &&& (x5 ^^^ (-1))) M21 r h) (trivial)
  · replace h := it_f h z23
    refine ct_aload_0 (q := 53) dX2_putGlass_52 rfl ?_
    obtain ⟨a26, ga26, h⟩ := ob h
    refine ct_getP (q := 56) hB dX2_putGlass_53 fl_RX2_17 rfl ga26 rfl ?_
    refine ct_iload_2 (q := 57) dX2_putGlass_56 rfl ?_
    obtain ⟨x27, gx27, h⟩ := ob h
    refine ct_iald (q := 58) hB dX2_putGlass_57 gx27 rfl ?_
    refine ct_iload_5 (q := 60) dX2_putGlass_58 rfl ?_
    refine ct_ior (q := 61) dX2_putGlass_60 rfl ?_
    refine ct_goto (q := 75) dX2_putGlass_61 (by decide) ?_
    exact ct_lessK (vX2_putGlass_b75 hB  a22 x2 (x27 ||| x5) M21 r h) (trivial)

def fX2_putGlass (a0 : Nat) (x1 : Int32) (x2 : Int32) (x3 : Int32) (M : ctM) : Option (ctM) :=
  (gP kdC 2 2 a0 M).bind fun a21 =>
  if x3 = 0 then
    (gP kdC 2 2 a0 M).bind fun a23 =>
    (aI kdC lnC 9 a23 x1 M).bind fun x24 =>
    fX2_putGlass_b42 a0 x2 x3 (1 <<< (x1 &&& 31)) a21 x1 (x24 &&& ((1 <<< (x2 &&& 31)) ^^^ (-1))) M
  else
    (gP kdC 2 2 a0 M).bind fun a25 =>
    (aI kdC lnC 9 a25 x1 M).bind fun x26 =>
    fX2_putGlass_b42 a0 x2 x3 (1 <<< (x1 &&& 31)) a21 x1 (x26 ||| (1 <<< (x2 &&& 31))) M

set_option maxHeartbeats 4000000 in
set_option maxRecDepth 20000 in
theorem ctX2_putGlass {B : ctB} {n : Nat} (hB : ctOk B kdC lnC n) {a0 : Nat} {x1 : Int32} {x2 : Int32} {x3 : Int32} {M : ctM} {r : ctM} (h : fX2_putGlass a0 x1 x2 x3 M = some r) : ctC B mX2_putGlass (0, 0, 0) [.ref a0, .int x1, .int x2, .int x3] n M (poV r n) := by
  refine ctC_of (by decide) (Nat.le_of_ble_eq_true rfl) ?_
  show ctV B mX2_putGlass (0, 0, 0) (poV r n) 0 [some (.ref a0), some (.int x1), some (.int x2), some (.int x3), none, none] [] (0, 0) n M
  unfold fX2_putGlass at h
  refine ct_iconst (v := 1) (q := 1) dX2_putGlass_0 (by decide) rfl ?_
  refine ct_iload_2 (q := 2) dX2_putGlass_1 rfl ?_
  refine ct_ishl (q := 3) dX2_putGlass_2 rfl ?_
  refine ct_istore_4 (q := 5) dX2_putGlass_3 (by decide) rfl rfl ?_
  refine ct_iconst (v := 1) (q := 6) dX2_putGlass_5 (by decide) rfl ?_
  refine ct_iload_1 (q := 7) dX2_putGlass_6 rfl ?_
  refine ct_ishl (q := 8) dX2_putGlass_7 rfl ?_
  refine ct_istore_5 (q := 10) dX2_putGlass_8 (by decide) rfl rfl ?_
  refine ct_aload_0 (q := 11) dX2_putGlass_10 rfl ?_
  obtain ⟨a21, ga21, h⟩ := ob h
  refine ct_getP (q := 14) hB dX2_putGlass_11 fl_RX2_17 rfl ga21 rfl ?_
  refine ct_iload_1 (q := 15) dX2_putGlass_14 rfl ?_
  refine ct_iload_3 (q := 16) dX2_putGlass_15 rfl ?_
  refine ct_if_eq (q := 19) (tgt := 31) dX2_putGlass_16 (by decide) rfl (fun z22 => ?_) (fun z22 => ?_)
  · replace h := it_t h z22
    refine ct_aload_0 (q := 32) dX2_putGlass_31 rfl ?_
    obtain ⟨a23, ga23, h⟩ := ob h
    refine ct_getP (q := 35) hB dX2_putGlass_32 fl_RX2_17 rfl ga23 rfl ?_
    refine ct_iload_1 (q := 36) dX2_putGlass_35 rfl ?_
    obtain ⟨x24, gx24, h⟩ := ob h
    refine ct_iald (q := 37) hB dX2_putGlass_36 gx24 rfl ?_
    refine ct_iload_4 (q := 39) dX2_putGlass_37 rfl ?_
    refine ct_iconst (v := -1) (q := 40) dX2_putGlass_39 (by decide) rfl ?_
    refine ct_ixor (q := 41) dX2_putGlass_40 rfl ?_
    refine ct_iand (q := 42) dX2_putGlass_41 rfl ?_
    exact ct_lessK (vX2_putGlass_b42 hB  a0 x2 x3 (1 <<< (x1 &&& 31)) a21 x1 (x24 &&& ((1 <<< (x2 &&& 31)) ^^^ (-1))) M r h) (And.intro rfl (And.intro rfl (And.intro rfl (And.intro rfl (trivial)))))
  · replace h := it_f h z22
    refine ct_aload_0 (q := 20) dX2_putGlass_19 rfl ?_
    obtain ⟨a25, ga25, h⟩ := ob h
    refine ct_getP (q := 23) hB dX2_putGlass_20 fl_RX2_17 rfl ga25 rfl ?_
    refine ct_iload_1 (q := 24) dX2_putGlass_23 rfl ?_
    obtain ⟨x26, gx26, h⟩ := ob h
    refine ct_iald (q := 25) hB dX2_putGlass_24 gx26 rfl ?_
    refine ct_iload_4 (q := 27) dX2_putGlass_25 rfl ?_
    refine ct_ior (q := 28) dX2_putGlass_27 rfl ?_
    refine ct_goto (q := 42) dX2_putGlass_28 (by decide) ?_
    exact ct_lessK (vX2_putGlass_b42 hB  a0 x2 x3 (1 <<< (x1 &&& 31)) a21 x1 (x26 ||| (1 <<< (x2 &&& 31))) M r h) (And.intro rfl (And.intro rfl (And.intro rfl (And.intro rfl (trivial)))))

def fX2_lawFor (a0 : Nat) (x1 : Int32) (M : ctM) : Option (Option Nat × ctM) :=
  (gP kdC 2 4 a0 M).bind fun a21 =>
  (aI kdC lnC 9 a21 x1 M).bind fun x22 =>
  (fX6_isWithin x22 0 13 M).bind fun r23 =>
  if r23.1 = 0 then
    some (none, r23.2)
  else
    (gP kdC 2 0 a0 r23.2).bind fun a25 =>
    (aP kdC lnC 12 a25 x22 r23.2).bind fun a26 =>
    some (some a26, r23.2)

set_option maxHeartbeats 4000000 in
set_option maxRecDepth 20000 in
theorem ctX2_lawFor {B : ctB} {n : Nat} (hB : ctOk B kdC lnC n) {a0 : Nat} {x1 : Int32} {M : ctM} {r : Option Nat × ctM} (h : fX2_lawFor a0 x1 M = some r) : ctC B mX2_lawFor (1, 0, 0) [.ref a0, .int x1] n M (poP r n) := by
  refine ctC_of (by decide) (Nat.le_of_ble_eq_true rfl) ?_
  show ctV B mX2_lawFor (1, 0, 0) (poP r n) 0 [some (.ref a0), some (.int x1), none] [] (0, 0) n M
  unfold fX2_lawFor at h
  refine ct_aload_0 (q := 1) dX2_lawFor_0 rfl ?_
  obtain ⟨a21, ga21, h⟩ := ob h
  refine ct_getP (q := 4) hB dX2_lawFor_1 fl_RX2_24 rfl ga21 rfl ?_
  refine ct_iload_1 (q := 5) dX2_lawFor_4 rfl ?_
  obtain ⟨x22, gx22, h⟩ := ob h
  refine ct_iald (q := 6) hB dX2_lawFor_5 gx22 rfl ?_
  refine ct_istore_2 (q := 7) dX2_lawFor_6 (by decide) rfl rfl ?_
  refine ct_iload_2 (q := 8) dX2_lawFor_7 rfl ?_
  refine ct_iconst (v := 0) (q := 9) dX2_lawFor_8 (by decide) rfl ?_
  refine ct_bipush (v := 13) (q := 11) dX2_lawFor_9 (by decide) rfl ?_
  obtain ⟨r23, gr23, h⟩ := ob h
  refine ct_cSi3 (q := 14) dX2_lawFor_11 lk_RX2_72 (by decide) (ctX6_isWithin hB gr23) (Nat.le_of_ble_eq_true rfl) rfl ?_
  refine ct_if_eq (q := 17) (tgt := 26) dX2_lawFor_14 (by decide) rfl (fun z24 => ?_) (fun z24 => ?_)
  · replace h := it_t h z24
    refine ct_null (q := 27) dX2_lawFor_26 rfl ?_
    exact ct_aretN dX2_lawFor_27 rfl ⟨Nat.le_refl 0, Nat.le_refl 0⟩ (poP_of h)
  · replace h := it_f h z24
    refine ct_aload_0 (q := 18) dX2_lawFor_17 rfl ?_
    obtain ⟨a25, ga25, h⟩ := ob h
    refine ct_getP (q := 21) hB dX2_lawFor_18 fl_RX2_46 rfl ga25 rfl ?_
    refine ct_iload_2 (q := 22) dX2_lawFor_21 rfl ?_
    obtain ⟨a26, ga26, h⟩ := ob h
    refine ct_aald (q := 23) rfl hB dX2_lawFor_22 ga26 rfl ?_
    refine ct_goto (q := 27) dX2_lawFor_23 (by decide) ?_
    exact ct_aret dX2_lawFor_27 rfl ⟨Nat.le_refl 0, Nat.le_refl 0⟩ (poP_of h)

def fX6_held (x0 : Int32) (x1 : Int32) (x2 : Int32) (M : ctM) : Option (Int32 × ctM) :=
  if x1 ≤ x0 then
    if x0 ≤ x2 then
      some (x0, M)
    else
      some (x2, M)
  else
    some (x1, M)

set_option maxHeartbeats 4000000 in
set_option maxRecDepth 20000 in
theorem ctX6_held {B : ctB} {n : Nat} (hB : ctOk B kdC lnC n) {x0 : Int32} {x1 : Int32} {x2 : Int32} {M : ctM} {r : Int32 × ctM} (h : fX6_held x0 x1 x2 M = some r) : ctC B mX6_held (0, 0, 0) [.int x0, .int x1, .int x2] n M (poI r n) := by
  refine ctC_of (by decide) (Nat.le_of_ble_eq_true rfl) ?_
  show ctV B mX6_held (0, 0, 0) (poI r n) 0 [some (.int x0), some (.int x1), some (.int x2)] [] (0, 0) n M
  unfold fX6_held at h
  refine ct_iload_0 (q := 1) dX6_held_0 rfl ?_
  refine ct_iload_1 (q := 2) dX6_held_1 rfl ?_
  refine ct_icmp_ge (q := 5) (tgt := 7) dX6_held_2 (by decide) rfl (fun z21 => ?_) (fun z21 => ?_)
  · replace h := it_t h z21
    refine ct_iload_0 (q := 8) dX6_held_7 rfl ?_
    refine ct_iload_2 (q := 9) dX6_held_8 rfl ?_
    refine ct_icmp_le (q := 12) (tgt := 16) dX6_held_9 (by decide) rfl (fun z22 => ?_) (fun z22 => ?_)
    · replace h := it_t h z22
      refine ct_iload_0 (q := 17) dX6_held_16 rfl ?_
      exact ct_iret dX6_held_17 rfl ⟨Nat.le_refl 0, Nat.le_refl 0⟩ (poI_of h)
    · replace h := it_f h z22
      refine ct_iload_2 (q := 13) dX6_held_12 rfl ?_
      refine ct_goto (q := 17) dX6_held_13 (by decide) ?_
      exact ct_iret dX6_held_17 rfl ⟨Nat.le_refl 0, Nat.le_refl 0⟩ (poI_of h)
  · replace h := it_f h z21
    refine ct_iload_1 (q := 6) dX6_held_5 rfl ?_
    exact ct_iret dX6_held_6 rfl ⟨Nat.le_refl 0, Nat.le_refl 0⟩ (poI_of h)

def fX2_paceOf_b43 (a2 : Nat) (xs0 : Int32) (M : ctM) : Option (Int32 × ctM) :=
  (cV kdC 0 a2 (fX0_paceFrom a2 xs0 M)).bind fun r21 =>
  some (r21.1, r21.2)

set_option maxHeartbeats 4000000 in
set_option maxRecDepth 20000 in
theorem vX2_paceOf_b43 {B : ctB} {n : Nat} (hB : ctOk B kdC lnC n) : ∀ (a2 : Nat) (xs0 : Int32) (M : ctM) (r : Int32 × ctM), fX2_paceOf_b43 a2 xs0 M = some r → ctV B mX2_paceOf (2, 0, 0) (poI r n) 43 [none, none, some (.ref a2), none, none] [.int xs0] (0, 0) n M := by
  intro a2 xs0 M r h
  unfold fX2_paceOf_b43 at h
  refine ct_istore_4 (q := 45) dX2_paceOf_43 (by decide) rfl rfl ?_
  refine ct_aload_2 (q := 46) dX2_paceOf_45 rfl ?_
  refine ct_iload_4 (q := 48) dX2_paceOf_46 rfl ?_
  obtain ⟨r21, gr21, h⟩ := ob h
  obtain ⟨er21, gr21⟩ := cV_spec gr21
  refine ct_cVi1 (q := 51) hB dX2_paceOf_48 lk_RX2_92 (by decide) (ctX0_paceFrom hB gr21) er21 (by decide) rfl (Nat.le_of_ble_eq_true rfl) rfl ?_
  exact ct_iret dX2_paceOf_51 rfl ⟨Nat.le_refl 0, Nat.le_refl 0⟩ (poI_of h)

def fX2_paceOf (a0 : Nat) (x1 : Int32) (M : ctM) : Option (Int32 × ctM) :=
  (gP kdC 2 1 a0 M).bind fun a21 =>
  (aP kdC lnC 11 a21 x1 M).bind fun a22 =>
  (cV kdC 2 a0 (fX2_lawFor a0 0 M)).bind fun r23 =>
  r23.1.elim (
    (gI kdC 0 3 a22 r23.2).bind fun x25 =>
    fX2_paceOf_b43 a22 (12 - x25) r23.2
    ) (fun a24 =>
    (gI kdC 0 3 a22 r23.2).bind fun x26 =>
    (cV kdC 1 a24 (fX1_gives a24 x26 x1 0 r23.2)).bind fun r27 =>
    (fX6_held r27.1 0 40 r27.2).bind fun r28 =>
    fX2_paceOf_b43 a22 r28.1 r28.2
    )

set_option maxHeartbeats 4000000 in
set_option maxRecDepth 20000 in
theorem ctX2_paceOf {B : ctB} {n : Nat} (hB : ctOk B kdC lnC n) {a0 : Nat} {x1 : Int32} {M : ctM} {r : Int32 × ctM} (h : fX2_paceOf a0 x1 M = some r) : ctC B mX2_paceOf (2, 0, 0) [.ref a0, .int x1] n M (poI r n) := by
  refine ctC_of (by decide) (Nat.le_of_ble_eq_true rfl) ?_
  show ctV B mX2_paceOf (2, 0, 0) (poI r n) 0 [some (.ref a0), some (.int x1), none, none, none] [] (0, 0) n M
  unfold fX2_paceOf at h
  refine ct_aload_0 (q := 1) dX2_paceOf_0 rfl ?_
  obtain ⟨a21, ga21, h⟩ := ob h
  refine ct_getP (q := 4) hB dX2_paceOf_1 fl_RX2_11 rfl ga21 rfl ?_
  refine ct_iload_1 (q := 5) dX2_paceOf_4 rfl ?_
  obtain ⟨a22, ga22, h⟩ := ob h
  refine ct_aald (q := 6) rfl hB dX2_paceOf_5 ga22 rfl ?_
  refine ct_astore_2 (q := 7) dX2_paceOf_6 (by decide) rfl rfl ?_
  refine ct_aload_0 (q := 8) dX2_paceOf_7 rfl ?_
  refine ct_iconst (v := 0) (q := 9) dX2_paceOf_8 (by decide) rfl ?_
  obtain ⟨r23, gr23, h⟩ := ob h
  obtain ⟨er23, gr23⟩ := cV_spec gr23
  refine ct_cVp1 (q := 12) hB dX2_paceOf_9 lk_RX2_76 (by decide) (ctX2_lawFor hB gr23) er23 (by decide) rfl (Nat.le_of_ble_eq_true rfl) rfl (fun ea24 => ?_) (fun a24 ea24 => ?_)
  · replace h := oe_n h ea24
    refine ct_nstore_3 (q := 13) dX2_paceOf_12 (by decide) rfl rfl ?_
    refine ct_aloadN_3 (q := 14) dX2_paceOf_13 rfl ?_
    refine ct_ifnonnullN (q := 17) dX2_paceOf_14 rfl ?_
    refine ct_bipush (v := 12) (q := 19) dX2_paceOf_17 (by decide) rfl ?_
    refine ct_aload_2 (q := 20) dX2_paceOf_19 rfl ?_
    obtain ⟨x25, gx25, h⟩ := ob h
    refine ct_getI (q := 23) hB dX2_paceOf_20 fl_RX2_80 rfl gx25 rfl ?_
    refine ct_isub (q := 24) dX2_paceOf_23 rfl ?_
    refine ct_goto (q := 43) dX2_paceOf_24 (by decide) ?_
    exact ct_lessK (vX2_paceOf_b43 hB  a22 (12 - x25) r23.2 r h) (And.intro rfl (trivial))
  · replace h := oe_s h ea24
    refine ct_astore_3 (q := 13) dX2_paceOf_12 (by decide) rfl rfl ?_
    refine ct_aload_3 (q := 14) dX2_paceOf_13 rfl ?_
    refine ct_ifnonnull (q := 27) dX2_paceOf_14 (by decide) ?_
    refine ct_aload_3 (q := 28) dX2_paceOf_27 rfl ?_
    refine ct_aload_2 (q := 29) dX2_paceOf_28 rfl ?_
    obtain ⟨x26, gx26, h⟩ := ob h
    refine ct_getI (q := 32) hB dX2_paceOf_29 fl_RX2_80 rfl gx26 rfl ?_
    refine ct_iload_1 (q := 33) dX2_paceOf_32 rfl ?_
    refine ct_iconst (v := 0) (q := 34) dX2_paceOf_33 (by decide) rfl ?_
    obtain ⟨r27, gr27, h⟩ := ob h
    obtain ⟨er27, gr27⟩ := cV_spec gr27
    refine ct_cVi3 (q := 37) hB dX2_paceOf_34 lk_RX2_83 (by decide) (ctX1_gives hB gr27) er27 (by decide) rfl (Nat.le_of_ble_eq_true rfl) rfl ?_
    refine ct_iconst (v := 0) (q := 38) dX2_paceOf_37 (by decide) rfl ?_
    refine ct_bipush (v := 40) (q := 40) dX2_paceOf_38 (by decide) rfl ?_
    obtain ⟨r28, gr28, h⟩ := ob h
    refine ct_cSi3 (q := 43) dX2_paceOf_40 lk_RX2_89 (by decide) (ctX6_held hB gr28) (Nat.le_of_ble_eq_true rfl) rfl ?_
    exact ct_lessK (vX2_paceOf_b43 hB  a22 r28.1 r28.2 r h) (And.intro rfl (trivial))

def fX6_ahead (x0 : Int32) (x1 : Int32) (M : ctM) : Option (Int32 × ctM) :=
  if (x0 - x1) < 60 then
    if (-60) ≤ (x0 - x1) then
      some ((x0 - x1), M)
    else
      some (((x0 - x1) + 120), M)
  else
    some (((x0 - x1) - 120), M)

set_option maxHeartbeats 4000000 in
set_option maxRecDepth 20000 in
theorem ctX6_ahead {B : ctB} {n : Nat} (hB : ctOk B kdC lnC n) {x0 : Int32} {x1 : Int32} {M : ctM} {r : Int32 × ctM} (h : fX6_ahead x0 x1 M = some r) : ctC B mX6_ahead (0, 0, 0) [.int x0, .int x1] n M (poI r n) := by
  refine ctC_of (by decide) (Nat.le_of_ble_eq_true rfl) ?_
  show ctV B mX6_ahead (0, 0, 0) (poI r n) 0 [some (.int x0), some (.int x1), none] [] (0, 0) n M
  unfold fX6_ahead at h
  refine ct_iload_0 (q := 1) dX6_ahead_0 rfl ?_
  refine ct_iload_1 (q := 2) dX6_ahead_1 rfl ?_
  refine ct_isub (q := 3) dX6_ahead_2 rfl ?_
  refine ct_istore_2 (q := 4) dX6_ahead_3 (by decide) rfl rfl ?_
  refine ct_iload_2 (q := 5) dX6_ahead_4 rfl ?_
  refine ct_bipush (v := 60) (q := 7) dX6_ahead_5 (by decide) rfl ?_
  refine ct_icmp_lt (q := 10) (tgt := 15) dX6_ahead_7 (by decide) rfl (fun z21 => ?_) (fun z21 => ?_)
  · replace h := it_t h z21
    refine ct_iload_2 (q := 16) dX6_ahead_15 rfl ?_
    refine ct_bipush (v := -60) (q := 18) dX6_ahead_16 (by decide) rfl ?_
    refine ct_icmp_ge (q := 21) (tgt := 28) dX6_ahead_18 (by decide) rfl (fun z22 => ?_) (fun z22 => ?_)
    · replace h := it_t h z22
      refine ct_iload_2 (q := 29) dX6_ahead_28 rfl ?_
      exact ct_iret dX6_ahead_29 rfl ⟨Nat.le_refl 0, Nat.le_refl 0⟩ (poI_of h)
    · replace h := it_f h z22
      refine ct_iload_2 (q := 22) dX6_ahead_21 rfl ?_
      refine ct_bipush (v := 120) (q := 24) dX6_ahead_22 (by decide) rfl ?_
      refine ct_iadd (q := 25) dX6_ahead_24 rfl ?_
      refine ct_goto (q := 29) dX6_ahead_25 (by decide) ?_
      exact ct_iret dX6_ahead_29 rfl ⟨Nat.le_refl 0, Nat.le_refl 0⟩ (poI_of h)
  · replace h := it_f h z21
    refine ct_iload_2 (q := 11) dX6_ahead_10 rfl ?_
    refine ct_bipush (v := 120) (q := 13) dX6_ahead_11 (by decide) rfl ?_
    refine ct_isub (q := 14) dX6_ahead_13 rfl ?_
    exact ct_iret dX6_ahead_14 rfl ⟨Nat.le_refl 0, Nat.le_refl 0⟩ (poI_of h)

def fX2_pushBy (a0 : Nat) (x1 : Int32) (x2 : Int32) (M : ctM) : Option (Int32 × ctM) :=
  (gP kdC 2 1 a0 M).bind fun a21 =>
  (aP kdC lnC 11 a21 x1 M).bind fun a22 =>
  (gP kdC 2 1 a0 M).bind fun a23 =>
  (aP kdC lnC 11 a23 x2 M).bind fun a24 =>
  (cV kdC 0 a22 (fX0_isLit a22 M)).bind fun r25 =>
  if r25.1 = 0 then
    some (0, r25.2)
  else
    (cV kdC 0 a24 (fX0_isLit a24 r25.2)).bind fun r27 =>
    if r27.1 = 0 then
      some (0, r27.2)
    else
      (cV kdC 2 a0 (fX2_hasGlass a0 x1 x2 r27.2)).bind fun r29 =>
      if r29.1 = 0 then
        (gI kdC 0 1 a24 r29.2).bind fun x31 =>
        (gI kdC 0 2 a24 r29.2).bind fun x32 =>
        (cV kdC 0 a22 (fX0_wayTo a22 x31 x32 r29.2)).bind fun r33 =>
        (gI kdC 0 4 a24 r33.2).bind fun x34 =>
        (gI kdC 0 4 a22 r33.2).bind fun x35 =>
        (fX6_ahead x34 x35 r33.2).bind fun r36 =>
        (cV kdC 2 a0 (fX2_lawFor a0 1 r36.2)).bind fun r37 =>
        r37.1.elim (
          (gI kdC 2 6 a0 r37.2).bind fun x39 =>
          if x39 < r33.1 then
            (gI kdC 2 7 a0 r37.2).bind fun x41 =>
            if x41 < r33.1 then
              some (0, r37.2)
            else
              some (((-r36.1) / 4), r37.2)
          else
            some ((r36.1 / 4), r37.2)
          ) (fun a38 =>
          (gI kdC 0 3 a24 r37.2).bind fun x43 =>
          (cV kdC 1 a38 (fX1_gives a38 r33.1 r36.1 x43 r37.2)).bind fun r44 =>
          (fX6_held r44.1 (-20) 20 r44.2).bind fun r45 =>
          some (r45.1, r45.2)
          )
      else
        some (0, r29.2)

set_option maxHeartbeats 4000000 in
set_option maxRecDepth 20000 in
theorem ctX2_pushBy {B : ctB} {n : Nat} (hB : ctOk B kdC lnC n) {a0 : Nat} {x1 : Int32} {x2 : Int32} {M : ctM} {r : Int32 × ctM} (h : fX2_pushBy a0 x1 x2 M = some r) : ctC B mX2_pushBy (2, 0, 0) [.ref a0, .int x1, .int x2] n M (poI r n) := by
  refine ctC_of (by decide) (Nat.le_of_ble_eq_true rfl) ?_
  show ctV B mX2_pushBy (2, 0, 0) (poI r n) 0 [some (.ref a0), some (.int x1), some (.int x2), none, none, none, none, none] [] (0, 0) n M
  unfold fX2_pushBy at h
  refine ct_aload_0 (q := 1) dX2_pushBy_0 rfl ?_
  obtain ⟨a21, ga21, h⟩ := ob h
  refine ct_getP (q := 4) hB dX2_pushBy_1 fl_RX2_11 rfl ga21 rfl ?_
  refine ct_iload_1 (q := 5) dX2_pushBy_4 rfl ?_
  obtain ⟨a22, ga22, h⟩ := ob h
  refine ct_aald (q := 6) rfl hB dX2_pushBy_5 ga22 rfl ?_
  refine ct_astore_3 (q := 7) dX2_pushBy_6 (by decide) rfl rfl ?_
  refine ct_aload_0 (q := 8) dX2_pushBy_7 rfl ?_
  obtain ⟨a23, ga23, h⟩ := ob h
  refine ct_getP (q := 11) hB dX2_pushBy_8 fl_RX2_11 rfl ga23 rfl ?_
  refine ct_iload_2 (q := 12) dX2_pushBy_11 rfl ?_
  obtain ⟨a24, ga24, h⟩ := ob h
  refine ct_aald (q := 13) rfl hB dX2_pushBy_12 ga24 rfl ?_
  refine ct_astore_4 (q := 15) dX2_pushBy_13 (by decide) rfl rfl ?_
  refine ct_aload_3 (q := 16) dX2_pushBy_15 rfl ?_
  obtain ⟨r25, gr25, h⟩ := ob h
  obtain ⟨er25, gr25⟩ := cV_spec gr25
  refine ct_cVi0 (q := 19) hB dX2_pushBy_16 lk_RX2_96 (by decide) (ctX0_isLit hB gr25) er25 (by decide) rfl (Nat.le_of_ble_eq_true rfl) rfl ?_
  refine ct_if_eq (q := 22) (tgt := 39) dX2_pushBy_19 (by decide) rfl (fun z26 => ?_) (fun z26 => ?_)
  · replace h := it_t h z26
    refine ct_iconst (v := 0) (q := 40) dX2_pushBy_39 (by decide) rfl ?_
    exact ct_iret dX2_pushBy_40 rfl ⟨Nat.le_refl 0, Nat.le_refl 0⟩ (poI_of h)
  · replace h := it_f h z26
    refine ct_aload_4 (q := 24) dX2_pushBy_22 rfl ?_
    obtain ⟨r27, gr27, h⟩ := ob h
    obtain ⟨er27, gr27⟩ := cV_spec gr27
    refine ct_cVi0 (q := 27) hB dX2_pushBy_24 lk_RX2_96 (by decide) (ctX0_isLit hB gr27) er27 (by decide) rfl (Nat.le_of_ble_eq_true rfl) rfl ?_
    refine ct_if_eq (q := 30) (tgt := 39) dX2_pushBy_27 (by decide) rfl (fun z28 => ?_) (fun z28 => ?_)
    · replace h := it_t h z28
      refine ct_iconst (v := 0) (q := 40) dX2_pushBy_39 (by decide) rfl ?_
      exact ct_iret dX2_pushBy_40 rfl ⟨Nat.le_refl 0, Nat.le_refl 0⟩ (poI_of h)
    · replace h := it_f h z28
      refine ct_aload_0 (q := 31) dX2_pushBy_30 rfl ?_
      refine ct_iload_1 (q := 32) dX2_pushBy_31 rfl ?_
      refine ct_iload_2 (q := 33) dX2_pushBy_32 rfl ?_
      obtain ⟨r29, gr29, h⟩ := ob h
      obtain ⟨er29, gr29⟩ := cV_spec gr29
      refine ct_cVi2 (q := 36) hB dX2_pushBy_33 lk_RX2_100 (by decide) (ctX2_hasGlass hB gr29) er29 (by decide) rfl (Nat.le_of_ble_eq_true rfl) rfl ?_
      refine ct_if_eq (q := 39) (tgt := 41) dX2_pushBy_36 (by decide) rfl (fun z30 => ?_) (fun z30 => ?_)
      · replace h := it_t h z30
        refine ct_aload_3 (q := 42) dX2_pushBy_41 rfl ?_
        refine ct_aload_4 (q := 44) dX2_pushBy_42 rfl ?_
        obtain ⟨x31, gx31, h⟩ := ob h
        refine ct_getI (q := 47) hB dX2_pushBy_44 fl_RX2_104 rfl gx31 rfl ?_
        refine ct_aload_4 (q := 49) dX2_pushBy_47 rfl ?_
        obtain ⟨x32, gx32, h⟩ := ob h
        refine ct_getI (q := 52) hB dX2_pushBy_49 fl_RX2_107 rfl gx32 rfl ?_
        obtain ⟨r33, gr33, h⟩ := ob h
        obtain ⟨er33, gr33⟩ := cV_spec gr33
        refine ct_cVi2 (q := 55) hB dX2_pushBy_52 lk_RX2_110 (by decide) (ctX0_wayTo hB gr33) er33 (by decide) rfl (Nat.le_of_ble_eq_true rfl) rfl ?_
        refine ct_istore_5 (q := 57) dX2_pushBy_55 (by decide) rfl rfl ?_
        refine ct_aload_4 (q := 59) dX2_pushBy_57 rfl ?_
        obtain ⟨x34, gx34, h⟩ := ob h
        refine ct_getI (q := 62) hB dX2_pushBy_59 fl_RX2_68 rfl gx34 rfl ?_
        refine ct_aload_3 (q := 63) dX2_pushBy_62 rfl ?_
        obtain ⟨x35, gx35, h⟩ := ob h
        refine ct_getI (q := 66) hB dX2_pushBy_63 fl_RX2_68 rfl gx35 rfl ?_
        obtain ⟨r36, gr36, h⟩ := ob h
        refine ct_cSi2 (q := 69) dX2_pushBy_66 lk_RX2_114 (by decide) (ctX6_ahead hB gr36) (Nat.le_of_ble_eq_true rfl) rfl ?_
        refine ct_istore_6 (q := 71) dX2_pushBy_69 (by decide) rfl rfl ?_
        refine ct_aload_0 (q := 72) dX2_pushBy_71 rfl ?_
        refine ct_iconst (v := 1) (q := 73) dX2_pushBy_72 (by decide) rfl ?_
        obtain ⟨r37, gr37, h⟩ := ob h
        obtain ⟨er37, gr37⟩ := cV_spec gr37
        refine ct_cVp1 (q := 76) hB dX2_pushBy_73 lk_RX2_76 (by decide) (ctX2_lawFor hB gr37) er37 (by decide) rfl (Nat.le_of_ble_eq_true rfl) rfl (fun ea38 => ?_) (fun a38 ea38 => ?_)
        · replace h := oe_n h ea38
          refine ct_nstore_7 (q := 78) dX2_pushBy_76 (by decide) rfl rfl ?_
          refine ct_aloadN_7 (q := 80) dX2_pushBy_78 rfl ?_
          refine ct_ifnullN (q := 105) dX2_pushBy_80 (by decide) ?_
          refine ct_iload_5 (q := 107) dX2_pushBy_105 rfl ?_
          refine ct_aload_0 (q := 108) dX2_pushBy_107 rfl ?_
          obtain ⟨x39, gx39, h⟩ := ob h
          refine ct_getI (q := 111) hB dX2_pushBy_108 fl_RX2_31 rfl gx39 rfl ?_
          refine ct_icmp_gt (q := 114) (tgt := 119) dX2_pushBy_111 (by decide) rfl (fun z40 => ?_) (fun z40 => ?_)
          · replace h := it_t h z40
            refine ct_iload_5 (q := 121) dX2_pushBy_119 rfl ?_
            refine ct_aload_0 (q := 122) dX2_pushBy_121 rfl ?_
            obtain ⟨x41, gx41, h⟩ := ob h
            refine ct_getI (q := 125) hB dX2_pushBy_122 fl_RX2_34 rfl gx41 rfl ?_
            refine ct_icmp_gt (q := 128) (tgt := 136) dX2_pushBy_125 (by decide) rfl (fun z42 => ?_) (fun z42 => ?_)
            · replace h := it_t h z42
              refine ct_iconst (v := 0) (q := 137) dX2_pushBy_136 (by decide) rfl ?_
              exact ct_iret dX2_pushBy_137 rfl ⟨Nat.le_refl 0, Nat.le_refl 0⟩ (poI_of h)
            · replace h := it_f h z42
              refine ct_iload_6 (q := 130) dX2_pushBy_128 rfl ?_
              refine ct_ineg (q := 131) dX2_pushBy_130 rfl ?_
              refine ct_iconst (v := 4) (q := 132) dX2_pushBy_131 (by decide) rfl ?_
              refine ct_idiv (q := 133) dX2_pushBy_132 (by decide) rfl ?_
              refine ct_goto (q := 137) dX2_pushBy_133 (by decide) ?_
              exact ct_iret dX2_pushBy_137 rfl ⟨Nat.le_refl 0, Nat.le_refl 0⟩ (poI_of h)
          · replace h := it_f h z40
            refine ct_iload_6 (q := 116) dX2_pushBy_114 rfl ?_
            refine ct_iconst (v := 4) (q := 117) dX2_pushBy_116 (by decide) rfl ?_
            refine ct_idiv (q := 118) dX2_pushBy_117 (by decide) rfl ?_
            exact ct_iret dX2_pushBy_118 rfl ⟨Nat.le_refl 0, Nat.le_refl 0⟩ (poI_of h)
        · replace h := oe_s h ea38
          refine ct_astore_7 (q := 78) dX2_pushBy_76 (by decide) rfl rfl ?_
          refine ct_aload_7 (q := 80) dX2_pushBy_78 rfl ?_
          refine ct_ifnull (q := 83) dX2_pushBy_80 rfl ?_
          refine ct_aload_7 (q := 85) dX2_pushBy_83 rfl ?_
          refine ct_iload_5 (q := 87) dX2_pushBy_85 rfl ?_
          refine ct_iload_6 (q := 89) dX2_pushBy_87 rfl ?_
          refine ct_aload_4 (q := 91) dX2_pushBy_89 rfl ?_
          obtain ⟨x43, gx43, h⟩ := ob h
          refine ct_getI (q := 94) hB dX2_pushBy_91 fl_RX2_80 rfl gx43 rfl ?_
          obtain ⟨r44, gr44, h⟩ := ob h
          obtain ⟨er44, gr44⟩ := cV_spec gr44
          refine ct_cVi3 (q := 97) hB dX2_pushBy_94 lk_RX2_83 (by decide) (ctX1_gives hB gr44) er44 (by decide) rfl (Nat.le_of_ble_eq_true rfl) rfl ?_
          refine ct_bipush (v := -20) (q := 99) dX2_pushBy_97 (by decide) rfl ?_
          refine ct_bipush (v := 20) (q := 101) dX2_pushBy_99 (by decide) rfl ?_
          obtain ⟨r45, gr45, h⟩ := ob h
          refine ct_cSi3 (q := 104) dX2_pushBy_101 lk_RX2_89 (by decide) (ctX6_held hB gr45) (Nat.le_of_ble_eq_true rfl) rfl ?_
          exact ct_iret dX2_pushBy_104 rfl ⟨Nat.le_refl 0, Nat.le_refl 0⟩ (poI_of h)
      · replace h := it_f h z30
        refine ct_iconst (v := 0) (q := 40) dX2_pushBy_39 (by decide) rfl ?_
        exact ct_iret dX2_pushBy_40 rfl ⟨Nat.le_refl 0, Nat.le_refl 0⟩ (poI_of h)

def fX2_pushesOn_b28 (k4 : Nat → Int32 → Int32 → Int32 → ctM → Option (Int32 × ctM)) (a0 : Nat) (x1 : Int32) (x3 : Int32) (xs0 : Int32) (xs1 : Int32) (M : ctM) : Option (Int32 × ctM) :=
  k4 a0 x1 (xs0 + xs1) (x3 + 1) M

set_option maxHeartbeats 4000000 in
set_option maxRecDepth 20000 in
theorem vX2_pushesOn_b28 {B : ctB} {n : Nat} (hB : ctOk B kdC lnC n) {k4 : Nat → Int32 → Int32 → Int32 → ctM → Option (Int32 × ctM)} (hk4 : ∀ (a0 : Nat) (x1 : Int32) (x2 : Int32) (x3 : Int32) (M : ctM) (r : Int32 × ctM), k4 a0 x1 x2 x3 M = some r → ctV B mX2_pushesOn (3, 0, 0) (poI r n) 4 [some (.ref a0), some (.int x1), some (.int x2), some (.int x3)] [] (0, 0) n M) : ∀ (a0 : Nat) (x1 : Int32) (x3 : Int32) (xs0 : Int32) (xs1 : Int32) (M : ctM) (r : Int32 × ctM), fX2_pushesOn_b28 k4 a0 x1 x3 xs0 xs1 M = some r → ctV B mX2_pushesOn (3, 0, 0) (poI r n) 28 [some (.ref a0), some (.int x1), none, some (.int x3)] [.int xs1, .int xs0] (0, 0) n M := by
  intro a0 x1 x3 xs0 xs1 M r h
  unfold fX2_pushesOn_b28 at h
  refine ct_iadd (q := 29) dX2_pushesOn_28 rfl ?_
  refine ct_istore_2 (q := 30) dX2_pushesOn_29 (by decide) rfl rfl ?_
  refine ct_iinc_3 (q := 33) (v := x3 + 1) dX2_pushesOn_30 (by first | rfl | decide) (by decide) rfl rfl ?_
  refine ct_goto (q := 4) dX2_pushesOn_33 (by decide) ?_
  exact ct_lessK (hk4 a0 x1 (xs0 + xs1) (x3 + 1) M r h) (And.intro rfl (And.intro rfl (And.intro rfl (And.intro rfl (trivial)))))

def fX2_pushesOn_h4 : Nat → Nat → Int32 → Int32 → Int32 → ctM → Option (Int32 × ctM)
  | 0, _, _, _, _, _ => none
  | N + 1, a0, x1, x2, x3, M =>
    (gI kdC 2 5 a0 M).bind fun x21 =>
    if x21 ≤ x3 then
      some (x2, M)
    else
      if x3 = x1 then
        fX2_pushesOn_b28 (fX2_pushesOn_h4 N) a0 x1 x3 x2 0 M
      else
        (cV kdC 2 a0 (fX2_pushBy a0 x1 x3 M)).bind fun r24 =>
        fX2_pushesOn_b28 (fX2_pushesOn_h4 N) a0 x1 x3 x2 r24.1 r24.2

set_option maxHeartbeats 4000000 in
set_option maxRecDepth 20000 in
theorem vX2_pushesOn_h4 {B : ctB} {n : Nat} (hB : ctOk B kdC lnC n) : ∀ (N : Nat) (a0 : Nat) (x1 : Int32) (x2 : Int32) (x3 : Int32) (M : ctM) (r : Int32 × ctM), fX2_pushesOn_h4 N a0 x1 x2 x3 M = some r → ctV B mX2_pushesOn (3, 0, 0) (poI r n) 4 [some (.ref a0), some (.int x1), some (.int x2), some (.int x3)] [] (0, 0) n M := by
  intro N
  induction N with
  | zero => intro a0 x1 x2 x3 M r h; exact absurd h (by simp [fX2_pushesOn_h4])
  | succ N ih =>
    intro a0 x1 x2 x3 M r h
    rw [fX2_pushesOn_h4] at h
    refine ct_iload_3 (q := 5) dX2_pushesOn_4 rfl ?_
    refine ct_aload_0 (q := 6) dX2_pushesOn_5 rfl ?_
    obtain ⟨x21, gx21, h⟩ := ob h
    refine ct_getI (q := 9) hB dX2_pushesOn_6 fl_RX2_27 rfl gx21 rfl ?_
    refine ct_icmp_ge (q := 12) (tgt := 36) dX2_pushesOn_9 (by decide) rfl (fun z22 => ?_) (fun z22 => ?_)
    · replace h := it_t h z22
      refine ct_iload_2 (q := 37) dX2_pushesOn_36 rfl ?_
      exact ct_iret dX2_pushesOn_37 rfl ⟨Nat.le_refl 0, Nat.le_refl 0⟩ (poI_of h)
    · replace h := it_f h z22
      refine ct_iload_2 (q := 13) dX2_pushesOn_12 rfl ?_
      refine ct_iload_3 (q := 14) dX2_pushesOn_13 rfl ?_
      refine ct_iload_1 (q := 15) dX2_pushesOn_14 rfl ?_
      refine ct_icmp_ne (q := 18) (tgt := 22) dX2_pushesOn_15 (by decide) rfl (fun z23 => ?_) (fun z23 => ?_)
      · replace h := it_f h z23
        refine ct_aload_0 (q := 23) dX2_pushesOn_22 rfl ?_
        refine ct_iload_1 (q := 24) dX2_pushesOn_23 rfl ?_
        refine ct_iload_3 (q := 25) dX2_pushesOn_24 rfl ?_
        obtain ⟨r24, gr24, h⟩ := ob h
        obtain ⟨er24, gr24⟩ := cV_spec gr24
        refine ct_cVi2 (q := 28) hB dX2_pushesOn_25 lk_RX2_117 (by decide) (ctX2_pushBy hB gr24) er24 (by decide) rfl (Nat.le_of_ble_eq_true rfl) rfl ?_
        exact ct_lessK (vX2_pushesOn_b28 hB ih a0 x1 x3 x2 r24.1 r24.2 r h) (And.intro rfl (And.intro rfl (And.intro rfl (trivial))))
      · replace h := it_t h z23
        refine ct_iconst (v := 0) (q := 19) dX2_pushesOn_18 (by decide) rfl ?_
        refine ct_goto (q := 28) dX2_pushesOn_19 (by decide) ?_
        exact ct_lessK (vX2_pushesOn_b28 hB ih a0 x1 x3 x2 0 M r h) (And.intro rfl (And.intro rfl (And.intro rfl (trivial))))

def fX2_pushesOn (a0 : Nat) (x1 : Int32) (M : ctM) : Option (Int32 × ctM) :=
  fX2_pushesOn_h4 4000 a0 x1 0 0 M

set_option maxHeartbeats 4000000 in
set_option maxRecDepth 20000 in
theorem ctX2_pushesOn {B : ctB} {n : Nat} (hB : ctOk B kdC lnC n) {a0 : Nat} {x1 : Int32} {M : ctM} {r : Int32 × ctM} (h : fX2_pushesOn a0 x1 M = some r) : ctC B mX2_pushesOn (3, 0, 0) [.ref a0, .int x1] n M (poI r n) := by
  refine ctC_of (by decide) (Nat.le_of_ble_eq_true rfl) ?_
  show ctV B mX2_pushesOn (3, 0, 0) (poI r n) 0 [some (.ref a0), some (.int x1), none, none] [] (0, 0) n M
  unfold fX2_pushesOn at h
  refine ct_iconst (v := 0) (q := 1) dX2_pushesOn_0 (by decide) rfl ?_
  refine ct_istore_2 (q := 2) dX2_pushesOn_1 (by decide) rfl rfl ?_
  refine ct_iconst (v := 0) (q := 3) dX2_pushesOn_2 (by decide) rfl ?_
  refine ct_istore_3 (q := 4) dX2_pushesOn_3 (by decide) rfl rfl ?_
  exact ct_lessK (vX2_pushesOn_h4 hB  4000 a0 x1 0 0 M r h) (And.intro rfl (And.intro rfl (And.intro rfl (And.intro rfl (trivial)))))

def fX2_windOn (a0 : Nat) (x1 : Int32) (M : ctM) : Option (Int32 × ctM) :=
  (cV kdC 2 a0 (fX2_lawFor a0 2 M)).bind fun r21 =>
  r21.1.elim (
    (cV kdC 2 a0 (fX2_draw a0 r21.2)).bind fun r23 =>
    some (((r23.1 % 11) - 5), r23.2)
    ) (fun a22 =>
    (gI kdC 2 8 a0 r21.2).bind fun x24 =>
    (cV kdC 1 a22 (fX1_gives a22 x24 x1 0 r21.2)).bind fun r25 =>
    (fX6_held r25.1 (-30) 30 r25.2).bind fun r26 =>
    some (r26.1, r26.2)
    )

set_option maxHeartbeats 4000000 in
set_option maxRecDepth 20000 in
theorem ctX2_windOn {B : ctB} {n : Nat} (hB : ctOk B kdC lnC n) {a0 : Nat} {x1 : Int32} {M : ctM} {r : Int32 × ctM} (h : fX2_windOn a0 x1 M = some r) : ctC B mX2_windOn (2, 0, 0) [.ref a0, .int x1] n M (poI r n) := by
  refine ctC_of (by decide) (Nat.le_of_ble_eq_true rfl) ?_
  show ctV B mX2_windOn (2, 0, 0) (poI r n) 0 [some (.ref a0), some (.int x1), none] [] (0, 0) n M
  unfold fX2_windOn at h
  refine ct_aload_0 (q := 1) dX2_windOn_0 rfl ?_
  refine ct_iconst (v := 2) (q := 2) dX2_windOn_1 (by decide) rfl ?_
  obtain ⟨r21, gr21, h⟩ := ob h
  obtain ⟨er21, gr21⟩ := cV_spec gr21
  refine ct_cVp1 (q := 5) hB dX2_windOn_2 lk_RX2_76 (by decide) (ctX2_lawFor hB gr21) er21 (by decide) rfl (Nat.le_of_ble_eq_true rfl) rfl (fun ea22 => ?_) (fun a22 ea22 => ?_)
  · replace h := oe_n h ea22
    refine ct_nstore_2 (q := 6) dX2_windOn_5 (by decide) rfl rfl ?_
    refine ct_aloadN_2 (q := 7) dX2_windOn_6 rfl ?_
    refine ct_ifnonnullN (q := 10) dX2_windOn_7 rfl ?_
    refine ct_aload_0 (q := 11) dX2_windOn_10 rfl ?_
    obtain ⟨r23, gr23, h⟩ := ob h
    obtain ⟨er23, gr23⟩ := cV_spec gr23
    refine ct_cVi0 (q := 14) hB dX2_windOn_11 lk_RX2_60 (by decide) (ctX2_draw hB gr23) er23 (by decide) rfl (Nat.le_of_ble_eq_true rfl) rfl ?_
    refine ct_bipush (v := 11) (q := 16) dX2_windOn_14 (by decide) rfl ?_
    refine ct_irem (q := 17) dX2_windOn_16 (by decide) rfl ?_
    refine ct_iconst (v := 5) (q := 18) dX2_windOn_17 (by decide) rfl ?_
    refine ct_isub (q := 19) dX2_windOn_18 rfl ?_
    refine ct_goto (q := 39) dX2_windOn_19 (by decide) ?_
    exact ct_iret dX2_windOn_39 rfl ⟨Nat.le_refl 0, Nat.le_refl 0⟩ (poI_of h)
  · replace h := oe_s h ea22
    refine ct_astore_2 (q := 6) dX2_windOn_5 (by decide) rfl rfl ?_
    refine ct_aload_2 (q := 7) dX2_windOn_6 rfl ?_
    refine ct_ifnonnull (q := 22) dX2_windOn_7 (by decide) ?_
    refine ct_aload_2 (q := 23) dX2_windOn_22 rfl ?_
    refine ct_aload_0 (q := 24) dX2_windOn_23 rfl ?_
    obtain ⟨x24, gx24, h⟩ := ob h
    refine ct_getI (q := 27) hB dX2_windOn_24 fl_RX2_37 rfl gx24 rfl ?_
    refine ct_iload_1 (q := 28) dX2_windOn_27 rfl ?_
    refine ct_iconst (v := 0) (q := 29) dX2_windOn_28 (by decide) rfl ?_
    obtain ⟨r25, gr25, h⟩ := ob h
    obtain ⟨er25, gr25⟩ := cV_spec gr25
    refine ct_cVi3 (q := 32) hB dX2_windOn_29 lk_RX2_83 (by decide) (ctX1_gives hB gr25) er25 (by decide) rfl (Nat.le_of_ble_eq_true rfl) rfl ?_
    refine ct_bipush (v := -30) (q := 34) dX2_windOn_32 (by decide) rfl ?_
    refine ct_bipush (v := 30) (q := 36) dX2_windOn_34 (by decide) rfl ?_
    obtain ⟨r26, gr26, h⟩ := ob h
    refine ct_cSi3 (q := 39) dX2_windOn_36 lk_RX2_89 (by decide) (ctX6_held hB gr26) (Nat.le_of_ble_eq_true rfl) rfl ?_
    exact ct_iret dX2_windOn_39 rfl ⟨Nat.le_refl 0, Nat.le_refl 0⟩ (poI_of h)

def fX2_nextOf_b24 (a0 : Nat) (x1 : Int32) (a2 : Nat) (xs0 : Int32) (M : ctM) : Option (Int32 × ctM) :=
  (gI kdC 0 4 a2 M).bind fun x21 =>
  (cV kdC 2 a0 (fX2_paceOf a0 x1 M)).bind fun r22 =>
  (cV kdC 2 a0 (fX2_pushesOn a0 x1 r22.2)).bind fun r23 =>
  (cV kdC 0 a2 (fX0_turnedFrom a2 r23.1 xs0 r23.2)).bind fun r24 =>
  some (((x21 + r22.1) + r24.1), r24.2)

set_option maxHeartbeats 4000000 in
set_option maxRecDepth 20000 in
theorem vX2_nextOf_b24 {B : ctB} {n : Nat} (hB : ctOk B kdC lnC n) : ∀ (a0 : Nat) (x1 : Int32) (a2 : Nat) (xs0 : Int32) (M : ctM) (r : Int32 × ctM), fX2_nextOf_b24 a0 x1 a2 xs0 M = some r → ctV B mX2_nextOf (4, 0, 0) (poI r n) 24 [some (.ref a0), some (.int x1), some (.ref a2), none] [.int xs0] (0, 0) n M := by
  intro a0 x1 a2 xs0 M r h
  unfold fX2_nextOf_b24 at h
  refine ct_istore_3 (q := 25) dX2_nextOf_24 (by decide) rfl rfl ?_
  refine ct_aload_2 (q := 26) dX2_nextOf_25 rfl ?_
  obtain ⟨x21, gx21, h⟩ := ob h
  refine ct_getI (q := 29) hB dX2_nextOf_26 fl_RX2_68 rfl gx21 rfl ?_
  refine ct_aload_0 (q := 30) dX2_nextOf_29 rfl ?_
  refine ct_iload_1 (q := 31) dX2_nextOf_30 rfl ?_
  obtain ⟨r22, gr22, h⟩ := ob h
  obtain ⟨er22, gr22⟩ := cV_spec gr22
  refine ct_cVi1 (q := 34) hB dX2_nextOf_31 lk_RX2_126 (by decide) (ctX2_paceOf hB gr22) er22 (by decide) rfl (Nat.le_of_ble_eq_true rfl) rfl ?_
  refine ct_iadd (q := 35) dX2_nextOf_34 rfl ?_
  refine ct_aload_2 (q := 36) dX2_nextOf_35 rfl ?_
  refine ct_aload_0 (q := 37) dX2_nextOf_36 rfl ?_
  refine ct_iload_1 (q := 38) dX2_nextOf_37 rfl ?_
  obtain ⟨r23, gr23, h⟩ := ob h
  obtain ⟨er23, gr23⟩ := cV_spec gr23
  refine ct_cVi1 (q := 41) hB dX2_nextOf_38 lk_RX2_129 (by decide) (ctX2_pushesOn hB gr23) er23 (by decide) rfl (Nat.le_of_ble_eq_true rfl) rfl ?_
  refine ct_iload_3 (q := 42) dX2_nextOf_41 rfl ?_
  obtain ⟨r24, gr24, h⟩ := ob h
  obtain ⟨er24, gr24⟩ := cV_spec gr24
  refine ct_cVi2 (q := 45) hB dX2_nextOf_42 lk_RX2_132 (by decide) (ctX0_turnedFrom hB gr24) er24 (by decide) rfl (Nat.le_of_ble_eq_true rfl) rfl ?_
  refine ct_iadd (q := 46) dX2_nextOf_45 rfl ?_
  exact ct_iret dX2_nextOf_46 rfl ⟨Nat.le_refl 0, Nat.le_refl 0⟩ (poI_of h)

def fX2_nextOf (a0 : Nat) (x1 : Int32) (M : ctM) : Option (Int32 × ctM) :=
  (gP kdC 2 1 a0 M).bind fun a21 =>
  (aP kdC lnC 11 a21 x1 M).bind fun a22 =>
  (gI kdC 0 0 a22 M).bind fun x23 =>
  if x23 = 5 then
    (cV kdC 2 a0 (fX2_windOn a0 x1 M)).bind fun r25 =>
    fX2_nextOf_b24 a0 x1 a22 r25.1 r25.2
  else
    fX2_nextOf_b24 a0 x1 a22 0 M

set_option maxHeartbeats 4000000 in
set_option maxRecDepth 20000 in
theorem ctX2_nextOf {B : ctB} {n : Nat} (hB : ctOk B kdC lnC n) {a0 : Nat} {x1 : Int32} {M : ctM} {r : Int32 × ctM} (h : fX2_nextOf a0 x1 M = some r) : ctC B mX2_nextOf (4, 0, 0) [.ref a0, .int x1] n M (poI r n) := by
  refine ctC_of (by decide) (Nat.le_of_ble_eq_true rfl) ?_
  show ctV B mX2_nextOf (4, 0, 0) (poI r n) 0 [some (.ref a0), some (.int x1), none, none] [] (0, 0) n M
  unfold fX2_nextOf at h
  refine ct_aload_0 (q := 1) dX2_nextOf_0 rfl ?_
  obtain ⟨a21, ga21, h⟩ := ob h
  refine ct_getP (q := 4) hB dX2_nextOf_1 fl_RX2_11 rfl ga21 rfl ?_
  refine ct_iload_1 (q := 5) dX2_nextOf_4 rfl ?_
  obtain ⟨a22, ga22, h⟩ := ob h
  refine ct_aald (q := 6) rfl hB dX2_nextOf_5 ga22 rfl ?_
  refine ct_astore_2 (q := 7) dX2_nextOf_6 (by decide) rfl rfl ?_
  refine ct_aload_2 (q := 8) dX2_nextOf_7 rfl ?_
  obtain ⟨x23, gx23, h⟩ := ob h
  refine ct_getI (q := 11) hB dX2_nextOf_8 fl_RX2_120 rfl gx23 rfl ?_
  refine ct_iconst (v := 5) (q := 12) dX2_nextOf_11 (by decide) rfl ?_
  refine ct_icmp_ne (q := 15) (tgt := 23) dX2_nextOf_12 (by decide) rfl (fun z24 => ?_) (fun z24 => ?_)
  · replace h := it_f h z24
    refine ct_iconst (v := 0) (q := 24) dX2_nextOf_23 (by decide) rfl ?_
    exact ct_lessK (vX2_nextOf_b24 hB  a0 x1 a22 0 M r h) (And.intro rfl (And.intro rfl (And.intro rfl (trivial))))
  · replace h := it_t h z24
    refine ct_aload_0 (q := 16) dX2_nextOf_15 rfl ?_
    refine ct_iload_1 (q := 17) dX2_nextOf_16 rfl ?_
    obtain ⟨r25, gr25, h⟩ := ob h
    obtain ⟨er25, gr25⟩ := cV_spec gr25
    refine ct_cVi1 (q := 20) hB dX2_nextOf_17 lk_RX2_123 (by decide) (ctX2_windOn hB gr25) er25 (by decide) rfl (Nat.le_of_ble_eq_true rfl) rfl ?_
    refine ct_goto (q := 24) dX2_nextOf_20 (by decide) ?_
    exact ct_lessK (vX2_nextOf_b24 hB  a0 x1 a22 r25.1 r25.2 r h) (And.intro rfl (And.intro rfl (And.intro rfl (trivial))))

def fX2_goBy_b91 (k47 : Nat → Int32 → Int32 → ctM → Option (Int32 × ctM)) (a0 : Nat) (x2 : Int32) (xs0 : Int32) (xs1 : Int32) (M : ctM) : Option (Int32 × ctM) :=
  k47 a0 (xs0 + xs1) (x2 + 1) M

set_option maxHeartbeats 4000000 in
set_option maxRecDepth 20000 in
theorem vX2_goBy_b91 {B : ctB} {n : Nat} (hB : ctOk B kdC lnC n) {k47 : Nat → Int32 → Int32 → ctM → Option (Int32 × ctM)} (hk47 : ∀ (a0 : Nat) (x1 : Int32) (x2 : Int32) (M : ctM) (r : Int32 × ctM), k47 a0 x1 x2 M = some r → ctV B mX2_goBy (5, 0, 0) (poI r n) 47 [some (.ref a0), some (.int x1), some (.int x2)] [] (0, 0) n M) : ∀ (a0 : Nat) (x2 : Int32) (xs0 : Int32) (xs1 : Int32) (M : ctM) (r : Int32 × ctM), fX2_goBy_b91 k47 a0 x2 xs0 xs1 M = some r → ctV B mX2_goBy (5, 0, 0) (poI r n) 91 [some (.ref a0), none, some (.int x2)] [.int xs1, .int xs0] (0, 0) n M := by
  intro a0 x2 xs0 xs1 M r h
  unfold fX2_goBy_b91 at h
  refine ct_iadd (q := 92) dX2_goBy_91 rfl ?_
  refine ct_istore_1 (q := 93) dX2_goBy_92 (by decide) rfl rfl ?_
  refine ct_iinc_2 (q := 96) (v := x2 + 1) dX2_goBy_93 (by first | rfl | decide) (by decide) rfl rfl ?_
  refine ct_goto (q := 47) dX2_goBy_96 (by decide) ?_
  exact ct_lessK (hk47 a0 (xs0 + xs1) (x2 + 1) M r h) (And.intro rfl (And.intro rfl (And.intro rfl (trivial))))

def fX2_goBy_b90 (k47 : Nat → Int32 → Int32 → ctM → Option (Int32 × ctM)) (a0 : Nat) (x2 : Int32) (xs0 : Int32) (M : ctM) : Option (Int32 × ctM) :=
  fX2_goBy_b91 k47 a0 x2 xs0 0 M

set_option maxHeartbeats 4000000 in
set_option maxRecDepth 20000 in
theorem vX2_goBy_b90 {B : ctB} {n : Nat} (hB : ctOk B kdC lnC n) {k47 : Nat → Int32 → Int32 → ctM → Option (Int32 × ctM)} (hk47 : ∀ (a0 : Nat) (x1 : Int32) (x2 : Int32) (M : ctM) (r : Int32 × ctM), k47 a0 x1 x2 M = some r → ctV B mX2_goBy (5, 0, 0) (poI r n) 47 [some (.ref a0), some (.int x1), some (.int x2)] [] (0, 0) n M) : ∀ (a0 : Nat) (x2 : Int32) (xs0 : Int32) (M : ctM) (r : Int32 × ctM), fX2_goBy_b90 k47 a0 x2 xs0 M = some r → ctV B mX2_goBy (5, 0, 0) (poI r n) 90 [some (.ref a0), none, some (.int x2)] [.int xs0] (0, 0) n M := by
  intro a0 x2 xs0 M r h
  unfold fX2_goBy_b90 at h
  refine ct_iconst (v := 0) (q := 91) dX2_goBy_90 (by decide) rfl ?_
  exact ct_lessK (vX2_goBy_b91 hB hk47 a0 x2 xs0 0 M r h) (And.intro rfl (And.intro rfl (trivial)))

def fX2_goBy_h47 : Nat → Nat → Int32 → Int32 → ctM → Option (Int32 × ctM)
  | 0, _, _, _, _ => none
  | N + 1, a0, x1, x2, M =>
    (gI kdC 2 5 a0 M).bind fun x21 =>
    if x21 ≤ x2 then
      (gI kdC 2 8 a0 M).bind fun x23 =>
      (pI kdC 2 8 a0 (x23 + 1) M).bind fun M24 =>
      some (x1, M24)
    else
      (gP kdC 2 1 a0 M).bind fun a25 =>
      (aP kdC lnC 11 a25 x2 M).bind fun a26 =>
      (cV kdC 0 a26 (fX0_isLit a26 M)).bind fun r27 =>
      if r27.1 = 0 then
        fX2_goBy_b90 (fX2_goBy_h47 N) a0 x2 x1 r27.2
      else
        (gP kdC 2 1 a0 r27.2).bind fun a29 =>
        (aP kdC lnC 11 a29 x2 r27.2).bind fun a30 =>
        (gP kdC 2 3 a0 r27.2).bind fun a31 =>
        (aI kdC lnC 9 a31 x2 r27.2).bind fun x32 =>
        (cV kdC 0 a30 (fX0_burnTo a30 x32 r27.2)).bind fun r33 =>
        if r33.1 = 0 then
          fX2_goBy_b90 (fX2_goBy_h47 N) a0 x2 x1 r33.2
        else
          fX2_goBy_b91 (fX2_goBy_h47 N) a0 x2 x1 1 r33.2

set_option maxHeartbeats 4000000 in
set_option maxRecDepth 20000 in
theorem vX2_goBy_h47 {B : ctB} {n : Nat} (hB : ctOk B kdC lnC n) : ∀ (N : Nat) (a0 : Nat) (x1 : Int32) (x2 : Int32) (M : ctM) (r : Int32 × ctM), fX2_goBy_h47 N a0 x1 x2 M = some r → ctV B mX2_goBy (5, 0, 0) (poI r n) 47 [some (.ref a0), some (.int x1), some (.int x2)] [] (0, 0) n M := by
  intro N
  induction N with
  | zero => intro a0 x1 x2 M r h; exact absurd h (by simp [fX2_goBy_h47])
  | succ N ih =>
    intro a0 x1 x2 M r h
    rw [fX2_goBy_h47] at h
    refine ct_iload_2 (q := 48) dX2_goBy_47 rfl ?_
    refine ct_aload_0 (q := 49) dX2_goBy_48 rfl ?_
    obtain ⟨x21, gx21, h⟩ := ob h
    refine ct_getI (q := 52) hB dX2_goBy_49 fl_RX2_27 rfl gx21 rfl ?_
    refine ct_icmp_ge (q := 55) (tgt := 99) dX2_goBy_52 (by decide) rfl (fun z22 => ?_) (fun z22 => ?_)
    · replace h := it_t h z22
      refine ct_aload_0 (q := 100) dX2_goBy_99 rfl ?_
      refine ct_dup (q := 101) dX2_goBy_100 rfl rfl ?_
      obtain ⟨x23, gx23, h⟩ := ob h
      refine ct_getI (q := 104) hB dX2_goBy_101 fl_RX2_37 rfl gx23 rfl ?_
      refine ct_iconst (v := 1) (q := 105) dX2_goBy_104 (by decide) rfl ?_
      refine ct_iadd (q := 106) dX2_goBy_105 rfl ?_
      obtain ⟨M24, gM24, h⟩ := ob h
      refine ct_putI (q := 109) hB dX2_goBy_106 fl_RX2_37 rfl rfl (Or.inl rfl) gM24 rfl ?_
      refine ct_iload_1 (q := 110) dX2_goBy_109 rfl ?_
      exact ct_iret dX2_goBy_110 rfl ⟨Nat.le_refl 0, Nat.le_refl 0⟩ (poI_of h)
    · replace h := it_f h z22
      refine ct_iload_1 (q := 56) dX2_goBy_55 rfl ?_
      refine ct_aload_0 (q := 57) dX2_goBy_56 rfl ?_
      obtain ⟨a25, ga25, h⟩ := ob h
      refine ct_getP (q := 60) hB dX2_goBy_57 fl_RX2_11 rfl ga25 rfl ?_
      refine ct_iload_2 (q := 61) dX2_goBy_60 rfl ?_
      obtain ⟨a26, ga26, h⟩ := ob h
      refine ct_aald (q := 62) rfl hB dX2_goBy_61 ga26 rfl ?_
      obtain ⟨r27, gr27, h⟩ := ob h
      obtain ⟨er27, gr27⟩ := cV_spec gr27
      refine ct_cVi0 (q := 65) hB dX2_goBy_62 lk_RX2_96 (by decide) (ctX0_isLit hB gr27) er27 (by decide) rfl (Nat.le_of_ble_eq_true rfl) rfl ?_
      refine ct_if_eq (q := 68) (tgt := 90) dX2_goBy_65 (by decide) rfl (fun z28 => ?_) (fun z28 => ?_)
      · replace h := it_t h z28
        exact ct_lessK (vX2_goBy_b90 hB ih a0 x2 x1 r27.2 r h) (And.intro rfl (And.intro rfl (trivial)))
      · replace h := it_f h z28
        refine ct_aload_0 (q := 69) dX2_goBy_68 rfl ?_
        obtain ⟨a29, ga29, h⟩ := ob h
        refine ct_getP (q := 72) hB dX2_goBy_69 fl_RX2_11 rfl ga29 rfl ?_
        refine ct_iload_2 (q := 73) dX2_goBy_72 rfl ?_
        obtain ⟨a30, ga30, h⟩ := ob h
        refine ct_aald (q := 74) rfl hB dX2_goBy_73 ga30 rfl ?_
        refine ct_aload_0 (q := 75) dX2_goBy_74 rfl ?_
        obtain ⟨a31, ga31, h⟩ := ob h
        refine ct_getP (q := 78) hB dX2_goBy_75 fl_RX2_21 rfl ga31 rfl ?_
        refine ct_iload_2 (q := 79) dX2_goBy_78 rfl ?_
        obtain ⟨x32, gx32, h⟩ := ob h
        refine ct_iald (q := 80) hB dX2_goBy_79 gx32 rfl ?_
        obtain ⟨r33, gr33, h⟩ := ob h
        obtain ⟨er33, gr33⟩ := cV_spec gr33
        refine ct_cVi1 (q := 83) hB dX2_goBy_80 lk_RX2_138 (by decide) (ctX0_burnTo hB gr33) er33 (by decide) rfl (Nat.le_of_ble_eq_true rfl) rfl ?_
        refine ct_if_eq (q := 86) (tgt := 90) dX2_goBy_83 (by decide) rfl (fun z34 => ?_) (fun z34 => ?_)
        · replace h := it_t h z34
          exact ct_lessK (vX2_goBy_b90 hB ih a0 x2 x1 r33.2 r h) (And.intro rfl (And.intro rfl (trivial)))
        · replace h := it_f h z34
          refine ct_iconst (v := 1) (q := 87) dX2_goBy_86 (by decide) rfl ?_
          refine ct_goto (q := 91) dX2_goBy_87 (by decide) ?_
          exact ct_lessK (vX2_goBy_b91 hB ih a0 x2 x1 1 r33.2 r h) (And.intro rfl (And.intro rfl (trivial)))

def fX2_goBy_b36 (k2 : Nat → Int32 → ctM → Option (Int32 × ctM)) (a0 : Nat) (x1 : Int32) (as0 : Nat) (xs1 : Int32) (xs2 : Int32) (M : ctM) : Option (Int32 × ctM) :=
  (sI kdC lnC 9 as0 xs1 xs2 M).bind fun M21 =>
  k2 a0 (x1 + 1) M21

set_option maxHeartbeats 4000000 in
set_option maxRecDepth 20000 in
theorem vX2_goBy_b36 {B : ctB} {n : Nat} (hB : ctOk B kdC lnC n) {k2 : Nat → Int32 → ctM → Option (Int32 × ctM)} (hk2 : ∀ (a0 : Nat) (x1 : Int32) (M : ctM) (r : Int32 × ctM), k2 a0 x1 M = some r → ctV B mX2_goBy (5, 0, 0) (poI r n) 2 [some (.ref a0), some (.int x1), none] [] (0, 0) n M) : ∀ (a0 : Nat) (x1 : Int32) (as0 : Nat) (xs1 : Int32) (xs2 : Int32) (M : ctM) (r : Int32 × ctM), fX2_goBy_b36 k2 a0 x1 as0 xs1 xs2 M = some r → ctV B mX2_goBy (5, 0, 0) (poI r n) 36 [some (.ref a0), some (.int x1), none] [.int xs2, .int xs1, .ref as0] (0, 0) n M := by
  intro a0 x1 as0 xs1 xs2 M r h
  unfold fX2_goBy_b36 at h
  obtain ⟨M21, gM21, h⟩ := ob h
  refine ct_iast (q := 37) hB dX2_goBy_36 gM21 rfl ?_
  refine ct_iinc_1 (q := 40) (v := x1 + 1) dX2_goBy_37 (by first | rfl | decide) (by decide) rfl rfl ?_
  refine ct_goto (q := 2) dX2_goBy_40 (by decide) ?_
  exact ct_lessK (hk2 a0 (x1 + 1) M21 r h) (And.intro rfl (And.intro rfl (trivial)))

def fX2_goBy_h2 : Nat → Nat → Int32 → ctM → Option (Int32 × ctM)
  | 0, _, _, _ => none
  | N + 1, a0, x1, M =>
    (gI kdC 2 5 a0 M).bind fun x21 =>
    if x21 ≤ x1 then
      fX2_goBy_h47 4000 a0 0 0 M
    else
      (gP kdC 2 3 a0 M).bind fun a23 =>
      (gP kdC 2 1 a0 M).bind fun a24 =>
      (aP kdC lnC 11 a24 x1 M).bind fun a25 =>
      (cV kdC 0 a25 (fX0_isLit a25 M)).bind fun r26 =>
      if r26.1 = 0 then
        fX2_goBy_b36 (fX2_goBy_h2 N) a0 x1 a23 x1 0 r26.2
      else
        (cV kdC 2 a0 (fX2_nextOf a0 x1 r26.2)).bind fun r28 =>
        fX2_goBy_b36 (fX2_goBy_h2 N) a0 x1 a23 x1 r28.1 r28.2

set_option maxHeartbeats 4000000 in
set_option maxRecDepth 20000 in
theorem vX2_goBy_h2 {B : ctB} {n : Nat} (hB : ctOk B kdC lnC n) : ∀ (N : Nat) (a0 : Nat) (x1 : Int32) (M : ctM) (r : Int32 × ctM), fX2_goBy_h2 N a0 x1 M = some r → ctV B mX2_goBy (5, 0, 0) (poI r n) 2 [some (.ref a0), some (.int x1), none] [] (0, 0) n M := by
  intro N
  induction N with
  | zero => intro a0 x1 M r h; exact absurd h (by simp [fX2_goBy_h2])
  | succ N ih =>
    intro a0 x1 M r h
    rw [fX2_goBy_h2] at h
    refine ct_iload_1 (q := 3) dX2_goBy_2 rfl ?_
    refine ct_aload_0 (q := 4) dX2_goBy_3 rfl ?_
    obtain ⟨x21, gx21, h⟩ := ob h
    refine ct_getI (q := 7) hB dX2_goBy_4 fl_RX2_27 rfl gx21 rfl ?_
    refine ct_icmp_ge (q := 10) (tgt := 43) dX2_goBy_7 (by decide) rfl (fun z22 => ?_) (fun z22 => ?_)
    · replace h := it_t h z22
      refine ct_iconst (v := 0) (q := 44) dX2_goBy_43 (by decide) rfl ?_
      refine ct_istore_1 (q := 45) dX2_goBy_44 (by decide) rfl rfl ?_
      refine ct_iconst (v := 0) (q := 46) dX2_goBy_45 (by decide) rfl ?_
      refine ct_istore_2 (q := 47) dX2_goBy_46 (by decide) rfl rfl ?_
      exact ct_lessK (vX2_goBy_h47 hB  4000 a0 0 0 M r h) (And.intro rfl (And.intro rfl (And.intro rfl (trivial))))
    · replace h := it_f h z22
      refine ct_aload_0 (q := 11) dX2_goBy_10 rfl ?_
      obtain ⟨a23, ga23, h⟩ := ob h
      refine ct_getP (q := 14) hB dX2_goBy_11 fl_RX2_21 rfl ga23 rfl ?_
      refine ct_iload_1 (q := 15) dX2_goBy_14 rfl ?_
      refine ct_aload_0 (q := 16) dX2_goBy_15 rfl ?_
      obtain ⟨a24, ga24, h⟩ := ob h
      refine ct_getP (q := 19) hB dX2_goBy_16 fl_RX2_11 rfl ga24 rfl ?_
      refine ct_iload_1 (q := 20) dX2_goBy_19 rfl ?_
      obtain ⟨a25, ga25, h⟩ := ob h
      refine ct_aald (q := 21) rfl hB dX2_goBy_20 ga25 rfl ?_
      obtain ⟨r26, gr26, h⟩ := ob h
      obtain ⟨er26, gr26⟩ := cV_spec gr26
      refine ct_cVi0 (q := 24) hB dX2_goBy_21 lk_RX2_96 (by decide) (ctX0_isLit hB gr26) er26 (by decide) rfl (Nat.le_of_ble_eq_true rfl) rfl ?_
      refine ct_if_eq (q := 27) (tgt := 35) dX2_goBy_24 (by decide) rfl (fun z27 => ?_) (fun z27 => ?_)
      · replace h := it_t h z27
        refine ct_iconst (v := 0) (q := 36) dX2_goBy_35 (by decide) rfl ?_
        exact ct_lessK (vX2_goBy_b36 hB ih a0 x1 a23 x1 0 r26.2 r h) (And.intro rfl (And.intro rfl (trivial)))
      · replace h := it_f h z27
        refine ct_aload_0 (q := 28) dX2_goBy_27 rfl ?_
        refine ct_iload_1 (q := 29) dX2_goBy_28 rfl ?_
        obtain ⟨r28, gr28, h⟩ := ob h
        obtain ⟨er28, gr28⟩ := cV_spec gr28
        refine ct_cVi1 (q := 32) hB dX2_goBy_29 lk_RX2_135 (by decide) (ctX2_nextOf hB gr28) er28 (by decide) rfl (Nat.le_of_ble_eq_true rfl) rfl ?_
        refine ct_goto (q := 36) dX2_goBy_32 (by decide) ?_
        exact ct_lessK (vX2_goBy_b36 hB ih a0 x1 a23 x1 r28.1 r28.2 r h) (And.intro rfl (And.intro rfl (trivial)))

def fX2_goBy (a0 : Nat) (M : ctM) : Option (Int32 × ctM) :=
  fX2_goBy_h2 4000 a0 0 M

set_option maxHeartbeats 4000000 in
set_option maxRecDepth 20000 in
theorem ctX2_goBy {B : ctB} {n : Nat} (hB : ctOk B kdC lnC n) {a0 : Nat} {M : ctM} {r : Int32 × ctM} (h : fX2_goBy a0 M = some r) : ctC B mX2_goBy (5, 0, 0) [.ref a0] n M (poI r n) := by
  refine ctC_of (by decide) (Nat.le_of_ble_eq_true rfl) ?_
  show ctV B mX2_goBy (5, 0, 0) (poI r n) 0 [some (.ref a0), none, none] [] (0, 0) n M
  unfold fX2_goBy at h
  refine ct_iconst (v := 0) (q := 1) dX2_goBy_0 (by decide) rfl ?_
  refine ct_istore_1 (q := 2) dX2_goBy_1 (by decide) rfl rfl ?_
  exact ct_lessK (vX2_goBy_h2 hB  4000 a0 0 M r h) (And.intro rfl (And.intro rfl (trivial)))

def fX2_litFrom_h6 : Nat → Nat → Int32 → ctM → Option (Int32 × ctM)
  | 0, _, _, _ => none
  | N + 1, a0, x2, M =>
    (gI kdC 2 5 a0 M).bind fun x21 =>
    if x21 ≤ x2 then
      (gI kdC 2 5 a0 M).bind fun x23 =>
      some (x23, M)
    else
      (gP kdC 2 1 a0 M).bind fun a24 =>
      (aP kdC lnC 11 a24 x2 M).bind fun a25 =>
      (cV kdC 0 a25 (fX0_isLit a25 M)).bind fun r26 =>
      if r26.1 = 0 then
        fX2_litFrom_h6 N a0 (x2 + 1) r26.2
      else
        some (x2, r26.2)

set_option maxHeartbeats 4000000 in
set_option maxRecDepth 20000 in
theorem vX2_litFrom_h6 {B : ctB} {n : Nat} (hB : ctOk B kdC lnC n) : ∀ (N : Nat) (a0 : Nat) (x2 : Int32) (M : ctM) (r : Int32 × ctM), fX2_litFrom_h6 N a0 x2 M = some r → ctV B mX2_litFrom (1, 0, 0) (poI r n) 6 [some (.ref a0), none, some (.int x2)] [] (0, 0) n M := by
  intro N
  induction N with
  | zero => intro a0 x2 M r h; exact absurd h (by simp [fX2_litFrom_h6])
  | succ N ih =>
    intro a0 x2 M r h
    rw [fX2_litFrom_h6] at h
    refine ct_iload_2 (q := 7) dX2_litFrom_6 rfl ?_
    refine ct_aload_0 (q := 8) dX2_litFrom_7 rfl ?_
    obtain ⟨x21, gx21, h⟩ := ob h
    refine ct_getI (q := 11) hB dX2_litFrom_8 fl_RX2_27 rfl gx21 rfl ?_
    refine ct_icmp_ge (q := 14) (tgt := 34) dX2_litFrom_11 (by decide) rfl (fun z22 => ?_) (fun z22 => ?_)
    · replace h := it_t h z22
      refine ct_aload_0 (q := 35) dX2_litFrom_34 rfl ?_
      obtain ⟨x23, gx23, h⟩ := ob h
      refine ct_getI (q := 38) hB dX2_litFrom_35 fl_RX2_27 rfl gx23 rfl ?_
      exact ct_iret dX2_litFrom_38 rfl ⟨Nat.le_refl 0, Nat.le_refl 0⟩ (poI_of h)
    · replace h := it_f h z22
      refine ct_aload_0 (q := 15) dX2_litFrom_14 rfl ?_
      obtain ⟨a24, ga24, h⟩ := ob h
      refine ct_getP (q := 18) hB dX2_litFrom_15 fl_RX2_11 rfl ga24 rfl ?_
      refine ct_iload_2 (q := 19) dX2_litFrom_18 rfl ?_
      obtain ⟨a25, ga25, h⟩ := ob h
      refine ct_aald (q := 20) rfl hB dX2_litFrom_19 ga25 rfl ?_
      obtain ⟨r26, gr26, h⟩ := ob h
      obtain ⟨er26, gr26⟩ := cV_spec gr26
      refine ct_cVi0 (q := 23) hB dX2_litFrom_20 lk_RX2_96 (by decide) (ctX0_isLit hB gr26) er26 (by decide) rfl (Nat.le_of_ble_eq_true rfl) rfl ?_
      refine ct_if_eq (q := 26) (tgt := 28) dX2_litFrom_23 (by decide) rfl (fun z27 => ?_) (fun z27 => ?_)
      · replace h := it_t h z27
        refine ct_iinc_2 (q := 31) (v := x2 + 1) dX2_litFrom_28 (by first | rfl | decide) (by decide) rfl rfl ?_
        refine ct_goto (q := 6) dX2_litFrom_31 (by decide) ?_
        exact ct_lessK (ih a0 (x2 + 1) r26.2 r h) (And.intro rfl (And.intro rfl (trivial)))
      · replace h := it_f h z27
        refine ct_iload_2 (q := 27) dX2_litFrom_26 rfl ?_
        exact ct_iret dX2_litFrom_27 rfl ⟨Nat.le_refl 0, Nat.le_refl 0⟩ (poI_of h)

def fX2_litFrom (a0 : Nat) (x1 : Int32) (M : ctM) : Option (Int32 × ctM) :=
  fX2_litFrom_h6 4000 a0 (if 0 < x1 then x1 else 0) M

set_option maxHeartbeats 4000000 in
set_option maxRecDepth 20000 in
theorem ctX2_litFrom {B : ctB} {n : Nat} (hB : ctOk B kdC lnC n) {a0 : Nat} {x1 : Int32} {M : ctM} {r : Int32 × ctM} (h : fX2_litFrom a0 x1 M = some r) : ctC B mX2_litFrom (1, 0, 0) [.ref a0, .int x1] n M (poI r n) := by
  refine ctC_of (by decide) (Nat.le_of_ble_eq_true rfl) ?_
  show ctV B mX2_litFrom (1, 0, 0) (poI r n) 0 [some (.ref a0), some (.int x1), none] [] (0, 0) n M
  unfold fX2_litFrom at h
  refine ct_iconst (v := 0) (q := 1) dX2_litFrom_0 (by decide) rfl ?_
  refine ct_iload_1 (q := 2) dX2_litFrom_1 rfl ?_
  refine ct_max (q := 5) dX2_litFrom_2 ma_RX2_142 (by decide) (Nat.le_of_ble_eq_true rfl) ⟨Nat.le_refl 0, Nat.le_refl 0⟩ rfl ?_
  refine ct_istore_2 (q := 6) dX2_litFrom_5 (by decide) rfl rfl ?_
  exact ct_lessK (vX2_litFrom_h6 hB  4000 a0 (if 0 < x1 then x1 else 0) M r h) (And.intro rfl (And.intro rfl (trivial)))

def fX2_litMany_b30 (k4 : Nat → Int32 → Int32 → ctM → Option (Int32 × ctM)) (a0 : Nat) (x2 : Int32) (xs0 : Int32) (xs1 : Int32) (M : ctM) : Option (Int32 × ctM) :=
  k4 a0 (xs0 + xs1) (x2 + 1) M

set_option maxHeartbeats 4000000 in
set_option maxRecDepth 20000 in
theorem vX2_litMany_b30 {B : ctB} {n : Nat} (hB : ctOk B kdC lnC n) {k4 : Nat → Int32 → Int32 → ctM → Option (Int32 × ctM)} (hk4 : ∀ (a0 : Nat) (x1 : Int32) (x2 : Int32) (M : ctM) (r : Int32 × ctM), k4 a0 x1 x2 M = some r → ctV B mX2_litMany (1, 0, 0) (poI r n) 4 [some (.ref a0), some (.int x1), some (.int x2)] [] (0, 0) n M) : ∀ (a0 : Nat) (x2 : Int32) (xs0 : Int32) (xs1 : Int32) (M : ctM) (r : Int32 × ctM), fX2_litMany_b30 k4 a0 x2 xs0 xs1 M = some r → ctV B mX2_litMany (1, 0, 0) (poI r n) 30 [some (.ref a0), none, some (.int x2)] [.int xs1, .int xs0] (0, 0) n M := by
  intro a0 x2 xs0 xs1 M r h
  unfold fX2_litMany_b30 at h
  refine ct_iadd (q := 31) dX2_litMany_30 rfl ?_
  refine ct_istore_1 (q := 32) dX2_litMany_31 (by decide) rfl rfl ?_
  refine ct_iinc_2 (q := 35) (v := x2 + 1) dX2_litMany_32 (by first | rfl | decide) (by decide) rfl rfl ?_
  refine ct_goto (q := 4) dX2_litMany_35 (by decide) ?_
  exact ct_lessK (hk4 a0 (xs0 + xs1) (x2 + 1) M r h) (And.intro rfl (And.intro rfl (And.intro rfl (trivial))))

def fX2_litMany_h4 : Nat → Nat → Int32 → Int32 → ctM → Option (Int32 × ctM)
  | 0, _, _, _, _ => none
  | N + 1, a0, x1, x2, M =>
    (gI kdC 2 5 a0 M).bind fun x21 =>
    if x21 ≤ x2 then
      some (x1, M)
    else
      (gP kdC 2 1 a0 M).bind fun a23 =>
      (aP kdC lnC 11 a23 x2 M).bind fun a24 =>
      (cV kdC 0 a24 (fX0_isLit a24 M)).bind fun r25 =>
      if r25.1 = 0 then
        fX2_litMany_b30 (fX2_litMany_h4 N) a0 x2 x1 0 r25.2
      else
        fX2_litMany_b30 (fX2_litMany_h4 N) a0 x2 x1 1 r25.2

set_option maxHeartbeats 4000000 in
set_option maxRecDepth 20000 in
theorem vX2_litMany_h4 {B : ctB} {n : Nat} (hB : ctOk B kdC lnC n) : ∀ (N : Nat) (a0 : Nat) (x1 : Int32) (x2 : Int32) (M : ctM) (r : Int32 × ctM), fX2_litMany_h4 N a0 x1 x2 M = some r → ctV B mX2_litMany (1, 0, 0) (poI r n) 4 [some (.ref a0), some (.int x1), some (.int x2)] [] (0, 0) n M := by
  intro N
  induction N with
  | zero => intro a0 x1 x2 M r h; exact absurd h (by simp [fX2_litMany_h4])
  | succ N ih =>
    intro a0 x1 x2 M r h
    rw [fX2_litMany_h4] at h
    refine ct_iload_2 (q := 5) dX2_litMany_4 rfl ?_
    refine ct_aload_0 (q := 6) dX2_litMany_5 rfl ?_
    obtain ⟨x21, gx21, h⟩ := ob h
    refine ct_getI (q := 9) hB dX2_litMany_6 fl_RX2_27 rfl gx21 rfl ?_
    refine ct_icmp_ge (q := 12) (tgt := 38) dX2_litMany_9 (by decide) rfl (fun z22 => ?_) (fun z22 => ?_)
    · replace h := it_t h z22
      refine ct_iload_1 (q := 39) dX2_litMany_38 rfl ?_
      exact ct_iret dX2_litMany_39 rfl ⟨Nat.le_refl 0, Nat.le_refl 0⟩ (poI_of h)
    · replace h := it_f h z22
      refine ct_iload_1 (q := 13) dX2_litMany_12 rfl ?_
      refine ct_aload_0 (q := 14) dX2_litMany_13 rfl ?_
      obtain ⟨a23, ga23, h⟩ := ob h
      refine ct_getP (q := 17) hB dX2_litMany_14 fl_RX2_11 rfl ga23 rfl ?_
      refine ct_iload_2 (q := 18) dX2_litMany_17 rfl ?_
      obtain ⟨a24, ga24, h⟩ := ob h
      refine ct_aald (q := 19) rfl hB dX2_litMany_18 ga24 rfl ?_
      obtain ⟨r25, gr25, h⟩ := ob h
      obtain ⟨er25, gr25⟩ := cV_spec gr25
      refine ct_cVi0 (q := 22) hB dX2_litMany_19 lk_RX2_96 (by decide) (ctX0_isLit hB gr25) er25 (by decide) rfl (Nat.le_of_ble_eq_true rfl) rfl ?_
      refine ct_if_eq (q := 25) (tgt := 29) dX2_litMany_22 (by decide) rfl (fun z26 => ?_) (fun z26 => ?_)
      · replace h := it_t h z26
        refine ct_iconst (v := 0) (q := 30) dX2_litMany_29 (by decide) rfl ?_
        exact ct_lessK (vX2_litMany_b30 hB ih a0 x2 x1 0 r25.2 r h) (And.intro rfl (And.intro rfl (trivial)))
      · replace h := it_f h z26
        refine ct_iconst (v := 1) (q := 26) dX2_litMany_25 (by decide) rfl ?_
        refine ct_goto (q := 30) dX2_litMany_26 (by decide) ?_
        exact ct_lessK (vX2_litMany_b30 hB ih a0 x2 x1 1 r25.2 r h) (And.intro rfl (And.intro rfl (trivial)))

def fX2_litMany (a0 : Nat) (M : ctM) : Option (Int32 × ctM) :=
  fX2_litMany_h4 4000 a0 0 0 M

set_option maxHeartbeats 4000000 in
set_option maxRecDepth 20000 in
theorem ctX2_litMany {B : ctB} {n : Nat} (hB : ctOk B kdC lnC n) {a0 : Nat} {M : ctM} {r : Int32 × ctM} (h : fX2_litMany a0 M = some r) : ctC B mX2_litMany (1, 0, 0) [.ref a0] n M (poI r n) := by
  refine ctC_of (by decide) (Nat.le_of_ble_eq_true rfl) ?_
  show ctV B mX2_litMany (1, 0, 0) (poI r n) 0 [some (.ref a0), none, none] [] (0, 0) n M
  unfold fX2_litMany at h
  refine ct_iconst (v := 0) (q := 1) dX2_litMany_0 (by decide) rfl ?_
  refine ct_istore_1 (q := 2) dX2_litMany_1 (by decide) rfl rfl ?_
  refine ct_iconst (v := 0) (q := 3) dX2_litMany_2 (by decide) rfl ?_
  refine ct_istore_2 (q := 4) dX2_litMany_3 (by decide) rfl rfl ?_
  exact ct_lessK (vX2_litMany_h4 hB  4000 a0 0 0 M r h) (And.intro rfl (And.intro rfl (And.intro rfl (trivial))))

def fX2_beatsAs_h2 : Nat → Nat → Nat → Int32 → ctM → Option (Int32 × ctM)
  | 0, _, _, _, _ => none
  | N + 1, a0, a1, x2, M =>
    (gI kdC 2 5 a0 M).bind fun x21 =>
    if x21 ≤ x2 then
      some (1, M)
    else
      (gP kdC 2 1 a0 M).bind fun a23 =>
      (aP kdC lnC 11 a23 x2 M).bind fun a24 =>
      (gI kdC 0 4 a24 M).bind fun x25 =>
      (gP kdC 2 1 a1 M).bind fun a26 =>
      (aP kdC lnC 11 a26 x2 M).bind fun a27 =>
      (gI kdC 0 4 a27 M).bind fun x28 =>
      if x25 = x28 then
        fX2_beatsAs_h2 N a0 a1 (x2 + 1) M
      else
        some (0, M)

set_option maxHeartbeats 4000000 in
set_option maxRecDepth 20000 in
theorem vX2_beatsAs_h2 {B : ctB} {n : Nat} (hB : ctOk B kdC lnC n) : ∀ (N : Nat) (a0 : Nat) (a1 : Nat) (x2 : Int32) (M : ctM) (r : Int32 × ctM), fX2_beatsAs_h2 N a0 a1 x2 M = some r → ctV B mX2_beatsAs (0, 0, 0) (poI r n) 2 [some (.ref a0), some (.ref a1), some (.int x2)] [] (0, 0) n M := by
  intro N
  induction N with
  | zero => intro a0 a1 x2 M r h; exact absurd h (by simp [fX2_beatsAs_h2])
  | succ N ih =>
    intro a0 a1 x2 M r h
    rw [fX2_beatsAs_h2] at h
    refine ct_iload_2 (q := 3) dX2_beatsAs_2 rfl ?_
    refine ct_aload_0 (q := 4) dX2_beatsAs_3 rfl ?_
    obtain ⟨x21, gx21, h⟩ := ob h
    refine ct_getI (q := 7) hB dX2_beatsAs_4 fl_RX2_27 rfl gx21 rfl ?_
    refine ct_icmp_ge (q := 10) (tgt := 39) dX2_beatsAs_7 (by decide) rfl (fun z22 => ?_) (fun z22 => ?_)
    · replace h := it_t h z22
      refine ct_iconst (v := 1) (q := 40) dX2_beatsAs_39 (by decide) rfl ?_
      exact ct_zret dX2_beatsAs_40 rfl (by decide) ⟨Nat.le_refl 0, Nat.le_refl 0⟩ (poI_of h)
    · replace h := it_f h z22
      refine ct_aload_0 (q := 11) dX2_beatsAs_10 rfl ?_
      obtain ⟨a23, ga23, h⟩ := ob h
      refine ct_getP (q := 14) hB dX2_beatsAs_11 fl_RX2_11 rfl ga23 rfl ?_
      refine ct_iload_2 (q := 15) dX2_beatsAs_14 rfl ?_
      obtain ⟨a24, ga24, h⟩ := ob h
      refine ct_aald (q := 16) rfl hB dX2_beatsAs_15 ga24 rfl ?_
      obtain ⟨x25, gx25, h⟩ := ob h
      refine ct_getI (q := 19) hB dX2_beatsAs_16 fl_RX2_68 rfl gx25 rfl ?_
      refine ct_aload_1 (q := 20) dX2_beatsAs_19 rfl ?_
      obtain ⟨a26, ga26, h⟩ := ob h
      refine ct_getP (q := 23) hB dX2_beatsAs_20 fl_RX2_11 rfl ga26 rfl ?_
      refine ct_iload_2 (q := 24) dX2_beatsAs_23 rfl ?_
      obtain ⟨a27, ga27, h⟩ := ob h
      refine ct_aald (q := 25) rfl hB dX2_beatsAs_24 ga27 rfl ?_
      obtain ⟨x28, gx28, h⟩ := ob h
      refine ct_getI (q := 28) hB dX2_beatsAs_25 fl_RX2_68 rfl gx28 rfl ?_
      refine ct_icmp_eq (q := 31) (tgt := 33) dX2_beatsAs_28 (by decide) rfl (fun z29 => ?_) (fun z29 => ?_)
      · replace h := it_t h z29
        refine ct_iinc_2 (q := 36) (v := x2 + 1) dX2_beatsAs_33 (by first | rfl | decide) (by decide) rfl rfl ?_
        refine ct_goto (q := 2) dX2_beatsAs_36 (by decide) ?_
        exact ct_lessK (ih a0 a1 (x2 + 1) M r h) (And.intro rfl (And.intro rfl (And.intro rfl (trivial))))
      · replace h := it_f h z29
        refine ct_iconst (v := 0) (q := 32) dX2_beatsAs_31 (by decide) rfl ?_
        exact ct_zret dX2_beatsAs_32 rfl (by decide) ⟨Nat.le_refl 0, Nat.le_refl 0⟩ (poI_of h)

def fX2_beatsAs (a0 : Nat) (a1 : Nat) (M : ctM) : Option (Int32 × ctM) :=
  fX2_beatsAs_h2 4000 a0 a1 0 M

set_option maxHeartbeats 4000000 in
set_option maxRecDepth 20000 in
theorem ctX2_beatsAs {B : ctB} {n : Nat} (hB : ctOk B kdC lnC n) {a0 : Nat} {a1 : Nat} {M : ctM} {r : Int32 × ctM} (h : fX2_beatsAs a0 a1 M = some r) : ctC B mX2_beatsAs (0, 0, 0) [.ref a0, .ref a1] n M (poI r n) := by
  refine ctC_of (by decide) (Nat.le_of_ble_eq_true rfl) ?_
  show ctV B mX2_beatsAs (0, 0, 0) (poI r n) 0 [some (.ref a0), some (.ref a1), none] [] (0, 0) n M
  unfold fX2_beatsAs at h
  refine ct_iconst (v := 0) (q := 1) dX2_beatsAs_0 (by decide) rfl ?_
  refine ct_istore_2 (q := 2) dX2_beatsAs_1 (by decide) rfl rfl ?_
  exact ct_lessK (vX2_beatsAs_h2 hB  4000 a0 a1 0 M r h) (And.intro rfl (And.intro rfl (And.intro rfl (trivial))))

def fX2_stepFrom_b77 (k5 : Nat → Int32 → Int32 → Int32 → ctM → Option (Int32 × ctM)) (a0 : Nat) (x1 : Int32) (x2 : Int32) (x3 : Int32) (M : ctM) : Option (Int32 × ctM) :=
  k5 a0 x1 x2 (x3 + 1) M

set_option maxHeartbeats 4000000 in
set_option maxRecDepth 20000 in
theorem vX2_stepFrom_b77 {B : ctB} {n : Nat} (hB : ctOk B kdC lnC n) {k5 : Nat → Int32 → Int32 → Int32 → ctM → Option (Int32 × ctM)} (hk5 : ∀ (a0 : Nat) (x1 : Int32) (x2 : Int32) (x3 : Int32) (M : ctM) (r : Int32 × ctM), k5 a0 x1 x2 x3 M = some r → ctV B mX2_stepFrom (1, 0, 0) (poI r n) 5 [some (.ref a0), some (.int x1), some (.int x2), some (.int x3), none] [] (0, 0) n M) : ∀ (a0 : Nat) (x1 : Int32) (x2 : Int32) (x3 : Int32) (M : ctM) (r : Int32 × ctM), fX2_stepFrom_b77 k5 a0 x1 x2 x3 M = some r → ctV B mX2_stepFrom (1, 0, 0) (poI r n) 77 [some (.ref a0), some (.int x1), some (.int x2), some (.int x3), none] [] (0, 0) n M := by
  intro a0 x1 x2 x3 M r h
  unfold fX2_stepFrom_b77 at h
  refine ct_iinc_3 (q := 80) (v := x3 + 1) dX2_stepFrom_77 (by first | rfl | decide) (by decide) rfl rfl ?_
  refine ct_goto (q := 5) dX2_stepFrom_80 (by decide) ?_
  exact ct_lessK (hk5 a0 x1 x2 (x3 + 1) M r h) (And.intro rfl (And.intro rfl (And.intro rfl (And.intro rfl (trivial)))))

def fX2_stepFrom_b49 (k5 : Nat → Int32 → Int32 → Int32 → ctM → Option (Int32 × ctM)) (a0 : Nat) (x1 : Int32) (x2 : Int32) (x3 : Int32) (xs0 : Int32) (M : ctM) : Option (Int32 × ctM) :=
  (gP kdC 2 1 a0 M).bind fun a21 =>
  (aP kdC lnC 11 a21 x3 M).bind fun a22 =>
  (cV kdC 0 a22 (fX0_isLit a22 M)).bind fun r23 =>
  if r23.1 = 0 then
    fX2_stepFrom_b77 k5 a0 x1 x2 x3 r23.2
  else
    if xs0 ≤ 0 then
      fX2_stepFrom_b77 k5 a0 x1 x2 x3 r23.2
    else
      if x2 ≤ xs0 then
        fX2_stepFrom_b77 k5 a0 x1 x2 x3 r23.2
      else
        fX2_stepFrom_b77 k5 a0 x1 xs0 x3 r23.2

set_option maxHeartbeats 4000000 in
set_option maxRecDepth 20000 in
theorem vX2_stepFrom_b49 {B : ctB} {n : Nat} (hB : ctOk B kdC lnC n) {k5 : Nat → Int32 → Int32 → Int32 → ctM → Option (Int32 × ctM)} (hk5 : ∀ (a0 : Nat) (x1 : Int32) (x2 : Int32) (x3 : Int32) (M : ctM) (r : Int32 × ctM), k5 a0 x1 x2 x3 M = some r → ctV B mX2_stepFrom (1, 0, 0) (poI r n) 5 [some (.ref a0), some (.int x1), some (.int x2), some (.int x3), none] [] (0, 0) n M) : ∀ (a0 : Nat) (x1 : Int32) (x2 : Int32) (x3 : Int32) (xs0 : Int32) (M : ctM) (r : Int32 × ctM), fX2_stepFrom_b49 k5 a0 x1 x2 x3 xs0 M = some r → ctV B mX2_stepFrom (1, 0, 0) (poI r n) 49 [some (.ref a0), some (.int x1), some (.int x2), some (.int x3), none] [.int xs0] (0, 0) n M := by
  intro a0 x1 x2 x3 xs0 M r h
  unfold fX2_stepFrom_b49 at h
  refine ct_istore_4 (q := 51) dX2_stepFrom_49 (by decide) rfl rfl ?_
  refine ct_aload_0 (q := 52) dX2_stepFrom_51 rfl ?_
  obtain ⟨a21, ga21, h⟩ := ob h
  refine ct_getP (q := 55) hB dX2_stepFrom_52 fl_RX2_11 rfl ga21 rfl ?_
  refine ct_iload_3 (q := 56) dX2_stepFrom_55 rfl ?_
  obtain ⟨a22, ga22, h⟩ := ob h
  refine ct_aald (q := 57) rfl hB dX2_stepFrom_56 ga22 rfl ?_
  obtain ⟨r23, gr23, h⟩ := ob h
  obtain ⟨er23, gr23⟩ := cV_spec gr23
  refine ct_cVi0 (q := 60) hB dX2_stepFrom_57 lk_RX2_96 (by decide) (ctX0_isLit hB gr23) er23 (by decide) rfl (Nat.le_of_ble_eq_true rfl) rfl ?_
  refine ct_if_eq (q := 63) (tgt := 77) dX2_stepFrom_60 (by decide) rfl (fun z24 => ?_) (fun z24 => ?_)
  · replace h := it_t h z24
    exact ct_lessK (vX2_stepFrom_b77 hB hk5 a0 x1 x2 x3 r23.2 r h) (And.intro rfl (And.intro rfl (And.intro rfl (And.intro rfl (trivial)))))
  · replace h := it_f h z24
    refine ct_iload_4 (q := 65) dX2_stepFrom_63 rfl ?_
    refine ct_if_le (q := 68) (tgt := 77) dX2_stepFrom_65 (by decide) rfl (fun z25 => ?_) (fun z25 => ?_)
    · replace h := it_t h z25
      exact ct_lessK (vX2_stepFrom_b77 hB hk5 a0 x1 x2 x3 r23.2 r h) (And.intro rfl (And.intro rfl (And.intro rfl (And.intro rfl (trivial)))))
    · replace h := it_f h z25
      refine ct_iload_4 (q := 70) dX2_stepFrom_68 rfl ?_
      refine ct_iload_2 (q := 71) dX2_stepFrom_70 rfl ?_
      refine ct_icmp_ge (q := 74) (tgt := 77) dX2_stepFrom_71 (by decide) rfl (fun z26 => ?_) (fun z26 => ?_)
      · replace h := it_t h z26
        exact ct_lessK (vX2_stepFrom_b77 hB hk5 a0 x1 x2 x3 r23.2 r h) (And.intro rfl (And.intro rfl (And.intro rfl (And.intro rfl (trivial)))))
      · replace h := it_f h z26
        refine ct_iload_4 (q := 76) dX2_stepFrom_74 rfl ?_
        refine ct_istore_2 (q := 77) dX2_stepFrom_76 (by decide) rfl rfl ?_
        exact ct_lessK (vX2_stepFrom_b77 hB hk5 a0 x1 xs0 x3 r23.2 r h) (And.intro rfl (And.intro rfl (And.intro rfl (And.intro rfl (trivial)))))

def fX2_stepFrom_h5 : Nat → Nat → Int32 → Int32 → Int32 → ctM → Option (Int32 × ctM)
  | 0, _, _, _, _, _ => none
  | N + 1, a0, x1, x2, x3, M =>
    (gI kdC 2 5 a0 M).bind fun x21 =>
    if x21 ≤ x3 then
      some (x2, M)
    else
      (gP kdC 2 1 a0 M).bind fun a23 =>
      (aP kdC lnC 11 a23 x3 M).bind fun a24 =>
      (gI kdC 0 4 a24 M).bind fun x25 =>
      (gP kdC 2 1 a0 M).bind fun a26 =>
      (aP kdC lnC 11 a26 x1 M).bind fun a27 =>
      (gI kdC 0 4 a27 M).bind fun x28 =>
      if 0 ≤ (x25 - x28) then
        fX2_stepFrom_b49 (fX2_stepFrom_h5 N) a0 x1 x2 x3 (x25 - x28) M
      else
        fX2_stepFrom_b49 (fX2_stepFrom_h5 N) a0 x1 x2 x3 ((x25 - x28) + 120) M

set_option maxHeartbeats 4000000 in
set_option maxRecDepth 20000 in
theorem vX2_stepFrom_h5 {B : ctB} {n : Nat} (hB : ctOk B kdC lnC n) : ∀ (N : Nat) (a0 : Nat) (x1 : Int32) (x2 : Int32) (x3 : Int32) (M : ctM) (r : Int32 × ctM), fX2_stepFrom_h5 N a0 x1 x2 x3 M = some r → ctV B mX2_stepFrom (1, 0, 0) (poI r n) 5 [some (.ref a0), some (.int x1), some (.int x2), some (.int x3), none] [] (0, 0) n M := by
  intro N
  induction N with
  | zero => intro a0 x1 x2 x3 M r h; exact absurd h (by simp [fX2_stepFrom_h5])
  | succ N ih =>
    intro a0 x1 x2 x3 M r h
    rw [fX2_stepFrom_h5] at h
    refine ct_iload_3 (q := 6) dX2_stepFrom_5 rfl ?_
    refine ct_aload_0 (q := 7) dX2_stepFrom_6 rfl ?_
    obtain ⟨x21, gx21, h⟩ := ob h
    refine ct_getI (q := 10) hB dX2_stepFrom_7 fl_RX2_27 rfl gx21 rfl ?_
    refine ct_icmp_ge (q := 13) (tgt := 83) dX2_stepFrom_10 (by decide) rfl (fun z22 => ?_) (fun z22 => ?_)
    · replace h := it_t h z22
      refine ct_iload_2 (q := 84) dX2_stepFrom_83 rfl ?_
      exact ct_iret dX2_stepFrom_84 rfl ⟨Nat.le_refl 0, Nat.le_refl 0⟩ (poI_of h)
    · replace h := it_f h z22
      refine ct_aload_0 (q := 14) dX2_stepFrom_13 rfl ?_
      obtain ⟨a23, ga23, h⟩ := ob h
      refine ct_getP (q := 17) hB dX2_stepFrom_14 fl_RX2_11 rfl ga23 rfl ?_
      refine ct_iload_3 (q := 18) dX2_stepFrom_17 rfl ?_
      obtain ⟨a24, ga24, h⟩ := ob h
      refine ct_aald (q := 19) rfl hB dX2_stepFrom_18 ga24 rfl ?_
      obtain ⟨x25, gx25, h⟩ := ob h
      refine ct_getI (q := 22) hB dX2_stepFrom_19 fl_RX2_68 rfl gx25 rfl ?_
      refine ct_aload_0 (q := 23) dX2_stepFrom_22 rfl ?_
      obtain ⟨a26, ga26, h⟩ := ob h
      refine ct_getP (q := 26) hB dX2_stepFrom_23 fl_RX2_11 rfl ga26 rfl ?_
      refine ct_iload_1 (q := 27) dX2_stepFrom_26 rfl ?_
      obtain ⟨a27, ga27, h⟩ := ob h
      refine ct_aald (q := 28) rfl hB dX2_stepFrom_27 ga27 rfl ?_
      obtain ⟨x28, gx28, h⟩ := ob h
      refine ct_getI (q := 31) hB dX2_stepFrom_28 fl_RX2_68 rfl gx28 rfl ?_
      refine ct_isub (q := 32) dX2_stepFrom_31 rfl ?_
      refine ct_istore_4 (q := 34) dX2_stepFrom_32 (by decide) rfl rfl ?_
      refine ct_iload_4 (q := 36) dX2_stepFrom_34 rfl ?_
      refine ct_if_ge (q := 39) (tgt := 47) dX2_stepFrom_36 (by decide) rfl (fun z29 => ?_) (fun z29 => ?_)
      · replace h := it_t h z29
        refine ct_iload_4 (q := 49) dX2_stepFrom_47 rfl ?_
        exact ct_lessK (vX2_stepFrom_b49 hB ih a0 x1 x2 x3 (x25 - x28) M r h) (And.intro rfl (And.intro rfl (And.intro rfl (And.intro rfl (trivial)))))
      · replace h := it_f h z29
        refine ct_iload_4 (q := 41) dX2_stepFrom_39 rfl ?_
        refine ct_bipush (v := 120) (q := 43) dX2_stepFrom_41 (by decide) rfl ?_
        refine ct_iadd (q := 44) dX2_stepFrom_43 rfl ?_
        refine ct_goto (q := 49) dX2_stepFrom_44 (by decide) ?_
        exact ct_lessK (vX2_stepFrom_b49 hB ih a0 x1 x2 x3 ((x25 - x28) + 120) M r h) (And.intro rfl (And.intro rfl (And.intro rfl (And.intro rfl (trivial)))))

def fX2_stepFrom (a0 : Nat) (x1 : Int32) (M : ctM) : Option (Int32 × ctM) :=
  fX2_stepFrom_h5 4000 a0 x1 120 0 M

set_option maxHeartbeats 4000000 in
set_option maxRecDepth 20000 in
theorem ctX2_stepFrom {B : ctB} {n : Nat} (hB : ctOk B kdC lnC n) {a0 : Nat} {x1 : Int32} {M : ctM} {r : Int32 × ctM} (h : fX2_stepFrom a0 x1 M = some r) : ctC B mX2_stepFrom (1, 0, 0) [.ref a0, .int x1] n M (poI r n) := by
  refine ctC_of (by decide) (Nat.le_of_ble_eq_true rfl) ?_
  show ctV B mX2_stepFrom (1, 0, 0) (poI r n) 0 [some (.ref a0), some (.int x1), none, none, none] [] (0, 0) n M
  unfold fX2_stepFrom at h
  refine ct_bipush (v := 120) (q := 2) dX2_stepFrom_0 (by decide) rfl ?_
  refine ct_istore_2 (q := 3) dX2_stepFrom_2 (by decide) rfl rfl ?_
  refine ct_iconst (v := 0) (q := 4) dX2_stepFrom_3 (by decide) rfl ?_
  refine ct_istore_3 (q := 5) dX2_stepFrom_4 (by decide) rfl rfl ?_
  exact ct_lessK (vX2_stepFrom_h5 hB  4000 a0 x1 120 0 M r h) (And.intro rfl (And.intro rfl (And.intro rfl (And.intro rfl (trivial)))))

def fX2_arc_b34 (k4 : Nat → Int32 → Int32 → ctM → Option (Int32 × ctM)) (a0 : Nat) (x1 : Int32) (x2 : Int32) (M : ctM) : Option (Int32 × ctM) :=
  k4 a0 x1 (x2 + 1) M

set_option maxHeartbeats 4000000 in
set_option maxRecDepth 20000 in
theorem vX2_arc_b34 {B : ctB} {n : Nat} (hB : ctOk B kdC lnC n) {k4 : Nat → Int32 → Int32 → ctM → Option (Int32 × ctM)} (hk4 : ∀ (a0 : Nat) (x1 : Int32) (x2 : Int32) (M : ctM) (r : Int32 × ctM), k4 a0 x1 x2 M = some r → ctV B mX2_arc (2, 0, 0) (poI r n) 4 [some (.ref a0), some (.int x1), some (.int x2)] [] (0, 0) n M) : ∀ (a0 : Nat) (x1 : Int32) (x2 : Int32) (M : ctM) (r : Int32 × ctM), fX2_arc_b34 k4 a0 x1 x2 M = some r → ctV B mX2_arc (2, 0, 0) (poI r n) 34 [some (.ref a0), some (.int x1), some (.int x2)] [] (0, 0) n M := by
  intro a0 x1 x2 M r h
  unfold fX2_arc_b34 at h
  refine ct_iinc_2 (q := 37) (v := x2 + 1) dX2_arc_34 (by first | rfl | decide) (by decide) rfl rfl ?_
  refine ct_goto (q := 4) dX2_arc_37 (by decide) ?_
  exact ct_lessK (hk4 a0 x1 (x2 + 1) M r h) (And.intro rfl (And.intro rfl (And.intro rfl (trivial))))

def fX2_arc_h4 : Nat → Nat → Int32 → Int32 → ctM → Option (Int32 × ctM)
  | 0, _, _, _, _ => none
  | N + 1, a0, x1, x2, M =>
    (gI kdC 2 5 a0 M).bind fun x21 =>
    if x21 ≤ x2 then
      if x1 = 0 then
        some ((-1000000005), M)
      else
        some ((120 - x1), M)
    else
      (gP kdC 2 1 a0 M).bind fun a24 =>
      (aP kdC lnC 11 a24 x2 M).bind fun a25 =>
      (cV kdC 0 a25 (fX0_isLit a25 M)).bind fun r26 =>
      if r26.1 = 0 then
        fX2_arc_b34 (fX2_arc_h4 N) a0 x1 x2 r26.2
      else
        (cV kdC 2 a0 (fX2_stepFrom a0 x2 r26.2)).bind fun r28 =>
        fX2_arc_b34 (fX2_arc_h4 N) a0 (if x1 < r28.1 then r28.1 else x1) x2 r28.2

set_option maxHeartbeats 4000000 in
set_option maxRecDepth 20000 in
theorem vX2_arc_h4 {B : ctB} {n : Nat} (hB : ctOk B kdC lnC n) : ∀ (N : Nat) (a0 : Nat) (x1 : Int32) (x2 : Int32) (M : ctM) (r : Int32 × ctM), fX2_arc_h4 N a0 x1 x2 M = some r → ctV B mX2_arc (2, 0, 0) (poI r n) 4 [some (.ref a0), some (.int x1), some (.int x2)] [] (0, 0) n M := by
  intro N
  induction N with
  | zero => intro a0 x1 x2 M r h; exact absurd h (by simp [fX2_arc_h4])
  | succ N ih =>
    intro a0 x1 x2 M r h
    rw [fX2_arc_h4] at h
    refine ct_iload_2 (q := 5) dX2_arc_4 rfl ?_
    refine ct_aload_0 (q := 6) dX2_arc_5 rfl ?_
    obtain ⟨x21, gx21, h⟩ := ob h
    refine ct_getI (q := 9) hB dX2_arc_6 fl_RX2_27 rfl gx21 rfl ?_
    refine ct_icmp_ge (q := 12) (tgt := 40) dX2_arc_9 (by decide) rfl (fun z22 => ?_) (fun z22 => ?_)
    · replace h := it_t h z22
      refine ct_iload_1 (q := 41) dX2_arc_40 rfl ?_
      refine ct_if_ne (q := 44) (tgt := 49) dX2_arc_41 (by decide) rfl (fun z23 => ?_) (fun z23 => ?_)
      · replace h := it_f h z23
        refine ct_bipush (v := 120) (q := 51) dX2_arc_49 (by decide) rfl ?_
        refine ct_iload_1 (q := 52) dX2_arc_51 rfl ?_
        refine ct_isub (q := 53) dX2_arc_52 rfl ?_
        exact ct_iret dX2_arc_53 rfl ⟨Nat.le_refl 0, Nat.le_refl 0⟩ (poI_of h)
      · replace h := it_t h z23
        refine ct_ldc (q := 46) dX2_arc_44 wd_501 rfl ?_
        refine ct_goto (q := 53) dX2_arc_46 (by decide) ?_
        exact ct_iret dX2_arc_53 rfl ⟨Nat.le_refl 0, Nat.le_refl 0⟩ (poI_of h)
    · replace h := it_f h z22
      refine ct_aload_0 (q := 13) dX2_arc_12 rfl ?_
      obtain ⟨a24, ga24, h⟩ := ob h
      refine ct_getP (q := 16) hB dX2_arc_13 fl_RX2_11 rfl ga24 rfl ?_
      refine ct_iload_2 (q := 17) dX2_arc_16 rfl ?_
      obtain ⟨a25, ga25, h⟩ := ob h
      refine ct_aald (q := 18) rfl hB dX2_arc_17 ga25 rfl ?_
      obtain ⟨r26, gr26, h⟩ := ob h
      obtain ⟨er26, gr26⟩ := cV_spec gr26
      refine ct_cVi0 (q := 21) hB dX2_arc_18 lk_RX2_96 (by decide) (ctX0_isLit hB gr26) er26 (by decide) rfl (Nat.le_of_ble_eq_true rfl) rfl ?_
      refine ct_if_eq (q := 24) (tgt := 34) dX2_arc_21 (by decide) rfl (fun z27 => ?_) (fun z27 => ?_)
      · replace h := it_t h z27
        exact ct_lessK (vX2_arc_b34 hB ih a0 x1 x2 r26.2 r h) (And.intro rfl (And.intro rfl (And.intro rfl (trivial))))
      · replace h := it_f h z27
        refine ct_iload_1 (q := 25) dX2_arc_24 rfl ?_
        refine ct_aload_0 (q := 26) dX2_arc_25 rfl ?_
        refine ct_iload_2 (q := 27) dX2_arc_26 rfl ?_
        obtain ⟨r28, gr28, h⟩ := ob h
        obtain ⟨er28, gr28⟩ := cV_spec gr28
        refine ct_cVi1 (q := 30) hB dX2_arc_27 lk_RX2_147 (by decide) (ctX2_stepFrom hB gr28) er28 (by decide) rfl (Nat.le_of_ble_eq_true rfl) rfl ?_
        refine ct_max (q := 33) dX2_arc_30 ma_RX2_142 (by decide) (Nat.le_of_ble_eq_true rfl) ⟨Nat.le_refl 0, Nat.le_refl 0⟩ rfl ?_
        refine ct_istore_1 (q := 34) dX2_arc_33 (by decide) rfl rfl ?_
        exact ct_lessK (vX2_arc_b34 hB ih a0 (if x1 < r28.1 then r28.1 else x1) x2 r28.2 r h) (And.intro rfl (And.intro rfl (And.intro rfl (trivial))))

def fX2_arc (a0 : Nat) (M : ctM) : Option (Int32 × ctM) :=
  fX2_arc_h4 4000 a0 0 0 M

set_option maxHeartbeats 4000000 in
set_option maxRecDepth 20000 in
theorem ctX2_arc {B : ctB} {n : Nat} (hB : ctOk B kdC lnC n) {a0 : Nat} {M : ctM} {r : Int32 × ctM} (h : fX2_arc a0 M = some r) : ctC B mX2_arc (2, 0, 0) [.ref a0] n M (poI r n) := by
  refine ctC_of (by decide) (Nat.le_of_ble_eq_true rfl) ?_
  show ctV B mX2_arc (2, 0, 0) (poI r n) 0 [some (.ref a0), none, none] [] (0, 0) n M
  unfold fX2_arc at h
  refine ct_iconst (v := 0) (q := 1) dX2_arc_0 (by decide) rfl ?_
  refine ct_istore_1 (q := 2) dX2_arc_1 (by decide) rfl rfl ?_
  refine ct_iconst (v := 0) (q := 3) dX2_arc_2 (by decide) rfl ?_
  refine ct_istore_2 (q := 4) dX2_arc_3 (by decide) rfl rfl ?_
  exact ct_lessK (vX2_arc_h4 hB  4000 a0 0 0 M r h) (And.intro rfl (And.intro rfl (And.intro rfl (trivial))))

def fX2_agrees (a0 : Nat) (x1 : Int32) (M : ctM) : Option (Int32 × ctM) :=
  (cV kdC 2 a0 (fX2_arc a0 M)).bind fun r21 =>
  (fX6_isWithin r21.1 0 x1 r21.2).bind fun r22 =>
  if r22.1 = 0 ∨ r22.1 = 1 then some (r22.1, r22.2) else none

set_option maxHeartbeats 4000000 in
set_option maxRecDepth 20000 in
theorem ctX2_agrees {B : ctB} {n : Nat} (hB : ctOk B kdC lnC n) {a0 : Nat} {x1 : Int32} {M : ctM} {r : Int32 × ctM} (h : fX2_agrees a0 x1 M = some r) : ctC B mX2_agrees (3, 0, 0) [.ref a0, .int x1] n M (poI r n) := by
  refine ctC_of (by decide) (Nat.le_of_ble_eq_true rfl) ?_
  show ctV B mX2_agrees (3, 0, 0) (poI r n) 0 [some (.ref a0), some (.int x1)] [] (0, 0) n M
  unfold fX2_agrees at h
  refine ct_aload_0 (q := 1) dX2_agrees_0 rfl ?_
  obtain ⟨r21, gr21, h⟩ := ob h
  obtain ⟨er21, gr21⟩ := cV_spec gr21
  refine ct_cVi0 (q := 4) hB dX2_agrees_1 lk_RX2_151 (by decide) (ctX2_arc hB gr21) er21 (by decide) rfl (Nat.le_of_ble_eq_true rfl) rfl ?_
  refine ct_iconst (v := 0) (q := 5) dX2_agrees_4 (by decide) rfl ?_
  refine ct_iload_1 (q := 6) dX2_agrees_5 rfl ?_
  obtain ⟨r22, gr22, h⟩ := ob h
  refine ct_cSi3 (q := 9) dX2_agrees_6 lk_RX2_72 (by decide) (ctX6_isWithin hB gr22) (Nat.le_of_ble_eq_true rfl) rfl ?_
  by_cases z23 : r22.1 = 0 ∨ r22.1 = 1
  · exact ct_zret dX2_agrees_9 rfl z23 ⟨Nat.le_refl 0, Nat.le_refl 0⟩ (poI_of (it_t h z23))
  · exact absurd (it_f h z23) (by simp)

def fX2_isFirstOfPhase_b42 (k2 : Nat → Int32 → Int32 → ctM → Option (Int32 × ctM)) (a0 : Nat) (x1 : Int32) (x2 : Int32) (M : ctM) : Option (Int32 × ctM) :=
  k2 a0 x1 (x2 + 1) M

set_option maxHeartbeats 4000000 in
set_option maxRecDepth 20000 in
theorem vX2_isFirstOfPhase_b42 {B : ctB} {n : Nat} (hB : ctOk B kdC lnC n) {k2 : Nat → Int32 → Int32 → ctM → Option (Int32 × ctM)} (hk2 : ∀ (a0 : Nat) (x1 : Int32) (x2 : Int32) (M : ctM) (r : Int32 × ctM), k2 a0 x1 x2 M = some r → ctV B mX2_isFirstOfPhase (1, 0, 0) (poI r n) 2 [some (.ref a0), some (.int x1), some (.int x2)] [] (0, 0) n M) : ∀ (a0 : Nat) (x1 : Int32) (x2 : Int32) (M : ctM) (r : Int32 × ctM), fX2_isFirstOfPhase_b42 k2 a0 x1 x2 M = some r → ctV B mX2_isFirstOfPhase (1, 0, 0) (poI r n) 42 [some (.ref a0), some (.int x1), some (.int x2)] [] (0, 0) n M := by
  intro a0 x1 x2 M r h
  unfold fX2_isFirstOfPhase_b42 at h
  refine ct_iinc_2 (q := 45) (v := x2 + 1) dX2_isFirstOfPhase_42 (by first | rfl | decide) (by decide) rfl rfl ?_
  refine ct_goto (q := 2) dX2_isFirstOfPhase_45 (by decide) ?_
  exact ct_lessK (hk2 a0 x1 (x2 + 1) M r h) (And.intro rfl (And.intro rfl (And.intro rfl (trivial))))

def fX2_isFirstOfPhase_h2 : Nat → Nat → Int32 → Int32 → ctM → Option (Int32 × ctM)
  | 0, _, _, _, _ => none
  | N + 1, a0, x1, x2, M =>
    if x1 ≤ x2 then
      some (1, M)
    else
      (gP kdC 2 1 a0 M).bind fun a22 =>
      (aP kdC lnC 11 a22 x2 M).bind fun a23 =>
      (cV kdC 0 a23 (fX0_isLit a23 M)).bind fun r24 =>
      if r24.1 = 0 then
        fX2_isFirstOfPhase_b42 (fX2_isFirstOfPhase_h2 N) a0 x1 x2 r24.2
      else
        (gP kdC 2 1 a0 r24.2).bind fun a26 =>
        (aP kdC lnC 11 a26 x2 r24.2).bind fun a27 =>
        (gI kdC 0 4 a27 r24.2).bind fun x28 =>
        (gP kdC 2 1 a0 r24.2).bind fun a29 =>
        (aP kdC lnC 11 a29 x1 r24.2).bind fun a30 =>
        (gI kdC 0 4 a30 r24.2).bind fun x31 =>
        if x28 = x31 then
          some (0, r24.2)
        else
          fX2_isFirstOfPhase_b42 (fX2_isFirstOfPhase_h2 N) a0 x1 x2 r24.2

set_option maxHeartbeats 4000000 in
set_option maxRecDepth 20000 in
theorem vX2_isFirstOfPhase_h2 {B : ctB} {n : Nat} (hB : ctOk B kdC lnC n) : ∀ (N : Nat) (a0 : Nat) (x1 : Int32) (x2 : Int32) (M : ctM) (r : Int32 × ctM), fX2_isFirstOfPhase_h2 N a0 x1 x2 M = some r → ctV B mX2_isFirstOfPhase (1, 0, 0) (poI r n) 2 [some (.ref a0), some (.int x1), some (.int x2)] [] (0, 0) n M := by
  intro N
  induction N with
  | zero => intro a0 x1 x2 M r h; exact absurd h (by simp [fX2_isFirstOfPhase_h2])
  | succ N ih =>
    intro a0 x1 x2 M r h
    rw [fX2_isFirstOfPhase_h2] at h
    refine ct_iload_2 (q := 3) dX2_isFirstOfPhase_2 rfl ?_
    refine ct_iload_1 (q := 4) dX2_isFirstOfPhase_3 rfl ?_
    refine ct_icmp_ge (q := 7) (tgt := 48) dX2_isFirstOfPhase_4 (by decide) rfl (fun z21 => ?_) (fun z21 => ?_)
    · replace h := it_t h z21
      refine ct_iconst (v := 1) (q := 49) dX2_isFirstOfPhase_48 (by decide) rfl ?_
      exact ct_zret dX2_isFirstOfPhase_49 rfl (by decide) ⟨Nat.le_refl 0, Nat.le_refl 0⟩ (poI_of h)
    · replace h := it_f h z21
      refine ct_aload_0 (q := 8) dX2_isFirstOfPhase_7 rfl ?_
      obtain ⟨a22, ga22, h⟩ := ob h
      refine ct_getP (q := 11) hB dX2_isFirstOfPhase_8 fl_RX2_11 rfl ga22 rfl ?_
      refine ct_iload_2 (q := 12) dX2_isFirstOfPhase_11 rfl ?_
      obtain ⟨a23, ga23, h⟩ := ob h
      refine ct_aald (q := 13) rfl hB dX2_isFirstOfPhase_12 ga23 rfl ?_
      obtain ⟨r24, gr24, h⟩ := ob h
      obtain ⟨er24, gr24⟩ := cV_spec gr24
      refine ct_cVi0 (q := 16) hB dX2_isFirstOfPhase_13 lk_RX2_96 (by decide) (ctX0_isLit hB gr24) er24 (by decide) rfl (Nat.le_of_ble_eq_true rfl) rfl ?_
      refine ct_if_eq (q := 19) (tgt := 42) dX2_isFirstOfPhase_16 (by decide) rfl (fun z25 => ?_) (fun z25 => ?_)
      · replace h := it_t h z25
        exact ct_lessK (vX2_isFirstOfPhase_b42 hB ih a0 x1 x2 r24.2 r h) (And.intro rfl (And.intro rfl (And.intro rfl (trivial))))
      · replace h := it_f h z25
        refine ct_aload_0 (q := 20) dX2_isFirstOfPhase_19 rfl ?_
        obtain ⟨a26, ga26, h⟩ := ob h
        refine ct_getP (q := 23) hB dX2_isFirstOfPhase_20 fl_RX2_11 rfl ga26 rfl ?_
        refine ct_iload_2 (q := 24) dX2_isFirstOfPhase_23 rfl ?_
        obtain ⟨a27, ga27, h⟩ := ob h
        refine ct_aald (q := 25) rfl hB dX2_isFirstOfPhase_24 ga27 rfl ?_
        obtain ⟨x28, gx28, h⟩ := ob h
        refine ct_getI (q := 28) hB dX2_isFirstOfPhase_25 fl_RX2_68 rfl gx28 rfl ?_
        refine ct_aload_0 (q := 29) dX2_isFirstOfPhase_28 rfl ?_
        obtain ⟨a29, ga29, h⟩ := ob h
        refine ct_getP (q := 32) hB dX2_isFirstOfPhase_29 fl_RX2_11 rfl ga29 rfl ?_
        refine ct_iload_1 (q := 33) dX2_isFirstOfPhase_32 rfl ?_
        obtain ⟨a30, ga30, h⟩ := ob h
        refine ct_aald (q := 34) rfl hB dX2_isFirstOfPhase_33 ga30 rfl ?_
        obtain ⟨x31, gx31, h⟩ := ob h
        refine ct_getI (q := 37) hB dX2_isFirstOfPhase_34 fl_RX2_68 rfl gx31 rfl ?_
        refine ct_icmp_ne (q := 40) (tgt := 42) dX2_isFirstOfPhase_37 (by decide) rfl (fun z32 => ?_) (fun z32 => ?_)
        · replace h := it_f h z32
          exact ct_lessK (vX2_isFirstOfPhase_b42 hB ih a0 x1 x2 r24.2 r h) (And.intro rfl (And.intro rfl (And.intro rfl (trivial))))
        · replace h := it_t h z32
          refine ct_iconst (v := 0) (q := 41) dX2_isFirstOfPhase_40 (by decide) rfl ?_
          exact ct_zret dX2_isFirstOfPhase_41 rfl (by decide) ⟨Nat.le_refl 0, Nat.le_refl 0⟩ (poI_of h)

def fX2_isFirstOfPhase (a0 : Nat) (x1 : Int32) (M : ctM) : Option (Int32 × ctM) :=
  fX2_isFirstOfPhase_h2 4000 a0 x1 0 M

set_option maxHeartbeats 4000000 in
set_option maxRecDepth 20000 in
theorem ctX2_isFirstOfPhase {B : ctB} {n : Nat} (hB : ctOk B kdC lnC n) {a0 : Nat} {x1 : Int32} {M : ctM} {r : Int32 × ctM} (h : fX2_isFirstOfPhase a0 x1 M = some r) : ctC B mX2_isFirstOfPhase (1, 0, 0) [.ref a0, .int x1] n M (poI r n) := by
  refine ctC_of (by decide) (Nat.le_of_ble_eq_true rfl) ?_
  show ctV B mX2_isFirstOfPhase (1, 0, 0) (poI r n) 0 [some (.ref a0), some (.int x1), none] [] (0, 0) n M
  unfold fX2_isFirstOfPhase at h
  refine ct_iconst (v := 0) (q := 1) dX2_isFirstOfPhase_0 (by decide) rfl ?_
  refine ct_istore_2 (q := 2) dX2_isFirstOfPhase_1 (by decide) rfl rfl ?_
  exact ct_lessK (vX2_isFirstOfPhase_h2 hB  4000 a0 x1 0 M r h) (And.intro rfl (And.intro rfl (And.intro rfl (trivial))))

def fX2_gapsAbove_b47 (k4 : Nat → Int32 → Int32 → Int32 → ctM → Option (Int32 × ctM)) (a0 : Nat) (x1 : Int32) (x3 : Int32) (xs0 : Int32) (xs1 : Int32) (M : ctM) : Option (Int32 × ctM) :=
  k4 a0 x1 (xs0 + xs1) (x3 + 1) M

set_option maxHeartbeats 4000000 in
set_option maxRecDepth 20000 in
theorem vX2_gapsAbove_b47 {B : ctB} {n : Nat} (hB : ctOk B kdC lnC n) {k4 : Nat → Int32 → Int32 → Int32 → ctM → Option (Int32 × ctM)} (hk4 : ∀ (a0 : Nat) (x1 : Int32) (x2 : Int32) (x3 : Int32) (M : ctM) (r : Int32 × ctM), k4 a0 x1 x2 x3 M = some r → ctV B mX2_gapsAbove (2, 0, 0) (poI r n) 4 [some (.ref a0), some (.int x1), some (.int x2), some (.int x3)] [] (0, 0) n M) : ∀ (a0 : Nat) (x1 : Int32) (x3 : Int32) (xs0 : Int32) (xs1 : Int32) (M : ctM) (r : Int32 × ctM), fX2_gapsAbove_b47 k4 a0 x1 x3 xs0 xs1 M = some r → ctV B mX2_gapsAbove (2, 0, 0) (poI r n) 47 [some (.ref a0), some (.int x1), none, some (.int x3)] [.int xs1, .int xs0] (0, 0) n M := by
  intro a0 x1 x3 xs0 xs1 M r h
  unfold fX2_gapsAbove_b47 at h
  refine ct_iadd (q := 48) dX2_gapsAbove_47 rfl ?_
  refine ct_istore_2 (q := 49) dX2_gapsAbove_48 (by decide) rfl rfl ?_
  refine ct_iinc_3 (q := 52) (v := x3 + 1) dX2_gapsAbove_49 (by first | rfl | decide) (by decide) rfl rfl ?_
  refine ct_goto (q := 4) dX2_gapsAbove_52 (by decide) ?_
  exact ct_lessK (hk4 a0 x1 (xs0 + xs1) (x3 + 1) M r h) (And.intro rfl (And.intro rfl (And.intro rfl (And.intro rfl (trivial)))))

def fX2_gapsAbove_b46 (k4 : Nat → Int32 → Int32 → Int32 → ctM → Option (Int32 × ctM)) (a0 : Nat) (x1 : Int32) (x3 : Int32) (xs0 : Int32) (M : ctM) : Option (Int32 × ctM) :=
  fX2_gapsAbove_b47 k4 a0 x1 x3 xs0 0 M

set_option maxHeartbeats 4000000 in
set_option maxRecDepth 20000 in
theorem vX2_gapsAbove_b46 {B : ctB} {n : Nat} (hB : ctOk B kdC lnC n) {k4 : Nat → Int32 → Int32 → Int32 → ctM → Option (Int32 × ctM)} (hk4 : ∀ (a0 : Nat) (x1 : Int32) (x2 : Int32) (x3 : Int32) (M : ctM) (r : Int32 × ctM), k4 a0 x1 x2 x3 M = some r → ctV B mX2_gapsAbove (2, 0, 0) (poI r n) 4 [some (.ref a0), some (.int x1), some (.int x2), some (.int x3)] [] (0, 0) n M) : ∀ (a0 : Nat) (x1 : Int32) (x3 : Int32) (xs0 : Int32) (M : ctM) (r : Int32 × ctM), fX2_gapsAbove_b46 k4 a0 x1 x3 xs0 M = some r → ctV B mX2_gapsAbove (2, 0, 0) (poI r n) 46 [some (.ref a0), some (.int x1), none, some (.int x3)] [.int xs0] (0, 0) n M := by
  intro a0 x1 x3 xs0 M r h
  unfold fX2_gapsAbove_b46 at h
  refine ct_iconst (v := 0) (q := 47) dX2_gapsAbove_46 (by decide) rfl ?_
  exact ct_lessK (vX2_gapsAbove_b47 hB hk4 a0 x1 x3 xs0 0 M r h) (And.intro rfl (And.intro rfl (And.intro rfl (trivial))))

def fX2_gapsAbove_h4 : Nat → Nat → Int32 → Int32 → Int32 → ctM → Option (Int32 × ctM)
  | 0, _, _, _, _, _ => none
  | N + 1, a0, x1, x2, x3, M =>
    (gI kdC 2 5 a0 M).bind fun x21 =>
    if x21 ≤ x3 then
      if x2 = 0 then
        (cV kdC 2 a0 (fX2_litMany a0 M)).bind fun r24 =>
        if r24.1 ≤ 0 then
          some (x2, r24.2)
        else
          some (1, r24.2)
      else
        some (x2, M)
    else
      (gP kdC 2 1 a0 M).bind fun a26 =>
      (aP kdC lnC 11 a26 x3 M).bind fun a27 =>
      (cV kdC 0 a27 (fX0_isLit a27 M)).bind fun r28 =>
      if r28.1 = 0 then
        fX2_gapsAbove_b46 (fX2_gapsAbove_h4 N) a0 x1 x3 x2 r28.2
      else
        (cV kdC 2 a0 (fX2_isFirstOfPhase a0 x3 r28.2)).bind fun r30 =>
        if r30.1 = 0 then
          fX2_gapsAbove_b46 (fX2_gapsAbove_h4 N) a0 x1 x3 x2 r30.2
        else
          (cV kdC 2 a0 (fX2_stepFrom a0 x3 r30.2)).bind fun r32 =>
          if r32.1 ≤ x1 then
            fX2_gapsAbove_b46 (fX2_gapsAbove_h4 N) a0 x1 x3 x2 r32.2
          else
            fX2_gapsAbove_b47 (fX2_gapsAbove_h4 N) a0 x1 x3 x2 1 r32.2

set_option maxHeartbeats 4000000 in
set_option maxRecDepth 20000 in
theorem vX2_gapsAbove_h4 {B : ctB} {n : Nat} (hB : ctOk B kdC lnC n) : ∀ (N : Nat) (a0 : Nat) (x1 : Int32) (x2 : Int32) (x3 : Int32) (M : ctM) (r : Int32 × ctM), fX2_gapsAbove_h4 N a0 x1 x2 x3 M = some r → ctV B mX2_gapsAbove (2, 0, 0) (poI r n) 4 [some (.ref a0), some (.int x1), some (.int x2), some (.int x3)] [] (0, 0) n M := by
  intro N
  induction N with
  | zero => intro a0 x1 x2 x3 M r h; exact absurd h (by simp [fX2_gapsAbove_h4])
  | succ N ih =>
    intro a0 x1 x2 x3 M r h
    rw [fX2_gapsAbove_h4] at h
    refine ct_iload_3 (q := 5) dX2_gapsAbove_4 rfl ?_
    refine ct_aload_0 (q := 6) dX2_gapsAbove_5 rfl ?_
    obtain ⟨x21, gx21, h⟩ := ob h
    refine ct_getI (q := 9) hB dX2_gapsAbove_6 fl_RX2_27 rfl gx21 rfl ?_
    refine ct_icmp_ge (q := 12) (tgt := 55) dX2_gapsAbove_9 (by decide) rfl (fun z22 => ?_) (fun z22 => ?_)
    · replace h := it_t h z22
      refine ct_iload_2 (q := 56) dX2_gapsAbove_55 rfl ?_
      refine ct_if_ne (q := 59) (tgt := 70) dX2_gapsAbove_56 (by decide) rfl (fun z23 => ?_) (fun z23 => ?_)
      · replace h := it_f h z23
        refine ct_iload_2 (q := 71) dX2_gapsAbove_70 rfl ?_
        exact ct_iret dX2_gapsAbove_71 rfl ⟨Nat.le_refl 0, Nat.le_refl 0⟩ (poI_of h)
      · replace h := it_t h z23
        refine ct_aload_0 (q := 60) dX2_gapsAbove_59 rfl ?_
        obtain ⟨r24, gr24, h⟩ := ob h
        obtain ⟨er24, gr24⟩ := cV_spec gr24
        refine ct_cVi0 (q := 63) hB dX2_gapsAbove_60 lk_RX2_157 (by decide) (ctX2_litMany hB gr24) er24 (by decide) rfl (Nat.le_of_ble_eq_true rfl) rfl ?_
        refine ct_if_le (q := 66) (tgt := 70) dX2_gapsAbove_63 (by decide) rfl (fun z25 => ?_) (fun z25 => ?_)
        · replace h := it_t h z25
          refine ct_iload_2 (q := 71) dX2_gapsAbove_70 rfl ?_
          exact ct_iret dX2_gapsAbove_71 rfl ⟨Nat.le_refl 0, Nat.le_refl 0⟩ (poI_of h)
        · replace h := it_f h z25
          refine ct_iconst (v := 1) (q := 67) dX2_gapsAbove_66 (by decide) rfl ?_
          refine ct_goto (q := 71) dX2_gapsAbove_67 (by decide) ?_
          exact ct_iret dX2_gapsAbove_71 rfl ⟨Nat.le_refl 0, Nat.le_refl 0⟩ (poI_of h)
    · replace h := it_f h z22
      refine ct_iload_2 (q := 13) dX2_gapsAbove_12 rfl ?_
      refine ct_aload_0 (q := 14) dX2_gapsAbove_13 rfl ?_
      obtain ⟨a26, ga26, h⟩ := ob h
      refine ct_getP (q := 17) hB dX2_gapsAbove_14 fl_RX2_11 rfl ga26 rfl ?_
      refine ct_iload_3 (q := 18) dX2_gapsAbove_17 rfl ?_
      obtain ⟨a27, ga27, h⟩ := ob h
      refine ct_aald (q := 19) rfl hB dX2_gapsAbove_18 ga27 rfl ?_
      obtain ⟨r28, gr28, h⟩ := ob h
      obtain ⟨er28, gr28⟩ := cV_spec gr28
      refine ct_cVi0 (q := 22) hB dX2_gapsAbove_19 lk_RX2_96 (by decide) (ctX0_isLit hB gr28) er28 (by decide) rfl (Nat.le_of_ble_eq_true rfl) rfl ?_
      refine ct_if_eq (q := 25) (tgt := 46) dX2_gapsAbove_22 (by decide) rfl (fun z29 => ?_) (fun z29 => ?_)
      · replace h := it_t h z29
        exact ct_lessK (vX2_gapsAbove_b46 hB ih a0 x1 x3 x2 r28.2 r h) (And.intro rfl (And.intro rfl (And.intro rfl (trivial))))
      · replace h := it_f h z29
        refine ct_aload_0 (q := 26) dX2_gapsAbove_25 rfl ?_
        refine ct_iload_3 (q := 27) dX2_gapsAbove_26 rfl ?_
        obtain ⟨r30, gr30, h⟩ := ob h
        obtain ⟨er30, gr30⟩ := cV_spec gr30
        refine ct_cVi1 (q := 30) hB dX2_gapsAbove_27 lk_RX2_154 (by decide) (ctX2_isFirstOfPhase hB gr30) er30 (by decide) rfl (Nat.le_of_ble_eq_true rfl) rfl ?_
        refine ct_if_eq (q := 33) (tgt := 46) dX2_gapsAbove_30 (by decide) rfl (fun z31 => ?_) (fun z31 => ?_)
        · replace h := it_t h z31
          exact ct_lessK (vX2_gapsAbove_b46 hB ih a0 x1 x3 x2 r30.2 r h) (And.intro rfl (And.intro rfl (And.intro rfl (trivial))))
        · replace h := it_f h z31
          refine ct_aload_0 (q := 34) dX2_gapsAbove_33 rfl ?_
          refine ct_iload_3 (q := 35) dX2_gapsAbove_34 rfl ?_
          obtain ⟨r32, gr32, h⟩ := ob h
          obtain ⟨er32, gr32⟩ := cV_spec gr32
          refine ct_cVi1 (q := 38) hB dX2_gapsAbove_35 lk_RX2_147 (by decide) (ctX2_stepFrom hB gr32) er32 (by decide) rfl (Nat.le_of_ble_eq_true rfl) rfl ?_
          refine ct_iload_1 (q := 39) dX2_gapsAbove_38 rfl ?_
          refine ct_icmp_le (q := 42) (tgt := 46) dX2_gapsAbove_39 (by decide) rfl (fun z33 => ?_) (fun z33 => ?_)
          · replace h := it_t h z33
            exact ct_lessK (vX2_gapsAbove_b46 hB ih a0 x1 x3 x2 r32.2 r h) (And.intro rfl (And.intro rfl (And.intro rfl (trivial))))
          · replace h := it_f h z33
            refine ct_iconst (v := 1) (q := 43) dX2_gapsAbove_42 (by decide) rfl ?_
            refine ct_goto (q := 47) dX2_gapsAbove_43 (by decide) ?_
            exact ct_lessK (vX2_gapsAbove_b47 hB ih a0 x1 x3 x2 1 r32.2 r h) (And.intro rfl (And.intro rfl (And.intro rfl (trivial))))

def fX2_gapsAbove (a0 : Nat) (x1 : Int32) (M : ctM) : Option (Int32 × ctM) :=
  fX2_gapsAbove_h4 4000 a0 x1 0 0 M

set_option maxHeartbeats 4000000 in
set_option maxRecDepth 20000 in
theorem ctX2_gapsAbove {B : ctB} {n : Nat} (hB : ctOk B kdC lnC n) {a0 : Nat} {x1 : Int32} {M : ctM} {r : Int32 × ctM} (h : fX2_gapsAbove a0 x1 M = some r) : ctC B mX2_gapsAbove (2, 0, 0) [.ref a0, .int x1] n M (poI r n) := by
  refine ctC_of (by decide) (Nat.le_of_ble_eq_true rfl) ?_
  show ctV B mX2_gapsAbove (2, 0, 0) (poI r n) 0 [some (.ref a0), some (.int x1), none, none] [] (0, 0) n M
  unfold fX2_gapsAbove at h
  refine ct_iconst (v := 0) (q := 1) dX2_gapsAbove_0 (by decide) rfl ?_
  refine ct_istore_2 (q := 2) dX2_gapsAbove_1 (by decide) rfl rfl ?_
  refine ct_iconst (v := 0) (q := 3) dX2_gapsAbove_2 (by decide) rfl ?_
  refine ct_istore_3 (q := 4) dX2_gapsAbove_3 (by decide) rfl rfl ?_
  exact ct_lessK (vX2_gapsAbove_h4 hB  4000 a0 x1 0 0 M r h) (And.intro rfl (And.intro rfl (And.intro rfl (And.intro rfl (trivial)))))

