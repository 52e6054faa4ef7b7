def ctBn (B : ctB) (kd ln : Nat → Nat) (tot : Nat) : Prop := bF B = true ∧ bKd B = kd ∧ bLn B = ln ∧ bHi B = bLo B + tot ∧ tot < 1000 ∧ ∀ a, kd a < 15 → a < tot
def kdr (kd : Nat → Nat) (m a : Nat) : Nat := if a < m then kd a else 15
theorem ctOk_r {B : ctB} {kd ln : Nat → Nat} {tot : Nat} (h : ctBn B kd ln tot) (m : Nat) : ctOk B (kdr kd m) ln m := by
  intro a ha
  unfold kdr at ha ⊢
  by_cases hm : a < m
  · rw [if_pos hm]
    exact ⟨by rw [h.2.1], by rw [h.2.2.1], hm⟩
  · rw [if_neg hm] at ha
    exact absurd ha (by decide)
def nO (kd : Nat → Nat) (c n : Nat) (M : ctM) : Option ctM := if kd n = c then some (ctZ M n) else none
def nA (kd ln : Nat → Nat) (t n : Nat) (i : Int32) (M : ctM) : Option ctM := if kd n = t ∧ ln n = i.toNatClampNeg then some (ctZ M n) else none
def poN (r : ctM) (m : Nat) : ctPost := fun v n' M' => v = none ∧ n' = m ∧ M' = r
theorem poN_of {M : ctM} {r : ctM} {n : Nat} (h : some M = some r) : poN r n none n M := by cases h; exact ⟨rfl, rfl, rfl⟩
section
variable {B : ctB} {μ μ' : Mi} {R : Nat × Nat × Nat} {post : ctPost} {pc q : Nat} {L : List (Option Value)} {st rest : List Value} {m m' c1 s1 c2 s2 tot : Nat} {M M' : ctM} {kd ln : Nat → Nat}
theorem ct_newX {idx c : Nat} (hN : ctBn B kd ln tot) (hd : decode μ.2.1 pc = .ok (.new idx, 3)) (hl : ctNwL μ.1.cls idx c) (h1 : c < 8) (hx : nO kd c m M = some M') (e1 : c1 + 1 = c2) (e2 : s1 + ctN c = s2) (hcs : c2 ≤ R.2.1 ∧ s2 ≤ R.2.2) (hm : m + 1 = m') (hp : pc + 3 = q) (K : ctV B μ R post q L (.ref m :: st) (c2, s2) m' M') : ctV B μ R post pc L st (c1, s1) m M := by
  subst e1; subst e2; subst hm
  unfold nO at hx
  split at hx
  · rename_i g
    cases hx
    have hlt := hN.2.2.2.2.2 m (by omega)
    exact ct_new hN.1 hd hl h1 (by rw [hN.2.1]; exact g) (by rw [hN.2.2.2.1]; omega) (Nat.lt_trans hlt hN.2.2.2.2.1) hcs hp K
  · cases hx
theorem ct_newaX {t : Nat} {at' : ArrayType} {i : Int32} (hat : (t = 8 ∧ at' = .byte) ∨ (t = 9 ∧ at' = .int) ∨ (t = 10 ∧ at' = .boolean)) (hN : ctBn B kd ln tot) (hd : decode μ.2.1 pc = .ok (.newarray at', 2)) (hl : Cond.arrayClass (newarray.typeOf at') ∈ ctG) (hi : ¬ i < 0) (hi2 : i.toNatClampNeg ≤ 4000) (hx : nA kd ln t m i M = some M') (e1 : c1 + 1 = c2) (e2 : s1 + i.toNatClampNeg = s2) (hcs : c2 ≤ R.2.1 ∧ s2 ≤ R.2.2) (hm : m + 1 = m') (hp : pc + 2 = q) (K : ctV B μ R post q L (.ref m :: st) (c2, s2) m' M') : ctV B μ R post pc L (.int i :: st) (c1, s1) m M := by
  subst e1; subst e2; subst hm
  unfold nA at hx
  split at hx
  · rename_i g
    cases hx
    have hlt := hN.2.2.2.2.2 m (by rcases hat with ⟨h, -⟩ | ⟨h, -⟩ | ⟨h, -⟩ <;> omega)
    exact ct_newarr hat hN.1 hd hl (by rw [hN.2.1]; exact g.1) (by rw [hN.2.2.1]; exact g.2) hi hi2 (by rw [hN.2.2.2.1]; omega) (Nat.lt_trans hlt hN.2.2.2.2.1) hcs hp K
  · cases hx
theorem ct_anewX {t idx : Nat} {i : Int32} (ht : decide (11 ≤ t) && decide (t < 15) = true) (hN : ctBn B kd ln tot) (hd : decode μ.2.1 pc = .ok (.anewarray idx, 3)) (hl : Cond.classLink μ.1.cls idx (ctEl t) ∈ ctG) (hi : ¬ i < 0) (hi2 : i.toNatClampNeg ≤ 4000) (hx : nA kd ln t m i M = some M') (e1 : c1 + 1 = c2) (e2 : s1 + i.toNatClampNeg = s2) (hcs : c2 ≤ R.2.1 ∧ s2 ≤ R.2.2) (hm : m + 1 = m') (hp : pc + 3 = q) (K : ctV B μ R post q L (.ref m :: st) (c2, s2) m' M') : ctV B μ R post pc L (.int i :: st) (c1, s1) m M := by
  subst e1; subst e2; subst hm
  unfold nA at hx
  split at hx
  · rename_i g
    cases hx
    have ht2 := ht
    simp only [Bool.and_eq_true, decide_eq_true_eq] at ht2
    have hlt := hN.2.2.2.2.2 m (by omega)
    exact ct_anew ht hN.1 hd hl (by rw [hN.2.1]; exact g.1) (by rw [hN.2.2.1]; exact g.2) hi hi2 (by rw [hN.2.2.2.1]; omega) (Nat.lt_trans hlt hN.2.2.2.2.1) hcs hp K
  · cases hx
theorem ct_cI0 {idx a lv lv' mc ms mc' ms' k' : Nat} {r : ctM} (hd : decode μ.2.1 pc = .ok (.invokespecial idx, 3)) (hl : ctLkI μ.1.cls idx μ' 0 ∨ ∃ host, ctLkIN μ.1.cls idx μ' 0 host) (hR : lv' + 1 ≤ lv) (hC : ctC B μ' (lv', mc', ms') [.ref a] m M (poN r k')) (hrest : (rest.map fun v => v.category).sum ≤ 8) (e1 : c1 + mc' = c2) (e2 : s1 + ms' = s2) (hcs : c2 ≤ mc ∧ s2 ≤ ms) (hm : k' = m') (hp : pc + 3 = q) (K : ctV B μ (lv, mc, ms) post q L rest (c2, s2) m' r) : ctV B μ (lv, mc, ms) post pc L (.ref a :: rest) (c1, s1) m M := by
  subst hp; subst e1; subst e2; subst hm
  refine ct_callI (R' := (lv', mc', ms')) (As := []) (rest := rest) hd hl rfl hR hC hrest hcs rfl (fun v n' M' hq => ?_)
  obtain ⟨rfl, rfl, rfl⟩ := hq
  exact K
theorem ct_cI1 {idx a lv lv' mc ms mc' ms' k' : Nat} {b1 : Value} {r : ctM} (hd : decode μ.2.1 pc = .ok (.invokespecial idx, 3)) (hl : ctLkI μ.1.cls idx μ' 1 ∨ ∃ host, ctLkIN μ.1.cls idx μ' 1 host) (hR : lv' + 1 ≤ lv) (hC : ctC B μ' (lv', mc', ms') [.ref a, b1] m M (poN r k')) (hrest : (rest.map fun v => v.category).sum ≤ 8) (e1 : c1 + mc' = c2) (e2 : s1 + ms' = s2) (hcs : c2 ≤ mc ∧ s2 ≤ ms) (hm : k' = m') (hp : pc + 3 = q) (K : ctV B μ (lv, mc, ms) post q L rest (c2, s2) m' r) : ctV B μ (lv, mc, ms) post pc L (b1 :: .ref a :: rest) (c1, s1) m M := by
  subst hp; subst e1; subst e2; subst hm
  refine ct_callI (R' := (lv', mc', ms')) (As := [b1]) (rest := rest) hd hl rfl hR hC hrest hcs rfl (fun v n' M' hq => ?_)
  obtain ⟨rfl, rfl, rfl⟩ := hq
  exact K
end

theorem nl_RX6_13 : Cond.classLink RX6 13 RX3 ∈ ctG := ctG_in 68 (by decide +kernel) (by decide +kernel)
theorem nl_RX6_19 : Cond.classLink RX6 19 RX4 ∈ ctG := ctG_in 70 (by decide +kernel) (by decide +kernel)
theorem nl_RX6_33 : Cond.classLink RX6 33 RX5 ∈ ctG := ctG_in 72 (by decide +kernel) (by decide +kernel)
theorem nl_RX6_40 : Cond.classLink RX6 40 RX1 ∈ ctG := ctG_in 135 (by decide +kernel) (by decide +kernel)
theorem nl_RX6_47 : Cond.classLink RX6 47 RX2 ∈ ctG := ctG_in 138 (by decide +kernel) (by decide +kernel)
theorem nl_RX2_9 : Cond.classLink RX2 9 RX0 ∈ ctG := ctG_in 144 (by decide +kernel) (by decide +kernel)
theorem nl_RX4_15 : Cond.classLink RX4 15 RX0 ∈ ctG := ctG_in 250 (by decide +kernel) (by decide +kernel)
theorem nl_RX4_22 : Cond.classLink RX4 22 RX3 ∈ ctG := ctG_in 252 (by decide +kernel) (by decide +kernel)
theorem nl_RX5_31 : Cond.classLink RX5 31 RX1 ∈ ctG := ctG_in 78 (by decide +kernel) (by decide +kernel)
theorem ni_0 : Cond.instantiable (ctR 0) (ctN 0) ∈ ctG ∧ Cond.initialized (ctR 0) ∈ ctG := ⟨ctG_in 146 (by decide +kernel) (by decide +kernel), ctG_in 50 (by decide +kernel) (by decide +kernel)⟩
theorem ni_1 : Cond.instantiable (ctR 1) (ctN 1) ∈ ctG ∧ Cond.initialized (ctR 1) ∈ ctG := ⟨ctG_in 79 (by decide +kernel) (by decide +kernel), ctG_in 48 (by decide +kernel) (by decide +kernel)⟩
theorem ni_2 : Cond.instantiable (ctR 2) (ctN 2) ∈ ctG ∧ Cond.initialized (ctR 2) ∈ ctG := ⟨ctG_in 139 (by decide +kernel) (by decide +kernel), ctG_in 49 (by decide +kernel) (by decide +kernel)⟩
theorem ni_3 : Cond.instantiable (ctR 3) (ctN 3) ∈ ctG ∧ Cond.initialized (ctR 3) ∈ ctG := ⟨ctG_in 227 (by decide +kernel) (by decide +kernel), ctG_in 51 (by decide +kernel) (by decide +kernel)⟩
theorem ni_4 : Cond.instantiable (ctR 4) (ctN 4) ∈ ctG ∧ Cond.initialized (ctR 4) ∈ ctG := ⟨ctG_in 245 (by decide +kernel) (by decide +kernel), ctG_in 52 (by decide +kernel) (by decide +kernel)⟩
theorem ni_5 : Cond.instantiable (ctR 5) (ctN 5) ∈ ctG ∧ Cond.initialized (ctR 5) ∈ ctG := ⟨ctG_in 73 (by decide +kernel) (by decide +kernel), ctG_in 47 (by decide +kernel) (by decide +kernel)⟩
theorem ni_6 : Cond.instantiable (ctR 6) (ctN 6) ∈ ctG ∧ Cond.initialized (ctR 6) ∈ ctG := ⟨ctG_in 61 (by decide +kernel) (by decide +kernel), ctG_in 46 (by decide +kernel) (by decide +kernel)⟩
theorem ni_7 : Cond.instantiable (ctR 7) (ctN 7) ∈ ctG ∧ Cond.initialized (ctR 7) ∈ ctG := ⟨ctG_in 795 (by decide +kernel) (by decide +kernel), ctG_in 53 (by decide +kernel) (by decide +kernel)⟩
theorem ac_byte : Cond.arrayClass .byte ∈ ctG := ctG_in 110 (by decide +kernel) (by decide +kernel)
theorem ac_int : Cond.arrayClass .int ∈ ctG := ctG_in 109 (by decide +kernel) (by decide +kernel)
theorem ac_boolean : Cond.arrayClass .boolean ∈ ctG := ctG_in 906 (by decide +kernel) (by decide +kernel)
def fX0_init (a0 n : Nat) (M : ctM) : Option ctM :=
  some M

set_option maxHeartbeats 40000000 in
set_option maxRecDepth 20000 in
theorem ctX0_init {B : ctB} (hN : ctBn B kdC lnC 149) {a0 n : Nat} {M r : ctM} (h : fX0_init a0 n M = some r) : ctC B mX0_init (1, 0, 0) [.ref a0] n M (poN r (n + 0)) := by
  refine ctC_of (by decide) (Nat.le_of_ble_eq_true rfl) ?_
  show ctV B mX0_init (1, 0, 0) (poN r (n + 0)) 0 [some (.ref a0)] [] (0, 0) n M
  unfold fX0_init at h
  refine ct_aload_0 (q := 1) dX0_init_0 rfl ?_
  refine ct_obj (q := 4) dX0_init_1 ob_RX0_3 (by decide) (Nat.le_of_ble_eq_true rfl) rfl ?_
  exact ct_vret dX0_init_4 rfl ⟨by decide, by decide⟩ (poN_of h)

def fX1_init (a0 n : Nat) (M : ctM) : Option ctM :=
  (pI (kdr kdC n) 1 0 a0 0 M).bind fun M21 =>
  (pI (kdr kdC n) 1 1 a0 0 M21).bind fun M22 =>
  (pI (kdr kdC n) 1 2 a0 0 M22).bind fun M23 =>
  (nA kdC lnC 9 n 96 M23).bind fun M24 =>
  (pP (kdr kdC (n + 1)) 1 3 a0 n M24).bind fun M25 =>
  (nA kdC lnC 9 (n + 1) 96 M25).bind fun M26 =>
  (pP (kdr kdC (n + 2)) 1 4 a0 (n + 1) M26).bind fun M27 =>
  (nA kdC lnC 9 (n + 2) 96 M27).bind fun M28 =>
  (pP (kdr kdC (n + 3)) 1 5 a0 (n + 2) M28).bind fun M29 =>
  (nA kdC lnC 9 (n + 3) 96 M29).bind fun M30 =>
  (pP (kdr kdC (n + 4)) 1 6 a0 (n + 3) M30).bind fun M31 =>
  some M31

set_option maxHeartbeats 40000000 in
set_option maxRecDepth 20000 in
theorem ctX1_init {B : ctB} (hN : ctBn B kdC lnC 149) {a0 n : Nat} {M r : ctM} (h : fX1_init a0 n M = some r) : ctC B mX1_init (1, 4, 384) [.ref a0] n M (poN r (n + 4)) := by
  refine ctC_of (by decide) (Nat.le_of_ble_eq_true rfl) ?_
  show ctV B mX1_init (1, 4, 384) (poN r (n + 4)) 0 [some (.ref a0)] [] (0, 0) n M
  unfold fX1_init at h
  refine ct_aload_0 (q := 1) dX1_init_0 rfl ?_
  refine ct_obj (q := 4) dX1_init_1 ob_RX1_3 (by decide) (Nat.le_of_ble_eq_true rfl) rfl ?_
  refine ct_aload_0 (q := 5) dX1_init_4 rfl ?_
  refine ct_iconst (v := 0) (q := 6) dX1_init_5 (by decide) rfl ?_
  obtain ⟨M21, gM21, h⟩ := ob h
  refine ct_putI (q := 9) (ctOk_r hN n) dX1_init_6 fl_RX1_9 rfl (by decide) (Or.inl rfl) gM21 rfl ?_
  refine ct_aload_0 (q := 10) dX1_init_9 rfl ?_
  refine ct_iconst (v := 0) (q := 11) dX1_init_10 (by decide) rfl ?_
  obtain ⟨M22, gM22, h⟩ := ob h
  refine ct_putI (q := 14) (ctOk_r hN n) dX1_init_11 fl_RX1_15 rfl (by decide) (Or.inl rfl) gM22 rfl ?_
  refine ct_aload_0 (q := 15) dX1_init_14 rfl ?_
  refine ct_iconst (v := 0) (q := 16) dX1_init_15 (by decide) rfl ?_
  obtain ⟨M23, gM23, h⟩ := ob h
  refine ct_putI (q := 19) (ctOk_r hN n) dX1_init_16 fl_RX1_18 rfl (by decide) (Or.inl rfl) gM23 rfl ?_
  refine ct_aload_0 (q := 20) dX1_init_19 rfl ?_
  refine ct_bipush (v := 96) (q := 22) dX1_init_20 (by decide) rfl ?_
  obtain ⟨M24, gM24, h⟩ := ob h
  refine ct_newaX (q := 24) (m' := (n + 1)) (c2 := 1) (s2 := 96) (by decide : (9 = 8 ∧ ArrayType.int = .byte) ∨ (9 = 9 ∧ ArrayType.int = .int) ∨ (9 = 10 ∧ ArrayType.int = .boolean)) hN dX1_init_22 ac_int (by decide) (by decide) gM24 rfl rfl ⟨by decide, by decide⟩ rfl rfl ?_
  obtain ⟨M25, gM25, h⟩ := ob h
  refine ct_putP (q := 27) (ctOk_r hN (n + 1)) dX1_init_24 fl_RX1_21 rfl (by decide) gM25 rfl ?_
  refine ct_aload_0 (q := 28) dX1_init_27 rfl ?_
  refine ct_bipush (v := 96) (q := 30) dX1_init_28 (by decide) rfl ?_
  obtain ⟨M26, gM26, h⟩ := ob h
  refine ct_newaX (q := 32) (m' := (n + 2)) (c2 := 2) (s2 := 192) (by decide : (9 = 8 ∧ ArrayType.int = .byte) ∨ (9 = 9 ∧ ArrayType.int = .int) ∨ (9 = 10 ∧ ArrayType.int = .boolean)) hN dX1_init_30 ac_int (by decide) (by decide) gM26 rfl rfl ⟨by decide, by decide⟩ rfl rfl ?_
  obtain ⟨M27, gM27, h⟩ := ob h
  refine ct_putP (q := 35) (ctOk_r hN (n + 2)) dX1_init_32 fl_RX1_25 rfl (by decide) gM27 rfl ?_
  refine ct_aload_0 (q := 36) dX1_init_35 rfl ?_
  refine ct_bipush (v := 96) (q := 38) dX1_init_36 (by decide) rfl ?_
  obtain ⟨M28, gM28, h⟩ := ob h
  refine ct_newaX (q := 40) (m' := (n + 3)) (c2 := 3) (s2 := 288) (by decide : (9 = 8 ∧ ArrayType.int = .byte) ∨ (9 = 9 ∧ ArrayType.int = .int) ∨ (9 = 10 ∧ ArrayType.int = .boolean)) hN dX1_init_38 ac_int (by decide) (by decide) gM28 rfl rfl ⟨by decide, by decide⟩ rfl rfl ?_
  obtain ⟨M29, gM29, h⟩ := ob h
  refine ct_putP (q := 43) (ctOk_r hN (n + 3)) dX1_init_40 fl_RX1_28 rfl (by decide) gM29 rfl ?_
  refine ct_aload_0 (q := 44) dX1_init_43 rfl ?_
  refine ct_bipush (v := 96) (q := 46) dX1_init_44 (by decide) rfl ?_
  obtain ⟨M30, gM30, h⟩ := ob h
  refine ct_newaX (q := 48) (m' := (n + 4)) (c2 := 4) (s2 := 384) (by decide : (9 = 8 ∧ ArrayType.int = .byte) ∨ (9 = 9 ∧ ArrayType.int = .int) ∨ (9 = 10 ∧ ArrayType.int = .boolean)) hN dX1_init_46 ac_int (by decide) (by decide) gM30 rfl rfl ⟨by decide, by decide⟩ rfl rfl ?_
  obtain ⟨M31, gM31, h⟩ := ob h
  refine ct_putP (q := 51) (ctOk_r hN (n + 4)) dX1_init_48 fl_RX1_31 rfl (by decide) gM31 rfl ?_
  exact ct_vret dX1_init_51 rfl ⟨by decide, by decide⟩ (poN_of h)

def fX3_init (a0 n : Nat) (M : ctM) : Option ctM :=
  (pI (kdr kdC n) 3 0 a0 (-1) M).bind fun M21 =>
  (pI (kdr kdC n) 3 1 a0 0 M21).bind fun M22 =>
  (nA kdC lnC 9 n 24 M22).bind fun M23 =>
  (pP (kdr kdC (n + 1)) 3 2 a0 n M23).bind fun M24 =>
  some M24

set_option maxHeartbeats 40000000 in
set_option maxRecDepth 20000 in
theorem ctX3_init {B : ctB} (hN : ctBn B kdC lnC 149) {a0 n : Nat} {M r : ctM} (h : fX3_init a0 n M = some r) : ctC B mX3_init (1, 1, 24) [.ref a0] n M (poN r (n + 1)) := by
  refine ctC_of (by decide) (Nat.le_of_ble_eq_true rfl) ?_
  show ctV B mX3_init (1, 1, 24) (poN r (n + 1)) 0 [some (.ref a0)] [] (0, 0) n M
  unfold fX3_init at h
  refine ct_aload_0 (q := 1) dX3_init_0 rfl ?_
  refine ct_obj (q := 4) dX3_init_1 ob_RX3_3 (by decide) (Nat.le_of_ble_eq_true rfl) rfl ?_
  refine ct_aload_0 (q := 5) dX3_init_4 rfl ?_
  refine ct_iconst (v := -1) (q := 6) dX3_init_5 (by decide) rfl ?_
  obtain ⟨M21, gM21, h⟩ := ob h
  refine ct_putI (q := 9) (ctOk_r hN n) dX3_init_6 fl_RX3_9 rfl (by decide) (Or.inl rfl) gM21 rfl ?_
  refine ct_aload_0 (q := 10) dX3_init_9 rfl ?_
  refine ct_iconst (v := 0) (q := 11) dX3_init_10 (by decide) rfl ?_
  obtain ⟨M22, gM22, h⟩ := ob h
  refine ct_putI (q := 14) (ctOk_r hN n) dX3_init_11 fl_RX3_15 rfl (by decide) (Or.inl rfl) gM22 rfl ?_
  refine ct_aload_0 (q := 15) dX3_init_14 rfl ?_
  refine ct_bipush (v := 24) (q := 17) dX3_init_15 (by decide) rfl ?_
  obtain ⟨M23, gM23, h⟩ := ob h
  refine ct_newaX (q := 19) (m' := (n + 1)) (c2 := 1) (s2 := 24) (by decide : (9 = 8 ∧ ArrayType.int = .byte) ∨ (9 = 9 ∧ ArrayType.int = .int) ∨ (9 = 10 ∧ ArrayType.int = .boolean)) hN dX3_init_17 ac_int (by decide) (by decide) gM23 rfl rfl ⟨by decide, by decide⟩ rfl rfl ?_
  obtain ⟨M24, gM24, h⟩ := ob h
  refine ct_putP (q := 22) (ctOk_r hN (n + 1)) dX3_init_19 fl_RX3_18 rfl (by decide) gM24 rfl ?_
  exact ct_vret dX3_init_22 rfl ⟨by decide, by decide⟩ (poN_of h)

def fX4_init (a0 n : Nat) (M : ctM) : Option ctM :=
  (pI (kdr kdC n) 4 0 a0 0 M).bind fun M21 =>
  (nO kdC 0 n M21).bind fun M22 =>
  (fX0_init n (n + 1) M22).bind fun M23 =>
  (pP (kdr kdC (n + 1)) 4 1 a0 n M23).bind fun M24 =>
  (nO kdC 3 (n + 1) M24).bind fun M25 =>
  (fX3_init (n + 1) (n + 2) M25).bind fun M26 =>
  (pP (kdr kdC (n + 3)) 4 2 a0 (n + 1) M26).bind fun M27 =>
  (pI (kdr kdC (n + 3)) 4 3 a0 0 M27).bind fun M28 =>
  some M28

set_option maxHeartbeats 40000000 in
set_option maxRecDepth 20000 in
theorem ctX4_init {B : ctB} (hN : ctBn B kdC lnC 149) {a0 n : Nat} {M r : ctM} (h : fX4_init a0 n M = some r) : ctC B mX4_init (2, 3, 34) [.ref a0] n M (poN r (n + 3)) := by
  refine ctC_of (by decide) (Nat.le_of_ble_eq_true rfl) ?_
  show ctV B mX4_init (2, 3, 34) (poN r (n + 3)) 0 [some (.ref a0)] [] (0, 0) n M
  unfold fX4_init at h
  refine ct_aload_0 (q := 1) dX4_init_0 rfl ?_
  refine ct_obj (q := 4) dX4_init_1 ob_RX4_3 (by decide) (Nat.le_of_ble_eq_true rfl) rfl ?_
  refine ct_aload_0 (q := 5) dX4_init_4 rfl ?_
  refine ct_iconst (v := 0) (q := 6) dX4_init_5 (by decide) rfl ?_
  obtain ⟨M21, gM21, h⟩ := ob h
  refine ct_putI (q := 9) (ctOk_r hN n) dX4_init_6 fl_RX4_9 rfl (by decide) (Or.inl rfl) gM21 rfl ?_
  refine ct_aload_0 (q := 10) dX4_init_9 rfl ?_
  obtain ⟨M22, gM22, h⟩ := ob h
  refine ct_newX (c := 0) (q := 13) (m' := (n + 1)) (c2 := 1) (s2 := 7) hN dX4_init_10 ⟨nl_RX4_15, ni_0⟩ (by decide) gM22 rfl rfl ⟨by decide, by decide⟩ rfl rfl ?_
  refine ct_dup (q := 14) dX4_init_13 rfl rfl ?_
  obtain ⟨M23, gM23, h⟩ := ob h
  refine ct_cI0 (q := 17) (m' := (n + 1)) (c2 := 1) (s2 := 7) dX4_init_14 lk_RX4_17 (by decide) (ctX0_init hN gM23) (Nat.le_of_ble_eq_true rfl) rfl rfl ⟨by decide, by decide⟩ rfl rfl ?_
  obtain ⟨M24, gM24, h⟩ := ob h
  refine ct_putP (q := 20) (ctOk_r hN (n + 1)) dX4_init_17 fl_RX4_18 rfl (by decide) gM24 rfl ?_
  refine ct_aload_0 (q := 21) dX4_init_20 rfl ?_
  obtain ⟨M25, gM25, h⟩ := ob h
  refine ct_newX (c := 3) (q := 24) (m' := (n + 2)) (c2 := 2) (s2 := 10) hN dX4_init_21 ⟨nl_RX4_22, ni_3⟩ (by decide) gM25 rfl rfl ⟨by decide, by decide⟩ rfl rfl ?_
  refine ct_dup (q := 25) dX4_init_24 rfl rfl ?_
  obtain ⟨M26, gM26, h⟩ := ob h
  refine ct_cI0 (q := 28) (m' := (n + 3)) (c2 := 3) (s2 := 34) dX4_init_25 lk_RX4_24 (by decide) (ctX3_init hN gM26) (Nat.le_of_ble_eq_true rfl) rfl rfl ⟨by decide, by decide⟩ rfl rfl ?_
  obtain ⟨M27, gM27, h⟩ := ob h
  refine ct_putP (q := 31) (ctOk_r hN (n + 3)) dX4_init_28 fl_RX4_25 rfl (by decide) gM27 rfl ?_
  refine ct_aload_0 (q := 32) dX4_init_31 rfl ?_
  refine ct_iconst (v := 0) (q := 33) dX4_init_32 (by decide) rfl ?_
  obtain ⟨M28, gM28, h⟩ := ob h
  refine ct_putI (q := 36) (ctOk_r hN (n + 3)) dX4_init_33 fl_RX4_29 rfl (by decide) (Or.inl rfl) gM28 rfl ?_
  exact ct_vret dX4_init_36 rfl ⟨by decide, by decide⟩ (poN_of h)

def fX5_init (a0 n : Nat) (M : ctM) : Option ctM :=
  (nA kdC lnC 8 n 96 M).bind fun M21 =>
  (pP (kdr kdC (n + 1)) 5 0 a0 n M21).bind fun M22 =>
  (pI (kdr kdC (n + 1)) 5 1 a0 0 M22).bind fun M23 =>
  (pI (kdr kdC (n + 1)) 5 2 a0 0 M23).bind fun M24 =>
  (pI (kdr kdC (n + 1)) 5 3 a0 0 M24).bind fun M25 =>
  (pI (kdr kdC (n + 1)) 5 4 a0 (-1) M25).bind fun M26 =>
  (pI (kdr kdC (n + 1)) 5 5 a0 (-1) M26).bind fun M27 =>
  (nO kdC 1 (n + 1) M27).bind fun M28 =>
  (fX1_init (n + 1) (n + 2) M28).bind fun M29 =>
  (pP (kdr kdC (n + 6)) 5 6 a0 (n + 1) M29).bind fun M30 =>
  some M30

set_option maxHeartbeats 40000000 in
set_option maxRecDepth 20000 in
theorem ctX5_init {B : ctB} (hN : ctBn B kdC lnC 149) {a0 n : Nat} {M r : ctM} (h : fX5_init a0 n M = some r) : ctC B mX5_init (2, 6, 487) [.ref a0] n M (poN r (n + 6)) := by
  refine ctC_of (by decide) (Nat.le_of_ble_eq_true rfl) ?_
  show ctV B mX5_init (2, 6, 487) (poN r (n + 6)) 0 [some (.ref a0)] [] (0, 0) n M
  unfold fX5_init at h
  refine ct_aload_0 (q := 1) dX5_init_0 rfl ?_
  refine ct_obj (q := 4) dX5_init_1 ob_RX5_3 (by decide) (Nat.le_of_ble_eq_true rfl) rfl ?_
  refine ct_aload_0 (q := 5) dX5_init_4 rfl ?_
  refine ct_bipush (v := 96) (q := 7) dX5_init_5 (by decide) rfl ?_
  obtain ⟨M21, gM21, h⟩ := ob h
  refine ct_newaX (q := 9) (m' := (n + 1)) (c2 := 1) (s2 := 96) (by decide : (8 = 8 ∧ ArrayType.byte = .byte) ∨ (8 = 9 ∧ ArrayType.byte = .int) ∨ (8 = 10 ∧ ArrayType.byte = .boolean)) hN dX5_init_7 ac_byte (by decide) (by decide) gM21 rfl rfl ⟨by decide, by decide⟩ rfl rfl ?_
  obtain ⟨M22, gM22, h⟩ := ob h
  refine ct_putP (q := 12) (ctOk_r hN (n + 1)) dX5_init_9 fl_RX5_9 rfl (by decide) gM22 rfl ?_
  refine ct_aload_0 (q := 13) dX5_init_12 rfl ?_
  refine ct_iconst (v := 0) (q := 14) dX5_init_13 (by decide) rfl ?_
  obtain ⟨M23, gM23, h⟩ := ob h
  refine ct_putI (q := 17) (ctOk_r hN (n + 1)) dX5_init_14 fl_RX5_15 rfl (by decide) (Or.inl rfl) gM23 rfl ?_
  refine ct_aload_0 (q := 18) dX5_init_17 rfl ?_
  refine ct_iconst (v := 0) (q := 19) dX5_init_18 (by decide) rfl ?_
  obtain ⟨M24, gM24, h⟩ := ob h
  refine ct_putI (q := 22) (ctOk_r hN (n + 1)) dX5_init_19 fl_RX5_19 rfl (by decide) (Or.inl rfl) gM24 rfl ?_
  refine ct_aload_0 (q := 23) dX5_init_22 rfl ?_
  refine ct_iconst (v := 0) (q := 24) dX5_init_23 (by decide) rfl ?_
  obtain ⟨M25, gM25, h⟩ := ob h
  refine ct_putI (q := 27) (ctOk_r hN (n + 1)) dX5_init_24 fl_RX5_22 rfl (by decide) (Or.inl rfl) gM25 rfl ?_
  refine ct_aload_0 (q := 28) dX5_init_27 rfl ?_
  refine ct_iconst (v := -1) (q := 29) dX5_init_28 (by decide) rfl ?_
  obtain ⟨M26, gM26, h⟩ := ob h
  refine ct_putI (q := 32) (ctOk_r hN (n + 1)) dX5_init_29 fl_RX5_25 rfl (by decide) (Or.inl rfl) gM26 rfl ?_
  refine ct_aload_0 (q := 33) dX5_init_32 rfl ?_
  refine ct_iconst (v := -1) (q := 34) dX5_init_33 (by decide) rfl ?_
  obtain ⟨M27, gM27, h⟩ := ob h
  refine ct_putI (q := 37) (ctOk_r hN (n + 1)) dX5_init_34 fl_RX5_28 rfl (by decide) (Or.inl rfl) gM27 rfl ?_
  refine ct_aload_0 (q := 38) dX5_init_37 rfl ?_
  obtain ⟨M28, gM28, h⟩ := ob h
  refine ct_newX (c := 1) (q := 41) (m' := (n + 2)) (c2 := 2) (s2 := 103) hN dX5_init_38 ⟨nl_RX5_31, ni_1⟩ (by decide) gM28 rfl rfl ⟨by decide, by decide⟩ rfl rfl ?_
  refine ct_dup (q := 42) dX5_init_41 rfl rfl ?_
  obtain ⟨M29, gM29, h⟩ := ob h
  refine ct_cI0 (q := 45) (m' := (n + 6)) (c2 := 6) (s2 := 487) dX5_init_42 lk_RX5_33 (by decide) (ctX1_init hN gM29) (Nat.le_of_ble_eq_true rfl) rfl rfl ⟨by decide, by decide⟩ rfl rfl ?_
  obtain ⟨M30, gM30, h⟩ := ob h
  refine ct_putP (q := 48) (ctOk_r hN (n + 6)) dX5_init_45 fl_RX5_34 rfl (by decide) gM30 rfl ?_
  exact ct_vret dX5_init_48 rfl ⟨by decide, by decide⟩ (poN_of h)

def fX2_init (a0 a1 n : Nat) (M : ctM) : Option ctM :=
  (nA kdC lnC 11 n 8 M).bind fun M21 =>
  (pP (kdr kdC (n + 1)) 2 1 a0 n M21).bind fun M22 =>
  (nA kdC lnC 9 (n + 1) 8 M22).bind fun M23 =>
  (pP (kdr kdC (n + 2)) 2 2 a0 (n + 1) M23).bind fun M24 =>
  (nA kdC lnC 9 (n + 2) 8 M24).bind fun M25 =>
  (pP (kdr kdC (n + 3)) 2 3 a0 (n + 2) M25).bind fun M26 =>
  (nA kdC lnC 9 (n + 3) 3 M26).bind fun M27 =>
  (pP (kdr kdC (n + 4)) 2 4 a0 (n + 3) M27).bind fun M28 =>
  (pI (kdr kdC (n + 4)) 2 5 a0 0 M28).bind fun M29 =>
  (pI (kdr kdC (n + 4)) 2 6 a0 4 M29).bind fun M30 =>
  (pI (kdr kdC (n + 4)) 2 7 a0 9 M30).bind fun M31 =>
  (pI (kdr kdC (n + 4)) 2 8 a0 0 M31).bind fun M32 =>
  (pI (kdr kdC (n + 4)) 2 9 a0 1 M32).bind fun M33 =>
  (pI (kdr kdC (n + 4)) 2 10 a0 0 M33).bind fun M34 =>
  (pP (kdr kdC (n + 4)) 2 0 a0 a1 M34).bind fun M35 =>
  (gP (kdr kdC (n + 4)) 2 1 a0 M35).bind fun a36 =>
  (nO kdC 0 (n + 4) M35).bind fun M37 =>
  (fX0_init (n + 4) (n + 5) M37).bind fun M38 =>
  (sP (kdr kdC (n + 5)) lnC 11 0 a36 0 (n + 4) M38).bind fun M39 =>
  (gP (kdr kdC (n + 5)) 2 1 a0 M39).bind fun a40 =>
  (nO kdC 0 (n + 5) M39).bind fun M41 =>
  (fX0_init (n + 5) (n + 6) M41).bind fun M42 =>
  (sP (kdr kdC (n + 6)) lnC 11 0 a40 1 (n + 5) M42).bind fun M43 =>
  (gP (kdr kdC (n + 6)) 2 1 a0 M43).bind fun a44 =>
  (nO kdC 0 (n + 6) M43).bind fun M45 =>
  (fX0_init (n + 6) (n + 7) M45).bind fun M46 =>
  (sP (kdr kdC (n + 7)) lnC 11 0 a44 2 (n + 6) M46).bind fun M47 =>
  (gP (kdr kdC (n + 7)) 2 1 a0 M47).bind fun a48 =>
  (nO kdC 0 (n + 7) M47).bind fun M49 =>
  (fX0_init (n + 7) (n + 8) M49).bind fun M50 =>
  (sP (kdr kdC (n + 8)) lnC 11 0 a48 3 (n + 7) M50).bind fun M51 =>
  (gP (kdr kdC (n + 8)) 2 1 a0 M51).bind fun a52 =>
  (nO kdC 0 (n + 8) M51).bind fun M53 =>
  (fX0_init (n + 8) (n + 9) M53).bind fun M54 =>
  (sP (kdr kdC (n + 9)) lnC 11 0 a52 4 (n + 8) M54).bind fun M55 =>
  (gP (kdr kdC (n + 9)) 2 1 a0 M55).bind fun a56 =>
  (nO kdC 0 (n + 9) M55).bind fun M57 =>
  (fX0_init (n + 9) (n + 10) M57).bind fun M58 =>
  (sP (kdr kdC (n + 10)) lnC 11 0 a56 5 (n + 9) M58).bind fun M59 =>
  (gP (kdr kdC (n + 10)) 2 1 a0 M59).bind fun a60 =>
  (nO kdC 0 (n + 10) M59).bind fun M61 =>
  (fX0_init (n + 10) (n + 11) M61).bind fun M62 =>
  (sP (kdr kdC (n + 11)) lnC 11 0 a60 6 (n + 10) M62).bind fun M63 =>
  (gP (kdr kdC (n + 11)) 2 1 a0 M63).bind fun a64 =>
  (nO kdC 0 (n + 11) M63).bind fun M65 =>
  (fX0_init (n + 11) (n + 12) M65).bind fun M66 =>
  (sP (kdr kdC (n + 12)) lnC 11 0 a64 7 (n + 11) M66).bind fun M67 =>
  (gP (kdr kdC (n + 12)) 2 4 a0 M67).bind fun a68 =>
  (sI (kdr kdC (n + 12)) lnC 9 a68 0 (-1) M67).bind fun M69 =>
  (gP (kdr kdC (n + 12)) 2 4 a0 M69).bind fun a70 =>
  (sI (kdr kdC (n + 12)) lnC 9 a70 1 (-1) M69).bind fun M71 =>
  (gP (kdr kdC (n + 12)) 2 4 a0 M71).bind fun a72 =>
  (sI (kdr kdC (n + 12)) lnC 9 a72 2 (-1) M71).bind fun M73 =>
  some M73

set_option maxHeartbeats 40000000 in
set_option maxRecDepth 20000 in
theorem ctX2_init {B : ctB} (hN : ctBn B kdC lnC 149) {a0 a1 n : Nat} {M r : ctM} (h : fX2_init a0 a1 n M = some r) : ctC B mX2_init (2, 12, 83) [.ref a0, .ref a1] n M (poN r (n + 12)) := by
  refine ctC_of (by decide) (Nat.le_of_ble_eq_true rfl) ?_
  show ctV B mX2_init (2, 12, 83) (poN r (n + 12)) 0 [some (.ref a0), some (.ref a1), none] [] (0, 0) n M
  unfold fX2_init at h
  refine ct_aload_0 (q := 1) dX2_init_0 rfl ?_
  refine ct_obj (q := 4) dX2_init_1 ob_RX2_3 (by decide) (Nat.le_of_ble_eq_true rfl) rfl ?_
  refine ct_aload_0 (q := 5) dX2_init_4 rfl ?_
  refine ct_bipush (v := 8) (q := 7) dX2_init_5 (by decide) rfl ?_
  obtain ⟨M21, gM21, h⟩ := ob h
  refine ct_anewX (t := 11) (q := 10) (m' := (n + 1)) (c2 := 1) (s2 := 8) rfl hN dX2_init_7 nl_RX2_9 (by decide) (by decide) gM21 rfl rfl ⟨by decide, by decide⟩ rfl rfl ?_
  obtain ⟨M22, gM22, h⟩ := ob h
  refine ct_putP (q := 13) (ctOk_r hN (n + 1)) dX2_init_10 fl_RX2_11 rfl (by decide) gM22 rfl ?_
  refine ct_aload_0 (q := 14) dX2_init_13 rfl ?_
  refine ct_bipush (v := 8) (q := 16) dX2_init_14 (by decide) rfl ?_
  obtain ⟨M23, gM23, h⟩ := ob h
  refine ct_newaX (q := 18) (m' := (n + 2)) (c2 := 2) (s2 := 16) (by decide : (9 = 8 ∧ ArrayType.int = .byte) ∨ (9 = 9 ∧ ArrayType.int = .int) ∨ (9 = 10 ∧ ArrayType.int = .boolean)) hN dX2_init_16 ac_int (by decide) (by decide) gM23 rfl rfl ⟨by decide, by decide⟩ rfl rfl ?_
  obtain ⟨M24, gM24, h⟩ := ob h
  refine ct_putP (q := 21) (ctOk_r hN (n + 2)) dX2_init_18 fl_RX2_17 rfl (by decide) gM24 rfl ?_
  refine ct_aload_0 (q := 22) dX2_init_21 rfl ?_
  refine ct_bipush (v := 8) (q := 24) dX2_init_22 (by decide) rfl ?_
  obtain ⟨M25, gM25, h⟩ := ob h
  refine ct_newaX (q := 26) (m' := (n + 3)) (c2 := 3) (s2 := 24) (by decide : (9 = 8 ∧ ArrayType.int = .byte) ∨ (9 = 9 ∧ ArrayType.int = .int) ∨ (9 = 10 ∧ ArrayType.int = .boolean)) hN dX2_init_24 ac_int (by decide) (by decide) gM25 rfl rfl ⟨by decide, by decide⟩ rfl rfl ?_
  obtain ⟨M26, gM26, h⟩ := ob h
  refine ct_putP (q := 29) (ctOk_r hN (n + 3)) dX2_init_26 fl_RX2_21 rfl (by decide) gM26 rfl ?_
  refine ct_aload_0 (q := 30) dX2_init_29 rfl ?_
  refine ct_iconst (v := 3) (q := 31) dX2_init_30 (by decide) rfl ?_
  obtain ⟨M27, gM27, h⟩ := ob h
  refine ct_newaX (q := 33) (m' := (n + 4)) (c2 := 4) (s2 := 27) (by decide : (9 = 8 ∧ ArrayType.int = .byte) ∨ (9 = 9 ∧ ArrayType.int = .int) ∨ (9 = 10 ∧ ArrayType.int = .boolean)) hN dX2_init_31 ac_int (by decide) (by decide) gM27 rfl rfl ⟨by decide, by decide⟩ rfl rfl ?_
  obtain ⟨M28, gM28, h⟩ := ob h
  refine ct_putP (q := 36) (ctOk_r hN (n + 4)) dX2_init_33 fl_RX2_24 rfl (by decide) gM28 rfl ?_
  refine ct_aload_0 (q := 37) dX2_init_36 rfl ?_
  refine ct_iconst (v := 0) (q := 38) dX2_init_37 (by decide) rfl ?_
  obtain ⟨M29, gM29, h⟩ := ob h
  refine ct_putI (q := 41) (ctOk_r hN (n + 4)) dX2_init_38 fl_RX2_27 rfl (by decide) (Or.inl rfl) gM29 rfl ?_
  refine ct_aload_0 (q := 42) dX2_init_41 rfl ?_
  refine ct_iconst (v := 4) (q := 43) dX2_init_42 (by decide) rfl ?_
  obtain ⟨M30, gM30, h⟩ := ob h
  refine ct_putI (q := 46) (ctOk_r hN (n + 4)) dX2_init_43 fl_RX2_31 rfl (by decide) (Or.inl rfl) gM30 rfl ?_
  refine ct_aload_0 (q := 47) dX2_init_46 rfl ?_
  refine ct_bipush (v := 9) (q := 49) dX2_init_47 (by decide) rfl ?_
  obtain ⟨M31, gM31, h⟩ := ob h
  refine ct_putI (q := 52) (ctOk_r hN (n + 4)) dX2_init_49 fl_RX2_34 rfl (by decide) (Or.inl rfl) gM31 rfl ?_
  refine ct_aload_0 (q := 53) dX2_init_52 rfl ?_
  refine ct_iconst (v := 0) (q := 54) dX2_init_53 (by decide) rfl ?_
  obtain ⟨M32, gM32, h⟩ := ob h
  refine ct_putI (q := 57) (ctOk_r hN (n + 4)) dX2_init_54 fl_RX2_37 rfl (by decide) (Or.inl rfl) gM32 rfl ?_
  refine ct_aload_0 (q := 58) dX2_init_57 rfl ?_
  refine ct_iconst (v := 1) (q := 59) dX2_init_58 (by decide) rfl ?_
  obtain ⟨M33, gM33, h⟩ := ob h
  refine ct_putI (q := 62) (ctOk_r hN (n + 4)) dX2_init_59 fl_RX2_40 rfl (by decide) (Or.inl rfl) gM33 rfl ?_
  refine ct_aload_0 (q := 63) dX2_init_62 rfl ?_
  refine ct_iconst (v := 0) (q := 64) dX2_init_63 (by decide) rfl ?_
  obtain ⟨M34, gM34, h⟩ := ob h
  refine ct_putI (q := 67) (ctOk_r hN (n + 4)) dX2_init_64 fl_RX2_43 rfl (by decide) (Or.inl rfl) gM34 rfl ?_
  refine ct_aload_0 (q := 68) dX2_init_67 rfl ?_
  refine ct_aload_1 (q := 69) dX2_init_68 rfl ?_
  obtain ⟨M35, gM35, h⟩ := ob h
  refine ct_putP (q := 72) (ctOk_r hN (n + 4)) dX2_init_69 fl_RX2_46 rfl (by decide) gM35 rfl ?_
  refine ct_iconst (v := 0) (q := 73) dX2_init_72 (by decide) rfl ?_
  refine ct_istore_2 (q := 74) dX2_init_73 (by decide) rfl rfl ?_
  refine ct_iload_2 (q := 75) dX2_init_74 rfl ?_
  refine ct_bipush (v := 8) (q := 77) dX2_init_75 (by decide) rfl ?_
  refine ct_icmp_ge (q := 80) (tgt := 99) dX2_init_77 (by decide) rfl (fun z => absurd z (by decide)) (fun _ => ?_)
  refine ct_aload_0 (q := 81) dX2_init_80 rfl ?_
  obtain ⟨a36, ga36, h⟩ := ob h
  refine ct_getP (q := 84) (ctOk_r hN (n + 4)) dX2_init_81 fl_RX2_11 rfl ga36 rfl ?_
  refine ct_iload_2 (q := 85) dX2_init_84 rfl ?_
  obtain ⟨M37, gM37, h⟩ := ob h
  refine ct_newX (c := 0) (q := 88) (m' := (n + 5)) (c2 := 5) (s2 := 34) hN dX2_init_85 ⟨nl_RX2_9, ni_0⟩ (by decide) gM37 rfl rfl ⟨by decide, by decide⟩ rfl rfl ?_
  refine ct_dup (q := 89) dX2_init_88 rfl rfl ?_
  obtain ⟨M38, gM38, h⟩ := ob h
  refine ct_cI0 (q := 92) (m' := (n + 5)) (c2 := 5) (s2 := 34) dX2_init_89 lk_RX2_50 (by decide) (ctX0_init hN gM38) (Nat.le_of_ble_eq_true rfl) rfl rfl ⟨by decide, by decide⟩ rfl rfl ?_
  obtain ⟨M39, gM39, h⟩ := ob h
  refine ct_aast (q := 93) rfl (ctOk_r hN (n + 5)) dX2_init_92 gM39 rfl ?_
  refine ct_iinc_2 (q := 96) (v := 1) dX2_init_93 (by decide) (by decide) rfl rfl ?_
  refine ct_goto (q := 74) dX2_init_96 (by decide) ?_
  refine ct_iload_2 (q := 75) dX2_init_74 rfl ?_
  refine ct_bipush (v := 8) (q := 77) dX2_init_75 (by decide) rfl ?_
  refine ct_icmp_ge (q := 80) (tgt := 99) dX2_init_77 (by decide) rfl (fun z => absurd z (by decide)) (fun _ => ?_)
  refine ct_aload_0 (q := 81) dX2_init_80 rfl ?_
  obtain ⟨a40, ga40, h⟩ := ob h
  refine ct_getP (q := 84) (ctOk_r hN (n + 5)) dX2_init_81 fl_RX2_11 rfl ga40 rfl ?_
  refine ct_iload_2 (q := 85) dX2_init_84 rfl ?_
  obtain ⟨M41, gM41, h⟩ := ob h
  refine ct_newX (c := 0) (q := 88) (m' := (n + 6)) (c2 := 6) (s2 := 41) hN dX2_init_85 ⟨nl_RX2_9, ni_0⟩ (by decide) gM41 rfl rfl ⟨by decide, by decide⟩ rfl rfl ?_
  refine ct_dup (q := 89) dX2_init_88 rfl rfl ?_
  obtain ⟨M42, gM42, h⟩ := ob h
  refine ct_cI0 (q := 92) (m' := (n + 6)) (c2 := 6) (s2 := 41) dX2_init_89 lk_RX2_50 (by decide) (ctX0_init hN gM42) (Nat.le_of_ble_eq_true rfl) rfl rfl ⟨by decide, by decide⟩ rfl rfl ?_
  obtain ⟨M43, gM43, h⟩ := ob h
  refine ct_aast (q := 93) rfl (ctOk_r hN (n + 6)) dX2_init_92 gM43 rfl ?_
  refine ct_iinc_2 (q := 96) (v := 2) dX2_init_93 (by decide) (by decide) rfl rfl ?_
  refine ct_goto (q := 74) dX2_init_96 (by decide) ?_
  refine ct_iload_2 (q := 75) dX2_init_74 rfl ?_
  refine ct_bipush (v := 8) (q := 77) dX2_init_75 (by decide) rfl ?_
  refine ct_icmp_ge (q := 80) (tgt := 99) dX2_init_77 (by decide) rfl (fun z => absurd z (by decide)) (fun _ => ?_)
  refine ct_aload_0 (q := 81) dX2_init_80 rfl ?_
  obtain ⟨a44, ga44, h⟩ := ob h
  refine ct_getP (q := 84) (ctOk_r hN (n + 6)) dX2_init_81 fl_RX2_11 rfl ga44 rfl ?_
  refine ct_iload_2 (q := 85) dX2_init_84 rfl ?_
  obtain ⟨M45, gM45, h⟩ := ob h
  refine ct_newX (c := 0) (q := 88) (m' := (n + 7)) (c2 := 7) (s2 := 48) hN dX2_init_85 ⟨nl_RX2_9, ni_0⟩ (by decide) gM45 rfl rfl ⟨by decide, by decide⟩ rfl rfl ?_
  refine ct_dup (q := 89) dX2_init_88 rfl rfl ?_
  obtain ⟨M46, gM46, h⟩ := ob h
  refine ct_cI0 (q := 92) (m' := (n + 7)) (c2 := 7) (s2 := 48) dX2_init_89 lk_RX2_50 (by decide) (ctX0_init hN gM46) (Nat.le_of_ble_eq_true rfl) rfl rfl ⟨by decide, by decide⟩ rfl rfl ?_
  obtain ⟨M47, gM47, h⟩ := ob h
  refine ct_aast (q := 93) rfl (ctOk_r hN (n + 7)) dX2_init_92 gM47 rfl ?_
  refine ct_iinc_2 (q := 96) (v := 3) dX2_init_93 (by decide) (by decide) rfl rfl ?_
  refine ct_goto (q := 74) dX2_init_96 (by decide) ?_
  refine ct_iload_2 (q := 75) dX2_init_74 rfl ?_
  refine ct_bipush (v := 8) (q := 77) dX2_init_75 (by decide) rfl ?_
  refine ct_icmp_ge (q := 80) (tgt := 99) dX2_init_77 (by decide) rfl (fun z => absurd z (by decide)) (fun _ => ?_)
  refine ct_aload_0 (q := 81) dX2_init_80 rfl ?_
  obtain ⟨a48, ga48, h⟩ := ob h
  refine ct_getP (q := 84) (ctOk_r hN (n + 7)) dX2_init_81 fl_RX2_11 rfl ga48 rfl ?_
  refine ct_iload_2 (q := 85) dX2_init_84 rfl ?_
  obtain ⟨M49, gM49, h⟩ := ob h
  refine ct_newX (c := 0) (q := 88) (m' := (n + 8)) (c2 := 8) (s2 := 55) hN dX2_init_85 ⟨nl_RX2_9, ni_0⟩ (by decide) gM49 rfl rfl ⟨by decide, by decide⟩ rfl rfl ?_
  refine ct_dup (q := 89) dX2_init_88 rfl rfl ?_
  obtain ⟨M50, gM50, h⟩ := ob h
  refine ct_cI0 (q := 92) (m' := (n + 8)) (c2 := 8) (s2 := 55) dX2_init_89 lk_RX2_50 (by decide) (ctX0_init hN gM50) (Nat.le_of_ble_eq_true rfl) rfl rfl ⟨by decide, by decide⟩ rfl rfl ?_
  obtain ⟨M51, gM51, h⟩ := ob h
  refine ct_aast (q := 93) rfl (ctOk_r hN (n + 8)) dX2_init_92 gM51 rfl ?_
  refine ct_iinc_2 (q := 96) (v := 4) dX2_init_93 (by decide) (by decide) rfl rfl ?_
  refine ct_goto (q := 74) dX2_init_96 (by decide) ?_
  refine ct_iload_2 (q := 75) dX2_init_74 rfl ?_
  refine ct_bipush (v := 8) (q := 77) dX2_init_75 (by decide) rfl ?_
  refine ct_icmp_ge (q := 80) (tgt := 99) dX2_init_77 (by decide) rfl (fun z => absurd z (by decide)) (fun _ => ?_)
  refine ct_aload_0 (q := 81) dX2_init_80 rfl ?_
  obtain ⟨a52, ga52, h⟩ := ob h
  refine ct_getP (q := 84) (ctOk_r hN (n + 8)) dX2_init_81 fl_RX2_11 rfl ga52 rfl ?_
  refine ct_iload_2 (q := 85) dX2_init_84 rfl ?_
  obtain ⟨M53, gM53, h⟩ := ob h
  refine ct_newX (c := 0) (q := 88) (m' := (n + 9)) (c2 := 9) (s2 := 62) hN dX2_init_85 ⟨nl_RX2_9, ni_0⟩ (by decide) gM53 rfl rfl ⟨by decide, by decide⟩ rfl rfl ?_
  refine ct_dup (q := 89) dX2_init_88 rfl rfl ?_
  obtain ⟨M54, gM54, h⟩ := ob h
  refine ct_cI0 (q := 92) (m' := (n + 9)) (c2 := 9) (s2 := 62) dX2_init_89 lk_RX2_50 (by decide) (ctX0_init hN gM54) (Nat.le_of_ble_eq_true rfl) rfl rfl ⟨by decide, by decide⟩ rfl rfl ?_
  obtain ⟨M55, gM55, h⟩ := ob h
  refine ct_aast (q := 93) rfl (ctOk_r hN (n + 9)) dX2_init_92 gM55 rfl ?_
  refine ct_iinc_2 (q := 96) (v := 5) dX2_init_93 (by decide) (by decide) rfl rfl ?_
  refine ct_goto (q := 74) dX2_init_96 (by decide) ?_
  refine ct_iload_2 (q := 75) dX2_init_74 rfl ?_
  refine ct_bipush (v := 8) (q := 77) dX2_init_75 (by decide) rfl ?_
  refine ct_icmp_ge (q := 80) (tgt := 99) dX2_init_77 (by decide) rfl (fun z => absurd z (by decide)) (fun _ => ?_)
  refine ct_aload_0 (q := 81) dX2_init_80 rfl ?_
  obtain ⟨a56, ga56, h⟩ := ob h
  refine ct_getP (q := 84) (ctOk_r hN (n + 9)) dX2_init_81 fl_RX2_11 rfl ga56 rfl ?_
  refine ct_iload_2 (q := 85) dX2_init_84 rfl ?_
  obtain ⟨M57, gM57, h⟩ := ob h
  refine ct_newX (c := 0) (q := 88) (m' := (n + 10)) (c2 := 10) (s2 := 69) hN dX2_init_85 ⟨nl_RX2_9, ni_0⟩ (by decide) gM57 rfl rfl ⟨by decide, by decide⟩ rfl rfl ?_
  refine ct_dup (q := 89) dX2_init_88 rfl rfl ?_
  obtain ⟨M58, gM58, h⟩ := ob h
  refine ct_cI0 (q := 92) (m' := (n + 10)) (c2 := 10) (s2 := 69) dX2_init_89 lk_RX2_50 (by decide) (ctX0_init hN gM58) (Nat.le_of_ble_eq_true rfl) rfl rfl ⟨by decide, by decide⟩ rfl rfl ?_
  obtain ⟨M59, gM59, h⟩ := ob h
  refine ct_aast (q := 93) rfl (ctOk_r hN (n + 10)) dX2_init_92 gM59 rfl ?_
  refine ct_iinc_2 (q := 96) (v := 6) dX2_init_93 (by decide) (by decide) rfl rfl ?_
  refine ct_goto (q := 74) dX2_init_96 (by decide) ?_
  refine ct_iload_2 (q := 75) dX2_init_74 rfl ?_
  refine ct_bipush (v := 8) (q := 77) dX2_init_75 (by decide) rfl ?_
  refine ct_icmp_ge (q := 80) (tgt := 99) dX2_init_77 (by decide) rfl (fun z => absurd z (by decide)) (fun _ => ?_)
  refine ct_aload_0 (q := 81) dX2_init_80 rfl ?_
  obtain ⟨a60, ga60, h⟩ := ob h
  refine ct_getP (q := 84) (ctOk_r hN (n + 10)) dX2_init_81 fl_RX2_11 rfl ga60 rfl ?_
  refine ct_iload_2 (q := 85) dX2_init_84 rfl ?_
  obtain ⟨M61, gM61, h⟩ := ob h
  refine ct_newX (c := 0) (q := 88) (m' := (n + 11)) (c2 := 11) (s2 := 76) hN dX2_init_85 ⟨nl_RX2_9, ni_0⟩ (by decide) gM61 rfl rfl ⟨by decide, by decide⟩ rfl rfl ?_
  refine ct_dup (q := 89) dX2_init_88 rfl rfl ?_
  obtain ⟨M62, gM62, h⟩ := ob h
  refine ct_cI0 (q := 92) (m' := (n + 11)) (c2 := 11) (s2 := 76) dX2_init_89 lk_RX2_50 (by decide) (ctX0_init hN gM62) (Nat.le_of_ble_eq_true rfl) rfl rfl ⟨by decide, by decide⟩ rfl rfl ?_
  obtain ⟨M63, gM63, h⟩ := ob h
  refine ct_aast (q := 93) rfl (ctOk_r hN (n + 11)) dX2_init_92 gM63 rfl ?_
  refine ct_iinc_2 (q := 96) (v := 7) dX2_init_93 (by decide) (by decide) rfl rfl ?_
  refine ct_goto (q := 74) dX2_init_96 (by decide) ?_
  refine ct_iload_2 (q := 75) dX2_init_74 rfl ?_
  refine ct_bipush (v := 8) (q := 77) dX2_init_75 (by decide) rfl ?_
  refine ct_icmp_ge (q := 80) (tgt := 99) dX2_init_77 (by decide) rfl (fun z => absurd z (by decide)) (fun _ => ?_)
  refine ct_aload_0 (q := 81) dX2_init_80 rfl ?_
  obtain ⟨a64, ga64, h⟩ := ob h
  refine ct_getP (q := 84) (ctOk_r hN (n + 11)) dX2_init_81 fl_RX2_11 rfl ga64 rfl ?_
  refine ct_iload_2 (q := 85) dX2_init_84 rfl ?_
  obtain ⟨M65, gM65, h⟩ := ob h
  refine ct_newX (c := 0) (q := 88) (m' := (n + 12)) (c2 := 12) (s2 := 83) hN dX2_init_85 ⟨nl_RX2_9, ni_0⟩ (by decide) gM65 rfl rfl ⟨by decide, by decide⟩ rfl rfl ?_
  refine ct_dup (q := 89) dX2_init_88 rfl rfl ?_
  obtain ⟨M66, gM66, h⟩ := ob h
  refine ct_cI0 (q := 92) (m' := (n + 12)) (c2 := 12) (s2 := 83) dX2_init_89 lk_RX2_50 (by decide) (ctX0_init hN gM66) (Nat.le_of_ble_eq_true rfl) rfl rfl ⟨by decide, by decide⟩ rfl rfl ?_
  obtain ⟨M67, gM67, h⟩ := ob h
  refine ct_aast (q := 93) rfl (ctOk_r hN (n + 12)) dX2_init_92 gM67 rfl ?_
  refine ct_iinc_2 (q := 96) (v := 8) dX2_init_93 (by decide) (by decide) rfl rfl ?_
  refine ct_goto (q := 74) dX2_init_96 (by decide) ?_
  refine ct_iload_2 (q := 75) dX2_init_74 rfl ?_
  refine ct_bipush (v := 8) (q := 77) dX2_init_75 (by decide) rfl ?_
  refine ct_icmp_ge (q := 80) (tgt := 99) dX2_init_77 (by decide) rfl (fun _ => ?_) (fun z => absurd (by decide) z)
  refine ct_iconst (v := 0) (q := 100) dX2_init_99 (by decide) rfl ?_
  refine ct_istore_2 (q := 101) dX2_init_100 (by decide) rfl rfl ?_
  refine ct_iload_2 (q := 102) dX2_init_101 rfl ?_
  refine ct_iconst (v := 3) (q := 103) dX2_init_102 (by decide) rfl ?_
  refine ct_icmp_ge (q := 106) (tgt := 119) dX2_init_103 (by decide) rfl (fun z => absurd z (by decide)) (fun _ => ?_)
  refine ct_aload_0 (q := 107) dX2_init_106 rfl ?_
  obtain ⟨a68, ga68, h⟩ := ob h
  refine ct_getP (q := 110) (ctOk_r hN (n + 12)) dX2_init_107 fl_RX2_24 rfl ga68 rfl ?_
  refine ct_iload_2 (q := 111) dX2_init_110 rfl ?_
  refine ct_iconst (v := -1) (q := 112) dX2_init_111 (by decide) rfl ?_
  obtain ⟨M69, gM69, h⟩ := ob h
  refine ct_iast (q := 113) (ctOk_r hN (n + 12)) dX2_init_112 gM69 rfl ?_
  refine ct_iinc_2 (q := 116) (v := 1) dX2_init_113 (by decide) (by decide) rfl rfl ?_
  refine ct_goto (q := 101) dX2_init_116 (by decide) ?_
  refine ct_iload_2 (q := 102) dX2_init_101 rfl ?_
  refine ct_iconst (v := 3) (q := 103) dX2_init_102 (by decide) rfl ?_
  refine ct_icmp_ge (q := 106) (tgt := 119) dX2_init_103 (by decide) rfl (fun z => absurd z (by decide)) (fun _ => ?_)
  refine ct_aload_0 (q := 107) dX2_init_106 rfl ?_
  obtain ⟨a70, ga70, h⟩ := ob h
  refine ct_getP (q := 110) (ctOk_r hN (n + 12)) dX2_init_107 fl_RX2_24 rfl ga70 rfl ?_
  refine ct_iload_2 (q := 111) dX2_init_110 rfl ?_
  refine ct_iconst (v := -1) (q := 112) dX2_init_111 (by decide) rfl ?_
  obtain ⟨M71, gM71, h⟩ := ob h
  refine ct_iast (q := 113) (ctOk_r hN (n + 12)) dX2_init_112 gM71 rfl ?_
  refine ct_iinc_2 (q := 116) (v := 2) dX2_init_113 (by decide) (by decide) rfl rfl ?_
  refine ct_goto (q := 101) dX2_init_116 (by decide) ?_
  refine ct_iload_2 (q := 102) dX2_init_101 rfl ?_
  refine ct_iconst (v := 3) (q := 103) dX2_init_102 (by decide) rfl ?_
  refine ct_icmp_ge (q := 106) (tgt := 119) dX2_init_103 (by decide) rfl (fun z => absurd z (by decide)) (fun _ => ?_)
  refine ct_aload_0 (q := 107) dX2_init_106 rfl ?_
  obtain ⟨a72, ga72, h⟩ := ob h
  refine ct_getP (q := 110) (ctOk_r hN (n + 12)) dX2_init_107 fl_RX2_24 rfl ga72 rfl ?_
  refine ct_iload_2 (q := 111) dX2_init_110 rfl ?_
  refine ct_iconst (v := -1) (q := 112) dX2_init_111 (by decide) rfl ?_
  obtain ⟨M73, gM73, h⟩ := ob h
  refine ct_iast (q := 113) (ctOk_r hN (n + 12)) dX2_init_112 gM73 rfl ?_
  refine ct_iinc_2 (q := 116) (v := 3) dX2_init_113 (by decide) (by decide) rfl rfl ?_
  refine ct_goto (q := 101) dX2_init_116 (by decide) ?_
  refine ct_iload_2 (q := 102) dX2_init_101 rfl ?_
  refine ct_iconst (v := 3) (q := 103) dX2_init_102 (by decide) rfl ?_
  refine ct_icmp_ge (q := 106) (tgt := 119) dX2_init_103 (by decide) rfl (fun _ => ?_) (fun z => absurd (by decide) z)
  exact ct_vret dX2_init_119 rfl ⟨by decide, by decide⟩ (poN_of h)

def fX6_init (a0 n : Nat) (M : ctM) : Option ctM :=
  (pI (kdr kdC n) 6 4 a0 0 M).bind fun M21 =>
  (nA kdC lnC 13 n 4 M21).bind fun M22 =>
  (pP (kdr kdC (n + 1)) 6 5 a0 n M22).bind fun M23 =>
  (nA kdC lnC 14 (n + 1) 5 M23).bind fun M24 =>
  (pP (kdr kdC (n + 2)) 6 6 a0 (n + 1) M24).bind fun M25 =>
  (nA kdC lnC 9 (n + 2) 60 M25).bind fun M26 =>
  (pP (kdr kdC (n + 3)) 6 7 a0 (n + 2) M26).bind fun M27 =>
  (pI (kdr kdC (n + 3)) 6 8 a0 0 M27).bind fun M28 =>
  (nO kdC 5 (n + 3) M28).bind fun M29 =>
  (fX5_init (n + 3) (n + 4) M29).bind fun M30 =>
  (pP (kdr kdC (n + 10)) 6 9 a0 (n + 3) M30).bind fun M31 =>
  (nA kdC lnC 12 (n + 10) 14 M31).bind fun M32 =>
  (nO kdC 1 (n + 11) M32).bind fun M33 =>
  (fX1_init (n + 11) (n + 12) M33).bind fun M34 =>
  (sP (kdr kdC (n + 16)) lnC 12 1 (n + 10) 0 (n + 11) M34).bind fun M35 =>
  (nO kdC 1 (n + 16) M35).bind fun M36 =>
  (fX1_init (n + 16) (n + 17) M36).bind fun M37 =>
  (sP (kdr kdC (n + 21)) lnC 12 1 (n + 10) 1 (n + 16) M37).bind fun M38 =>
  (nO kdC 1 (n + 21) M38).bind fun M39 =>
  (fX1_init (n + 21) (n + 22) M39).bind fun M40 =>
  (sP (kdr kdC (n + 26)) lnC 12 1 (n + 10) 2 (n + 21) M40).bind fun M41 =>
  (nO kdC 1 (n + 26) M41).bind fun M42 =>
  (fX1_init (n + 26) (n + 27) M42).bind fun M43 =>
  (sP (kdr kdC (n + 31)) lnC 12 1 (n + 10) 3 (n + 26) M43).bind fun M44 =>
  (nO kdC 1 (n + 31) M44).bind fun M45 =>
  (fX1_init (n + 31) (n + 32) M45).bind fun M46 =>
  (sP (kdr kdC (n + 36)) lnC 12 1 (n + 10) 4 (n + 31) M46).bind fun M47 =>
  (nO kdC 1 (n + 36) M47).bind fun M48 =>
  (fX1_init (n + 36) (n + 37) M48).bind fun M49 =>
  (sP (kdr kdC (n + 41)) lnC 12 1 (n + 10) 5 (n + 36) M49).bind fun M50 =>
  (nO kdC 1 (n + 41) M50).bind fun M51 =>
  (fX1_init (n + 41) (n + 42) M51).bind fun M52 =>
  (sP (kdr kdC (n + 46)) lnC 12 1 (n + 10) 6 (n + 41) M52).bind fun M53 =>
  (nO kdC 1 (n + 46) M53).bind fun M54 =>
  (fX1_init (n + 46) (n + 47) M54).bind fun M55 =>
  (sP (kdr kdC (n + 51)) lnC 12 1 (n + 10) 7 (n + 46) M55).bind fun M56 =>
  (nO kdC 1 (n + 51) M56).bind fun M57 =>
  (fX1_init (n + 51) (n + 52) M57).bind fun M58 =>
  (sP (kdr kdC (n + 56)) lnC 12 1 (n + 10) 8 (n + 51) M58).bind fun M59 =>
  (nO kdC 1 (n + 56) M59).bind fun M60 =>
  (fX1_init (n + 56) (n + 57) M60).bind fun M61 =>
  (sP (kdr kdC (n + 61)) lnC 12 1 (n + 10) 9 (n + 56) M61).bind fun M62 =>
  (nO kdC 1 (n + 61) M62).bind fun M63 =>
  (fX1_init (n + 61) (n + 62) M63).bind fun M64 =>
  (sP (kdr kdC (n + 66)) lnC 12 1 (n + 10) 10 (n + 61) M64).bind fun M65 =>
  (nO kdC 1 (n + 66) M65).bind fun M66 =>
  (fX1_init (n + 66) (n + 67) M66).bind fun M67 =>
  (sP (kdr kdC (n + 71)) lnC 12 1 (n + 10) 11 (n + 66) M67).bind fun M68 =>
  (nO kdC 1 (n + 71) M68).bind fun M69 =>
  (fX1_init (n + 71) (n + 72) M69).bind fun M70 =>
  (sP (kdr kdC (n + 76)) lnC 12 1 (n + 10) 12 (n + 71) M70).bind fun M71 =>
  (nO kdC 1 (n + 76) M71).bind fun M72 =>
  (fX1_init (n + 76) (n + 77) M72).bind fun M73 =>
  (sP (kdr kdC (n + 81)) lnC 12 1 (n + 10) 13 (n + 76) M73).bind fun M74 =>
  (pP (kdr kdC (n + 81)) 6 0 a0 (n + 10) M74).bind fun M75 =>
  (nO kdC 2 (n + 81) M75).bind fun M76 =>
  (fX2_init (n + 81) (n + 10) (n + 82) M76).bind fun M77 =>
  (pP (kdr kdC (n + 94)) 6 1 a0 (n + 81) M77).bind fun M78 =>
  (nO kdC 2 (n + 94) M78).bind fun M79 =>
  (fX2_init (n + 94) (n + 10) (n + 95) M79).bind fun M80 =>
  (pP (kdr kdC (n + 107)) 6 2 a0 (n + 94) M80).bind fun M81 =>
  (nO kdC 2 (n + 107) M81).bind fun M82 =>
  (fX2_init (n + 107) (n + 10) (n + 108) M82).bind fun M83 =>
  (pP (kdr kdC (n + 120)) 6 3 a0 (n + 107) M83).bind fun M84 =>
  (gP (kdr kdC (n + 120)) 6 5 a0 M84).bind fun a85 =>
  (nO kdC 3 (n + 120) M84).bind fun M86 =>
  (fX3_init (n + 120) (n + 121) M86).bind fun M87 =>
  (sP (kdr kdC (n + 122)) lnC 13 3 a85 0 (n + 120) M87).bind fun M88 =>
  (gP (kdr kdC (n + 122)) 6 5 a0 M88).bind fun a89 =>
  (nO kdC 3 (n + 122) M88).bind fun M90 =>
  (fX3_init (n + 122) (n + 123) M90).bind fun M91 =>
  (sP (kdr kdC (n + 124)) lnC 13 3 a89 1 (n + 122) M91).bind fun M92 =>
  (gP (kdr kdC (n + 124)) 6 5 a0 M92).bind fun a93 =>
  (nO kdC 3 (n + 124) M92).bind fun M94 =>
  (fX3_init (n + 124) (n + 125) M94).bind fun M95 =>
  (sP (kdr kdC (n + 126)) lnC 13 3 a93 2 (n + 124) M95).bind fun M96 =>
  (gP (kdr kdC (n + 126)) 6 5 a0 M96).bind fun a97 =>
  (nO kdC 3 (n + 126) M96).bind fun M98 =>
  (fX3_init (n + 126) (n + 127) M98).bind fun M99 =>
  (sP (kdr kdC (n + 128)) lnC 13 3 a97 3 (n + 126) M99).bind fun M100 =>
  (gP (kdr kdC (n + 128)) 6 6 a0 M100).bind fun a101 =>
  (nO kdC 4 (n + 128) M100).bind fun M102 =>
  (fX4_init (n + 128) (n + 129) M102).bind fun M103 =>
  (sP (kdr kdC (n + 132)) lnC 14 4 a101 0 (n + 128) M103).bind fun M104 =>
  (gP (kdr kdC (n + 132)) 6 6 a0 M104).bind fun a105 =>
  (nO kdC 4 (n + 132) M104).bind fun M106 =>
  (fX4_init (n + 132) (n + 133) M106).bind fun M107 =>
  (sP (kdr kdC (n + 136)) lnC 14 4 a105 1 (n + 132) M107).bind fun M108 =>
  (gP (kdr kdC (n + 136)) 6 6 a0 M108).bind fun a109 =>
  (nO kdC 4 (n + 136) M108).bind fun M110 =>
  (fX4_init (n + 136) (n + 137) M110).bind fun M111 =>
  (sP (kdr kdC (n + 140)) lnC 14 4 a109 2 (n + 136) M111).bind fun M112 =>
  (gP (kdr kdC (n + 140)) 6 6 a0 M112).bind fun a113 =>
  (nO kdC 4 (n + 140) M112).bind fun M114 =>
  (fX4_init (n + 140) (n + 141) M114).bind fun M115 =>
  (sP (kdr kdC (n + 144)) lnC 14 4 a113 3 (n + 140) M115).bind fun M116 =>
  (gP (kdr kdC (n + 144)) 6 6 a0 M116).bind fun a117 =>
  (nO kdC 4 (n + 144) M116).bind fun M118 =>
  (fX4_init (n + 144) (n + 145) M118).bind fun M119 =>
  (sP (kdr kdC (n + 148)) lnC 14 4 a117 4 (n + 144) M119).bind fun M120 =>
  some M120

set_option maxHeartbeats 40000000 in
set_option maxRecDepth 20000 in
theorem ctX6_init {B : ctB} (hN : ctBn B kdC lnC 149) {a0 n : Nat} {M r : ctM} (h : fX6_init a0 n M = some r) : ctC B mX6_init (3, 148, 6631) [.ref a0] n M (poN r (n + 148)) := by
  refine ctC_of (by decide) (Nat.le_of_ble_eq_true rfl) ?_
  show ctV B mX6_init (3, 148, 6631) (poN r (n + 148)) 0 [some (.ref a0), none, none] [] (0, 0) n M
  unfold fX6_init at h
  refine ct_aload_0 (q := 1) dX6_init_0 rfl ?_
  refine ct_obj (q := 4) dX6_init_1 ob_RX6_1 (by decide) (Nat.le_of_ble_eq_true rfl) rfl ?_
  refine ct_aload_0 (q := 5) dX6_init_4 rfl ?_
  refine ct_iconst (v := 0) (q := 6) dX6_init_5 (by decide) rfl ?_
  obtain ⟨M21, gM21, h⟩ := ob h
  refine ct_putI (q := 9) (ctOk_r hN n) dX6_init_6 fl_RX6_7 rfl (by decide) (Or.inr ⟨rfl, by decide⟩) gM21 rfl ?_
  refine ct_aload_0 (q := 10) dX6_init_9 rfl ?_
  refine ct_iconst (v := 4) (q := 11) dX6_init_10 (by decide) rfl ?_
  obtain ⟨M22, gM22, h⟩ := ob h
  refine ct_anewX (t := 13) (q := 14) (m' := (n + 1)) (c2 := 1) (s2 := 4) rfl hN dX6_init_11 nl_RX6_13 (by decide) (by decide) gM22 rfl rfl ⟨by decide, by decide⟩ rfl rfl ?_
  obtain ⟨M23, gM23, h⟩ := ob h
  refine ct_putP (q := 17) (ctOk_r hN (n + 1)) dX6_init_14 fl_RX6_15 rfl (by decide) gM23 rfl ?_
  refine ct_aload_0 (q := 18) dX6_init_17 rfl ?_
  refine ct_iconst (v := 5) (q := 19) dX6_init_18 (by decide) rfl ?_
  obtain ⟨M24, gM24, h⟩ := ob h
  refine ct_anewX (t := 14) (q := 22) (m' := (n + 2)) (c2 := 2) (s2 := 9) rfl hN dX6_init_19 nl_RX6_19 (by decide) (by decide) gM24 rfl rfl ⟨by decide, by decide⟩ rfl rfl ?_
  obtain ⟨M25, gM25, h⟩ := ob h
  refine ct_putP (q := 25) (ctOk_r hN (n + 2)) dX6_init_22 fl_RX6_21 rfl (by decide) gM25 rfl ?_
  refine ct_aload_0 (q := 26) dX6_init_25 rfl ?_
  refine ct_bipush (v := 60) (q := 28) dX6_init_26 (by decide) rfl ?_
  obtain ⟨M26, gM26, h⟩ := ob h
  refine ct_newaX (q := 30) (m' := (n + 3)) (c2 := 3) (s2 := 69) (by decide : (9 = 8 ∧ ArrayType.int = .byte) ∨ (9 = 9 ∧ ArrayType.int = .int) ∨ (9 = 10 ∧ ArrayType.int = .boolean)) hN dX6_init_28 ac_int (by decide) (by decide) gM26 rfl rfl ⟨by decide, by decide⟩ rfl rfl ?_
  obtain ⟨M27, gM27, h⟩ := ob h
  refine ct_putP (q := 33) (ctOk_r hN (n + 3)) dX6_init_30 fl_RX6_25 rfl (by decide) gM27 rfl ?_
  refine ct_aload_0 (q := 34) dX6_init_33 rfl ?_
  refine ct_iconst (v := 0) (q := 35) dX6_init_34 (by decide) rfl ?_
  obtain ⟨M28, gM28, h⟩ := ob h
  refine ct_putI (q := 38) (ctOk_r hN (n + 3)) dX6_init_35 fl_RX6_29 rfl (by decide) (Or.inl rfl) gM28 rfl ?_
  refine ct_aload_0 (q := 39) dX6_init_38 rfl ?_
  obtain ⟨M29, gM29, h⟩ := ob h
  refine ct_newX (c := 5) (q := 42) (m' := (n + 4)) (c2 := 4) (s2 := 76) hN dX6_init_39 ⟨nl_RX6_33, ni_5⟩ (by decide) gM29 rfl rfl ⟨by decide, by decide⟩ rfl rfl ?_
  refine ct_dup (q := 43) dX6_init_42 rfl rfl ?_
  obtain ⟨M30, gM30, h⟩ := ob h
  refine ct_cI0 (q := 46) (m' := (n + 10)) (c2 := 10) (s2 := 563) dX6_init_43 lk_RX6_35 (by decide) (ctX5_init hN gM30) (Nat.le_of_ble_eq_true rfl) rfl rfl ⟨by decide, by decide⟩ rfl rfl ?_
  obtain ⟨M31, gM31, h⟩ := ob h
  refine ct_putP (q := 49) (ctOk_r hN (n + 10)) dX6_init_46 fl_RX6_36 rfl (by decide) gM31 rfl ?_
  refine ct_bipush (v := 14) (q := 51) dX6_init_49 (by decide) rfl ?_
  obtain ⟨M32, gM32, h⟩ := ob h
  refine ct_anewX (t := 12) (q := 54) (m' := (n + 11)) (c2 := 11) (s2 := 577) rfl hN dX6_init_51 nl_RX6_40 (by decide) (by decide) gM32 rfl rfl ⟨by decide, by decide⟩ rfl rfl ?_
  refine ct_astore_1 (q := 55) dX6_init_54 (by decide) rfl rfl ?_
  refine ct_iconst (v := 0) (q := 56) dX6_init_55 (by decide) rfl ?_
  refine ct_istore_2 (q := 57) dX6_init_56 (by decide) rfl rfl ?_
  refine ct_iload_2 (q := 58) dX6_init_57 rfl ?_
  refine ct_bipush (v := 14) (q := 60) dX6_init_58 (by decide) rfl ?_
  refine ct_icmp_ge (q := 63) (tgt := 79) dX6_init_60 (by decide) rfl (fun z => absurd z (by decide)) (fun _ => ?_)
  refine ct_aload_1 (q := 64) dX6_init_63 rfl ?_
  refine ct_iload_2 (q := 65) dX6_init_64 rfl ?_
  obtain ⟨M33, gM33, h⟩ := ob h
  refine ct_newX (c := 1) (q := 68) (m' := (n + 12)) (c2 := 12) (s2 := 584) hN dX6_init_65 ⟨nl_RX6_40, ni_1⟩ (by decide) gM33 rfl rfl ⟨by decide, by decide⟩ rfl rfl ?_
  refine ct_dup (q := 69) dX6_init_68 rfl rfl ?_
  obtain ⟨M34, gM34, h⟩ := ob h
  refine ct_cI0 (q := 72) (m' := (n + 16)) (c2 := 16) (s2 := 968) dX6_init_69 lk_RX6_42 (by decide) (ctX1_init hN gM34) (Nat.le_of_ble_eq_true rfl) rfl rfl ⟨by decide, by decide⟩ rfl rfl ?_
  obtain ⟨M35, gM35, h⟩ := ob h
  refine ct_aast (q := 73) rfl (ctOk_r hN (n + 16)) dX6_init_72 gM35 rfl ?_
  refine ct_iinc_2 (q := 76) (v := 1) dX6_init_73 (by decide) (by decide) rfl rfl ?_
  refine ct_goto (q := 57) dX6_init_76 (by decide) ?_
  refine ct_iload_2 (q := 58) dX6_init_57 rfl ?_
  refine ct_bipush (v := 14) (q := 60) dX6_init_58 (by decide) rfl ?_
  refine ct_icmp_ge (q := 63) (tgt := 79) dX6_init_60 (by decide) rfl (fun z => absurd z (by decide)) (fun _ => ?_)
  refine ct_aload_1 (q := 64) dX6_init_63 rfl ?_
  refine ct_iload_2 (q := 65) dX6_init_64 rfl ?_
  obtain ⟨M36, gM36, h⟩ := ob h
  refine ct_newX (c := 1) (q := 68) (m' := (n + 17)) (c2 := 17) (s2 := 975) hN dX6_init_65 ⟨nl_RX6_40, ni_1⟩ (by decide) gM36 rfl rfl ⟨by decide, by decide⟩ rfl rfl ?_
  refine ct_dup (q := 69) dX6_init_68 rfl rfl ?_
  obtain ⟨M37, gM37, h⟩ := ob h
  refine ct_cI0 (q := 72) (m' := (n + 21)) (c2 := 21) (s2 := 1359) dX6_init_69 lk_RX6_42 (by decide) (ctX1_init hN gM37) (Nat.le_of_ble_eq_true rfl) rfl rfl ⟨by decide, by decide⟩ rfl rfl ?_
  obtain ⟨M38, gM38, h⟩ := ob h
  refine ct_aast (q := 73) rfl (ctOk_r hN (n + 21)) dX6_init_72 gM38 rfl ?_
  refine ct_iinc_2 (q := 76) (v := 2) dX6_init_73 (by decide) (by decide) rfl rfl ?_
  refine ct_goto (q := 57) dX6_init_76 (by decide) ?_
  refine ct_iload_2 (q := 58) dX6_init_57 rfl ?_
  refine ct_bipush (v := 14) (q := 60) dX6_init_58 (by decide) rfl ?_
  refine ct_icmp_ge (q := 63) (tgt := 79) dX6_init_60 (by decide) rfl (fun z => absurd z (by decide)) (fun _ => ?_)
  refine ct_aload_1 (q := 64) dX6_init_63 rfl ?_
  refine ct_iload_2 (q := 65) dX6_init_64 rfl ?_
  obtain ⟨M39, gM39, h⟩ := ob h
  refine ct_newX (c := 1) (q := 68) (m' := (n + 22)) (c2 := 22) (s2 := 1366) hN dX6_init_65 ⟨nl_RX6_40, ni_1⟩ (by decide) gM39 rfl rfl ⟨by decide, by decide⟩ rfl rfl ?_
  refine ct_dup (q := 69) dX6_init_68 rfl rfl ?_
  obtain ⟨M40, gM40, h⟩ := ob h
  refine ct_cI0 (q := 72) (m' := (n + 26)) (c2 := 26) (s2 := 1750) dX6_init_69 lk_RX6_42 (by decide) (ctX1_init hN gM40) (Nat.le_of_ble_eq_true rfl) rfl rfl ⟨by decide, by decide⟩ rfl rfl ?_
  obtain ⟨M41, gM41, h⟩ := ob h
  refine ct_aast (q := 73) rfl (ctOk_r hN (n + 26)) dX6_init_72 gM41 rfl ?_
  refine ct_iinc_2 (q := 76) (v := 3) dX6_init_73 (by decide) (by decide) rfl rfl ?_
  refine ct_goto (q := 57) dX6_init_76 (by decide) ?_
  refine ct_iload_2 (q := 58) dX6_init_57 rfl ?_
  refine ct_bipush (v := 14) (q := 60) dX6_init_58 (by decide) rfl ?_
  refine ct_icmp_ge (q := 63) (tgt := 79) dX6_init_60 (by decide) rfl (fun z => absurd z (by decide)) (fun _ => ?_)
  refine ct_aload_1 (q := 64) dX6_init_63 rfl ?_
  refine ct_iload_2 (q := 65) dX6_init_64 rfl ?_
  obtain ⟨M42, gM42, h⟩ := ob h
  refine ct_newX (c := 1) (q := 68) (m' := (n + 27)) (c2 := 27) (s2 := 1757) hN dX6_init_65 ⟨nl_RX6_40, ni_1⟩ (by decide) gM42 rfl rfl ⟨by decide, by decide⟩ rfl rfl ?_
  refine ct_dup (q := 69) dX6_init_68 rfl rfl ?_
  obtain ⟨M43, gM43, h⟩ := ob h
  refine ct_cI0 (q := 72) (m' := (n + 31)) (c2 := 31) (s2 := 2141) dX6_init_69 lk_RX6_42 (by decide) (ctX1_init hN gM43) (Nat.le_of_ble_eq_true rfl) rfl rfl ⟨by decide, by decide⟩ rfl rfl ?_
  obtain ⟨M44, gM44, h⟩ := ob h
  refine ct_aast (q := 73) rfl (ctOk_r hN (n + 31)) dX6_init_72 gM44 rfl ?_
  refine ct_iinc_2 (q := 76) (v := 4) dX6_init_73 (by decide) (by decide) rfl rfl ?_
  refine ct_goto (q := 57) dX6_init_76 (by decide) ?_
  refine ct_iload_2 (q := 58) dX6_init_57 rfl ?_
  refine ct_bipush (v := 14) (q := 60) dX6_init_58 (by decide) rfl ?_
  refine ct_icmp_ge (q := 63) (tgt := 79) dX6_init_60 (by decide) rfl (fun z => absurd z (by decide)) (fun _ => ?_)
  refine ct_aload_1 (q := 64) dX6_init_63 rfl ?_
  refine ct_iload_2 (q := 65) dX6_init_64 rfl ?_
  obtain ⟨M45, gM45, h⟩ := ob h
  refine ct_newX (c := 1) (q := 68) (m' := (n + 32)) (c2 := 32) (s2 := 2148) hN dX6_init_65 ⟨nl_RX6_40, ni_1⟩ (by decide) gM45 rfl rfl ⟨by decide, by decide⟩ rfl rfl ?_
  refine ct_dup (q := 69) dX6_init_68 rfl rfl ?_
  obtain ⟨M46, gM46, h⟩ := ob h
  refine ct_cI0 (q := 72) (m' := (n + 36)) (c2 := 36) (s2 := 2532) dX6_init_69 lk_RX6_42 (by decide) (ctX1_init hN gM46) (Nat.le_of_ble_eq_true rfl) rfl rfl ⟨by decide, by decide⟩ rfl rfl ?_
  obtain ⟨M47, gM47, h⟩ := ob h
  refine ct_aast (q := 73) rfl (ctOk_r hN (n + 36)) dX6_init_72 gM47 rfl ?_
  refine ct_iinc_2 (q := 76) (v := 5) dX6_init_73 (by decide) (by decide) rfl rfl ?_
  refine ct_goto (q := 57) dX6_init_76 (by decide) ?_
  refine ct_iload_2 (q := 58) dX6_init_57 rfl ?_
  refine ct_bipush (v := 14) (q := 60) dX6_init_58 (by decide) rfl ?_
  refine ct_icmp_ge (q := 63) (tgt := 79) dX6_init_60 (by decide) rfl (fun z => absurd z (by decide)) (fun _ => ?_)
  refine ct_aload_1 (q := 64) dX6_init_63 rfl ?_
  refine ct_iload_2 (q := 65) dX6_init_64 rfl ?_
  obtain ⟨M48, gM48, h⟩ := ob h
  refine ct_newX (c := 1) (q := 68) (m' := (n + 37)) (c2 := 37) (s2 := 2539) hN dX6_init_65 ⟨nl_RX6_40, ni_1⟩ (by decide) gM48 rfl rfl ⟨by decide, by decide⟩ rfl rfl ?_
  refine ct_dup (q := 69) dX6_init_68 rfl rfl ?_
  obtain ⟨M49, gM49, h⟩ := ob h
  refine ct_cI0 (q := 72) (m' := (n + 41)) (c2 := 41) (s2 := 2923) dX6_init_69 lk_RX6_42 (by decide) (ctX1_init hN gM49) (Nat.le_of_ble_eq_true rfl) rfl rfl ⟨by decide, by decide⟩ rfl rfl ?_
  obtain ⟨M50, gM50, h⟩ := ob h
  refine ct_aast (q := 73) rfl (ctOk_r hN (n + 41)) dX6_init_72 gM50 rfl ?_
  refine ct_iinc_2 (q := 76) (v := 6) dX6_init_73 (by decide) (by decide) rfl rfl ?_
  refine ct_goto (q := 57) dX6_init_76 (by decide) ?_
  refine ct_iload_2 (q := 58) dX6_init_57 rfl ?_
  refine ct_bipush (v := 14) (q := 60) dX6_init_58 (by decide) rfl ?_
  refine ct_icmp_ge (q := 63) (tgt := 79) dX6_init_60 (by decide) rfl (fun z => absurd z (by decide)) (fun _ => ?_)
  refine ct_aload_1 (q := 64) dX6_init_63 rfl ?_
  refine ct_iload_2 (q := 65) dX6_init_64 rfl ?_
  obtain ⟨M51, gM51, h⟩ := ob h
  refine ct_newX (c := 1) (q := 68) (m' := (n + 42)) (c2 := 42) (s2 := 2930) hN dX6_init_65 ⟨nl_RX6_40, ni_1⟩ (by decide) gM51 rfl rfl ⟨by decide, by decide⟩ rfl rfl ?_
  refine ct_dup (q := 69) dX6_init_68 rfl rfl ?_
  obtain ⟨M52, gM52, h⟩ := ob h
  refine ct_cI0 (q := 72) (m' := (n + 46)) (c2 := 46) (s2 := 3314) dX6_init_69 lk_RX6_42 (by decide) (ctX1_init hN gM52) (Nat.le_of_ble_eq_true rfl) rfl rfl ⟨by decide, by decide⟩ rfl rfl ?_
  obtain ⟨M53, gM53, h⟩ := ob h
  refine ct_aast (q := 73) rfl (ctOk_r hN (n + 46)) dX6_init_72 gM53 rfl ?_
  refine ct_iinc_2 (q := 76) (v := 7) dX6_init_73 (by decide) (by decide) rfl rfl ?_
  refine ct_goto (q := 57) dX6_init_76 (by decide) ?_
  refine ct_iload_2 (q := 58) dX6_init_57 rfl ?_
  refine ct_bipush (v := 14) (q := 60) dX6_init_58 (by decide) rfl ?_
  refine ct_icmp_ge (q := 63) (tgt := 79) dX6_init_60 (by decide) rfl (fun z => absurd z (by decide)) (fun _ => ?_)
  refine ct_aload_1 (q := 64) dX6_init_63 rfl ?_
  refine ct_iload_2 (q := 65) dX6_init_64 rfl ?_
  obtain ⟨M54, gM54, h⟩ := ob h
  refine ct_newX (c := 1) (q := 68) (m' := (n + 47)) (c2 := 47) (s2 := 3321) hN dX6_init_65 ⟨nl_RX6_40, ni_1⟩ (by decide) gM54 rfl rfl ⟨by decide, by decide⟩ rfl rfl ?_
  refine ct_dup (q := 69) dX6_init_68 rfl rfl ?_
  obtain ⟨M55, gM55, h⟩ := ob h
  refine ct_cI0 (q := 72) (m' := (n + 51)) (c2 := 51) (s2 := 3705) dX6_init_69 lk_RX6_42 (by decide) (ctX1_init hN gM55) (Nat.le_of_ble_eq_true rfl) rfl rfl ⟨by decide, by decide⟩ rfl rfl ?_
  obtain ⟨M56, gM56, h⟩ := ob h
  refine ct_aast (q := 73) rfl (ctOk_r hN (n + 51)) dX6_init_72 gM56 rfl ?_
  refine ct_iinc_2 (q := 76) (v := 8) dX6_init_73 (by decide) (by decide) rfl rfl ?_
  refine ct_goto (q := 57) dX6_init_76 (by decide) ?_
  refine ct_iload_2 (q := 58) dX6_init_57 rfl ?_
  refine ct_bipush (v := 14) (q := 60) dX6_init_58 (by decide) rfl ?_
  refine ct_icmp_ge (q := 63) (tgt := 79) dX6_init_60 (by decide) rfl (fun z => absurd z (by decide)) (fun _ => ?_)
  refine ct_aload_1 (q := 64) dX6_init_63 rfl ?_
  refine ct_iload_2 (q := 65) dX6_init_64 rfl ?_
  obtain ⟨M57, gM57, h⟩ := ob h
  refine ct_newX (c := 1) (q := 68) (m' := (n + 52)) (c2 := 52) (s2 := 3712) hN dX6_init_65 ⟨nl_RX6_40, ni_1⟩ (by decide) gM57 rfl rfl ⟨by decide, by decide⟩ rfl rfl ?_
  refine ct_dup (q := 69) dX6_init_68 rfl rfl ?_
  obtain ⟨M58, gM58, h⟩ := ob h
  refine ct_cI0 (q := 72) (m' := (n + 56)) (c2 := 56) (s2 := 4096) dX6_init_69 lk_RX6_42 (by decide) (ctX1_init hN gM58) (Nat.le_of_ble_eq_true rfl) rfl rfl ⟨by decide, by decide⟩ rfl rfl ?_
  obtain ⟨M59, gM59, h⟩ := ob h
  refine ct_aast (q := 73) rfl (ctOk_r hN (n + 56)) dX6_init_72 gM59 rfl ?_
  refine ct_iinc_2 (q := 76) (v := 9) dX6_init_73 (by decide) (by decide) rfl rfl ?_
  refine ct_goto (q := 57) dX6_init_76 (by decide) ?_
  refine ct_iload_2 (q := 58) dX6_init_57 rfl ?_
  refine ct_bipush (v := 14) (q := 60) dX6_init_58 (by decide) rfl ?_
  refine ct_icmp_ge (q := 63) (tgt := 79) dX6_init_60 (by decide) rfl (fun z => absurd z (by decide)) (fun _ => ?_)
  refine ct_aload_1 (q := 64) dX6_init_63 rfl ?_
  refine ct_iload_2 (q := 65) dX6_init_64 rfl ?_
  obtain ⟨M60, gM60, h⟩ := ob h
  refine ct_newX (c := 1) (q := 68) (m' := (n + 57)) (c2 := 57) (s2 := 4103) hN dX6_init_65 ⟨nl_RX6_40, ni_1⟩ (by decide) gM60 rfl rfl ⟨by decide, by decide⟩ rfl rfl ?_
  refine ct_dup (q := 69) dX6_init_68 rfl rfl ?_
  obtain ⟨M61, gM61, h⟩ := ob h
  refine ct_cI0 (q := 72) (m' := (n + 61)) (c2 := 61) (s2 := 4487) dX6_init_69 lk_RX6_42 (by decide) (ctX1_init hN gM61) (Nat.le_of_ble_eq_true rfl) rfl rfl ⟨by decide, by decide⟩ rfl rfl ?_
  obtain ⟨M62, gM62, h⟩ := ob h
  refine ct_aast (q := 73) rfl (ctOk_r hN (n + 61)) dX6_init_72 gM62 rfl ?_
  refine ct_iinc_2 (q := 76) (v := 10) dX6_init_73 (by decide) (by decide) rfl rfl ?_
  refine ct_goto (q := 57) dX6_init_76 (by decide) ?_
  refine ct_iload_2 (q := 58) dX6_init_57 rfl ?_
  refine ct_bipush (v := 14) (q := 60) dX6_init_58 (by decide) rfl ?_
  refine ct_icmp_ge (q := 63) (tgt := 79) dX6_init_60 (by decide) rfl (fun z => absurd z (by decide)) (fun _ => ?_)
  refine ct_aload_1 (q := 64) dX6_init_63 rfl ?_
  refine ct_iload_2 (q := 65) dX6_init_64 rfl ?_
  obtain ⟨M63, gM63, h⟩ := ob h
  refine ct_newX (c := 1) (q := 68) (m' := (n + 62)) (c2 := 62) (s2 := 4494) hN dX6_init_65 ⟨nl_RX6_40, ni_1⟩ (by decide) gM63 rfl rfl ⟨by decide, by decide⟩ rfl rfl ?_
  refine ct_dup (q := 69) dX6_init_68 rfl rfl ?_
  obtain ⟨M64, gM64, h⟩ := ob h
  refine ct_cI0 (q := 72) (m' := (n + 66)) (c2 := 66) (s2 := 4878) dX6_init_69 lk_RX6_42 (by decide) (ctX1_init hN gM64) (Nat.le_of_ble_eq_true rfl) rfl rfl ⟨by decide, by decide⟩ rfl rfl ?_
  obtain ⟨M65, gM65, h⟩ := ob h
  refine ct_aast (q := 73) rfl (ctOk_r hN (n + 66)) dX6_init_72 gM65 rfl ?_
  refine ct_iinc_2 (q := 76) (v := 11) dX6_init_73 (by decide) (by decide) rfl rfl ?_
  refine ct_goto (q := 57) dX6_init_76 (by decide) ?_
  refine ct_iload_2 (q := 58) dX6_init_57 rfl ?_
  refine ct_bipush (v := 14) (q := 60) dX6_init_58 (by decide) rfl ?_
  refine ct_icmp_ge (q := 63) (tgt := 79) dX6_init_60 (by decide) rfl (fun z => absurd z (by decide)) (fun _ => ?_)
  refine ct_aload_1 (q := 64) dX6_init_63 rfl ?_
  refine ct_iload_2 (q := 65) dX6_init_64 rfl ?_
  obtain ⟨M66, gM66, h⟩ := ob h
  refine ct_newX (c := 1) (q := 68) (m' := (n + 67)) (c2 := 67) (s2 := 4885) hN dX6_init_65 ⟨nl_RX6_40, ni_1⟩ (by decide) gM66 rfl rfl ⟨by decide, by decide⟩ rfl rfl ?_
  refine ct_dup (q := 69) dX6_init_68 rfl rfl ?_
  obtain ⟨M67, gM67, h⟩ := ob h
  refine ct_cI0 (q := 72) (m' := (n + 71)) (c2 := 71) (s2 := 5269) dX6_init_69 lk_RX6_42 (by decide) (ctX1_init hN gM67) (Nat.le_of_ble_eq_true rfl) rfl rfl ⟨by decide, by decide⟩ rfl rfl ?_
  obtain ⟨M68, gM68, h⟩ := ob h
  refine ct_aast (q := 73) rfl (ctOk_r hN (n + 71)) dX6_init_72 gM68 rfl ?_
  refine ct_iinc_2 (q := 76) (v := 12) dX6_init_73 (by decide) (by decide) rfl rfl ?_
  refine ct_goto (q := 57) dX6_init_76 (by decide) ?_
  refine ct_iload_2 (q := 58) dX6_init_57 rfl ?_
  refine ct_bipush (v := 14) (q := 60) dX6_init_58 (by decide) rfl ?_
  refine ct_icmp_ge (q := 63) (tgt := 79) dX6_init_60 (by decide) rfl (fun z => absurd z (by decide)) (fun _ => ?_)
  refine ct_aload_1 (q := 64) dX6_init_63 rfl ?_
  refine ct_iload_2 (q := 65) dX6_init_64 rfl ?_
  obtain ⟨M69, gM69, h⟩ := ob h
  refine ct_newX (c := 1) (q := 68) (m' := (n + 72)) (c2 := 72) (s2 := 5276) hN dX6_init_65 ⟨nl_RX6_40, ni_1⟩ (by decide) gM69 rfl rfl ⟨by decide, by decide⟩ rfl rfl ?_
  refine ct_dup (q := 69) dX6_init_68 rfl rfl ?_
  obtain ⟨M70, gM70, h⟩ := ob h
  refine ct_cI0 (q := 72) (m' := (n + 76)) (c2 := 76) (s2 := 5660) dX6_init_69 lk_RX6_42 (by decide) (ctX1_init hN gM70) (Nat.le_of_ble_eq_true rfl) rfl rfl ⟨by decide, by decide⟩ rfl rfl ?_
  obtain ⟨M71, gM71, h⟩ := ob h
  refine ct_aast (q := 73) rfl (ctOk_r hN (n + 76)) dX6_init_72 gM71 rfl ?_
  refine ct_iinc_2 (q := 76) (v := 13) dX6_init_73 (by decide) (by decide) rfl rfl ?_
  refine ct_goto (q := 57) dX6_init_76 (by decide) ?_
  refine ct_iload_2 (q := 58) dX6_init_57 rfl ?_
  refine ct_bipush (v := 14) (q := 60) dX6_init_58 (by decide) rfl ?_
  refine ct_icmp_ge (q := 63) (tgt := 79) dX6_init_60 (by decide) rfl (fun z => absurd z (by decide)) (fun _ => ?_)
  refine ct_aload_1 (q := 64) dX6_init_63 rfl ?_
  refine ct_iload_2 (q := 65) dX6_init_64 rfl ?_
  obtain ⟨M72, gM72, h⟩ := ob h
  refine ct_newX (c := 1) (q := 68) (m' := (n + 77)) (c2 := 77) (s2 := 5667) hN dX6_init_65 ⟨nl_RX6_40, ni_1⟩ (by decide) gM72 rfl rfl ⟨by decide, by decide⟩ rfl rfl ?_
  refine ct_dup (q := 69) dX6_init_68 rfl rfl ?_
  obtain ⟨M73, gM73, h⟩ := ob h
  refine ct_cI0 (q := 72) (m' := (n + 81)) (c2 := 81) (s2 := 6051) dX6_init_69 lk_RX6_42 (by decide) (ctX1_init hN gM73) (Nat.le_of_ble_eq_true rfl) rfl rfl ⟨by decide, by decide⟩ rfl rfl ?_
  obtain ⟨M74, gM74, h⟩ := ob h
  refine ct_aast (q := 73) rfl (ctOk_r hN (n + 81)) dX6_init_72 gM74 rfl ?_
  refine ct_iinc_2 (q := 76) (v := 14) dX6_init_73 (by decide) (by decide) rfl rfl ?_
  refine ct_goto (q := 57) dX6_init_76 (by decide) ?_
  refine ct_iload_2 (q := 58) dX6_init_57 rfl ?_
  refine ct_bipush (v := 14) (q := 60) dX6_init_58 (by decide) rfl ?_
  refine ct_icmp_ge (q := 63) (tgt := 79) dX6_init_60 (by decide) rfl (fun _ => ?_) (fun z => absurd (by decide) z)
  refine ct_aload_0 (q := 80) dX6_init_79 rfl ?_
  refine ct_aload_1 (q := 81) dX6_init_80 rfl ?_
  obtain ⟨M75, gM75, h⟩ := ob h
  refine ct_putP (q := 84) (ctOk_r hN (n + 81)) dX6_init_81 fl_RX6_43 rfl (by decide) gM75 rfl ?_
  refine ct_aload_0 (q := 85) dX6_init_84 rfl ?_
  obtain ⟨M76, gM76, h⟩ := ob h
  refine ct_newX (c := 2) (q := 88) (m' := (n + 82)) (c2 := 82) (s2 := 6062) hN dX6_init_85 ⟨nl_RX6_47, ni_2⟩ (by decide) gM76 rfl rfl ⟨by decide, by decide⟩ rfl rfl ?_
  refine ct_dup (q := 89) dX6_init_88 rfl rfl ?_
  refine ct_aload_1 (q := 90) dX6_init_89 rfl ?_
  obtain ⟨M77, gM77, h⟩ := ob h
  refine ct_cI1 (q := 93) (m' := (n + 94)) (c2 := 94) (s2 := 6145) dX6_init_90 lk_RX6_49 (by decide) (ctX2_init hN gM77) (Nat.le_of_ble_eq_true rfl) rfl rfl ⟨by decide, by decide⟩ rfl rfl ?_
  obtain ⟨M78, gM78, h⟩ := ob h
  refine ct_putP (q := 96) (ctOk_r hN (n + 94)) dX6_init_93 fl_RX6_52 rfl (by decide) gM78 rfl ?_
  refine ct_aload_0 (q := 97) dX6_init_96 rfl ?_
  obtain ⟨M79, gM79, h⟩ := ob h
  refine ct_newX (c := 2) (q := 100) (m' := (n + 95)) (c2 := 95) (s2 := 6156) hN dX6_init_97 ⟨nl_RX6_47, ni_2⟩ (by decide) gM79 rfl rfl ⟨by decide, by decide⟩ rfl rfl ?_
  refine ct_dup (q := 101) dX6_init_100 rfl rfl ?_
  refine ct_aload_1 (q := 102) dX6_init_101 rfl ?_
  obtain ⟨M80, gM80, h⟩ := ob h
  refine ct_cI1 (q := 105) (m' := (n + 107)) (c2 := 107) (s2 := 6239) dX6_init_102 lk_RX6_49 (by decide) (ctX2_init hN gM80) (Nat.le_of_ble_eq_true rfl) rfl rfl ⟨by decide, by decide⟩ rfl rfl ?_
  obtain ⟨M81, gM81, h⟩ := ob h
  refine ct_putP (q := 108) (ctOk_r hN (n + 107)) dX6_init_105 fl_RX6_56 rfl (by decide) gM81 rfl ?_
  refine ct_aload_0 (q := 109) dX6_init_108 rfl ?_
  obtain ⟨M82, gM82, h⟩ := ob h
  refine ct_newX (c := 2) (q := 112) (m' := (n + 108)) (c2 := 108) (s2 := 6250) hN dX6_init_109 ⟨nl_RX6_47, ni_2⟩ (by decide) gM82 rfl rfl ⟨by decide, by decide⟩ rfl rfl ?_
  refine ct_dup (q := 113) dX6_init_112 rfl rfl ?_
  refine ct_aload_1 (q := 114) dX6_init_113 rfl ?_
  obtain ⟨M83, gM83, h⟩ := ob h
  refine ct_cI1 (q := 117) (m' := (n + 120)) (c2 := 120) (s2 := 6333) dX6_init_114 lk_RX6_49 (by decide) (ctX2_init hN gM83) (Nat.le_of_ble_eq_true rfl) rfl rfl ⟨by decide, by decide⟩ rfl rfl ?_
  obtain ⟨M84, gM84, h⟩ := ob h
  refine ct_putP (q := 120) (ctOk_r hN (n + 120)) dX6_init_117 fl_RX6_59 rfl (by decide) gM84 rfl ?_
  refine ct_iconst (v := 0) (q := 121) dX6_init_120 (by decide) rfl ?_
  refine ct_istore_2 (q := 122) dX6_init_121 (by decide) rfl rfl ?_
  refine ct_iload_2 (q := 123) dX6_init_122 rfl ?_
  refine ct_iconst (v := 4) (q := 124) dX6_init_123 (by decide) rfl ?_
  refine ct_icmp_ge (q := 127) (tgt := 146) dX6_init_124 (by decide) rfl (fun z => absurd z (by decide)) (fun _ => ?_)
  refine ct_aload_0 (q := 128) dX6_init_127 rfl ?_
  obtain ⟨a85, ga85, h⟩ := ob h
  refine ct_getP (q := 131) (ctOk_r hN (n + 120)) dX6_init_128 fl_RX6_15 rfl ga85 rfl ?_
  refine ct_iload_2 (q := 132) dX6_init_131 rfl ?_
  obtain ⟨M86, gM86, h⟩ := ob h
  refine ct_newX (c := 3) (q := 135) (m' := (n + 121)) (c2 := 121) (s2 := 6336) hN dX6_init_132 ⟨nl_RX6_13, ni_3⟩ (by decide) gM86 rfl rfl ⟨by decide, by decide⟩ rfl rfl ?_
  refine ct_dup (q := 136) dX6_init_135 rfl rfl ?_
  obtain ⟨M87, gM87, h⟩ := ob h
  refine ct_cI0 (q := 139) (m' := (n + 122)) (c2 := 122) (s2 := 6360) dX6_init_136 lk_RX6_62 (by decide) (ctX3_init hN gM87) (Nat.le_of_ble_eq_true rfl) rfl rfl ⟨by decide, by decide⟩ rfl rfl ?_
  obtain ⟨M88, gM88, h⟩ := ob h
  refine ct_aast (q := 140) rfl (ctOk_r hN (n + 122)) dX6_init_139 gM88 rfl ?_
  refine ct_iinc_2 (q := 143) (v := 1) dX6_init_140 (by decide) (by decide) rfl rfl ?_
  refine ct_goto (q := 122) dX6_init_143 (by decide) ?_
  refine ct_iload_2 (q := 123) dX6_init_122 rfl ?_
  refine ct_iconst (v := 4) (q := 124) dX6_init_123 (by decide) rfl ?_
  refine ct_icmp_ge (q := 127) (tgt := 146) dX6_init_124 (by decide) rfl (fun z => absurd z (by decide)) (fun _ => ?_)
  refine ct_aload_0 (q := 128) dX6_init_127 rfl ?_
  obtain ⟨a89, ga89, h⟩ := ob h
  refine ct_getP (q := 131) (ctOk_r hN (n + 122)) dX6_init_128 fl_RX6_15 rfl ga89 rfl ?_
  refine ct_iload_2 (q := 132) dX6_init_131 rfl ?_
  obtain ⟨M90, gM90, h⟩ := ob h
  refine ct_newX (c := 3) (q := 135) (m' := (n + 123)) (c2 := 123) (s2 := 6363) hN dX6_init_132 ⟨nl_RX6_13, ni_3⟩ (by decide) gM90 rfl rfl ⟨by decide, by decide⟩ rfl rfl ?_
  refine ct_dup (q := 136) dX6_init_135 rfl rfl ?_
  obtain ⟨M91, gM91, h⟩ := ob h
  refine ct_cI0 (q := 139) (m' := (n + 124)) (c2 := 124) (s2 := 6387) dX6_init_136 lk_RX6_62 (by decide) (ctX3_init hN gM91) (Nat.le_of_ble_eq_true rfl) rfl rfl ⟨by decide, by decide⟩ rfl rfl ?_
  obtain ⟨M92, gM92, h⟩ := ob h
  refine ct_aast (q := 140) rfl (ctOk_r hN (n + 124)) dX6_init_139 gM92 rfl ?_
  refine ct_iinc_2 (q := 143) (v := 2) dX6_init_140 (by decide) (by decide) rfl rfl ?_
  refine ct_goto (q := 122) dX6_init_143 (by decide) ?_
  refine ct_iload_2 (q := 123) dX6_init_122 rfl ?_
  refine ct_iconst (v := 4) (q := 124) dX6_init_123 (by decide) rfl ?_
  refine ct_icmp_ge (q := 127) (tgt := 146) dX6_init_124 (by decide) rfl (fun z => absurd z (by decide)) (fun _ => ?_)
  refine ct_aload_0 (q := 128) dX6_init_127 rfl ?_
  obtain ⟨a93, ga93, h⟩ := ob h
  refine ct_getP (q := 131) (ctOk_r hN (n + 124)) dX6_init_128 fl_RX6_15 rfl ga93 rfl ?_
  refine ct_iload_2 (q := 132) dX6_init_131 rfl ?_
  obtain ⟨M94, gM94, h⟩ := ob h
  refine ct_newX (c := 3) (q := 135) (m' := (n + 125)) (c2 := 125) (s2 := 6390) hN dX6_init_132 ⟨nl_RX6_13, ni_3⟩ (by decide) gM94 rfl rfl ⟨by decide, by decide⟩ rfl rfl ?_
  refine ct_dup (q := 136) dX6_init_135 rfl rfl ?_
  obtain ⟨M95, gM95, h⟩ := ob h
  refine ct_cI0 (q := 139) (m' := (n + 126)) (c2 := 126) (s2 := 6414) dX6_init_136 lk_RX6_62 (by decide) (ctX3_init hN gM95) (Nat.le_of_ble_eq_true rfl) rfl rfl ⟨by decide, by decide⟩ rfl rfl ?_
  obtain ⟨M96, gM96, h⟩ := ob h
  refine ct_aast (q := 140) rfl (ctOk_r hN (n + 126)) dX6_init_139 gM96 rfl ?_
  refine ct_iinc_2 (q := 143) (v := 3) dX6_init_140 (by decide) (by decide) rfl rfl ?_
  refine ct_goto (q := 122) dX6_init_143 (by decide) ?_
  refine ct_iload_2 (q := 123) dX6_init_122 rfl ?_
  refine ct_iconst (v := 4) (q := 124) dX6_init_123 (by decide) rfl ?_
  refine ct_icmp_ge (q := 127) (tgt := 146) dX6_init_124 (by decide) rfl (fun z => absurd z (by decide)) (fun _ => ?_)
  refine ct_aload_0 (q := 128) dX6_init_127 rfl ?_
  obtain ⟨a97, ga97, h⟩ := ob h
  refine ct_getP (q := 131) (ctOk_r hN (n + 126)) dX6_init_128 fl_RX6_15 rfl ga97 rfl ?_
  refine ct_iload_2 (q := 132) dX6_init_131 rfl ?_
  obtain ⟨M98, gM98, h⟩ := ob h
  refine ct_newX (c := 3) (q := 135) (m' := (n + 127)) (c2 := 127) (s2 := 6417) hN dX6_init_132 ⟨nl_RX6_13, ni_3⟩ (by decide) gM98 rfl rfl ⟨by decide, by decide⟩ rfl rfl ?_
  refine ct_dup (q := 136) dX6_init_135 rfl rfl ?_
  obtain ⟨M99, gM99, h⟩ := ob h
  refine ct_cI0 (q := 139) (m' := (n + 128)) (c2 := 128) (s2 := 6441) dX6_init_136 lk_RX6_62 (by decide) (ctX3_init hN gM99) (Nat.le_of_ble_eq_true rfl) rfl rfl ⟨by decide, by decide⟩ rfl rfl ?_
  obtain ⟨M100, gM100, h⟩ := ob h
  refine ct_aast (q := 140) rfl (ctOk_r hN (n + 128)) dX6_init_139 gM100 rfl ?_
  refine ct_iinc_2 (q := 143) (v := 4) dX6_init_140 (by decide) (by decide) rfl rfl ?_
  refine ct_goto (q := 122) dX6_init_143 (by decide) ?_
  refine ct_iload_2 (q := 123) dX6_init_122 rfl ?_
  refine ct_iconst (v := 4) (q := 124) dX6_init_123 (by decide) rfl ?_
  refine ct_icmp_ge (q := 127) (tgt := 146) dX6_init_124 (by decide) rfl (fun _ => ?_) (fun z => absurd (by decide) z)
  refine ct_iconst (v := 0) (q := 147) dX6_init_146 (by decide) rfl ?_
  refine ct_istore_2 (q := 148) dX6_init_147 (by decide) rfl rfl ?_
  refine ct_iload_2 (q := 149) dX6_init_148 rfl ?_
  refine ct_iconst (v := 5) (q := 150) dX6_init_149 (by decide) rfl ?_
  refine ct_icmp_ge (q := 153) (tgt := 172) dX6_init_150 (by decide) rfl (fun z => absurd z (by decide)) (fun _ => ?_)
  refine ct_aload_0 (q := 154) dX6_init_153 rfl ?_
  obtain ⟨a101, ga101, h⟩ := ob h
  refine ct_getP (q := 157) (ctOk_r hN (n + 128)) dX6_init_154 fl_RX6_21 rfl ga101 rfl ?_
  refine ct_iload_2 (q := 158) dX6_init_157 rfl ?_
  obtain ⟨M102, gM102, h⟩ := ob h
  refine ct_newX (c := 4) (q := 161) (m' := (n + 129)) (c2 := 129) (s2 := 6445) hN dX6_init_158 ⟨nl_RX6_19, ni_4⟩ (by decide) gM102 rfl rfl ⟨by decide, by decide⟩ rfl rfl ?_
  refine ct_dup (q := 162) dX6_init_161 rfl rfl ?_
  obtain ⟨M103, gM103, h⟩ := ob h
  refine ct_cI0 (q := 165) (m' := (n + 132)) (c2 := 132) (s2 := 6479) dX6_init_162 lk_RX6_63 (by decide) (ctX4_init hN gM103) (Nat.le_of_ble_eq_true rfl) rfl rfl ⟨by decide, by decide⟩ rfl rfl ?_
  obtain ⟨M104, gM104, h⟩ := ob h
  refine ct_aast (q := 166) rfl (ctOk_r hN (n + 132)) dX6_init_165 gM104 rfl ?_
  refine ct_iinc_2 (q := 169) (v := 1) dX6_init_166 (by decide) (by decide) rfl rfl ?_
  refine ct_goto (q := 148) dX6_init_169 (by decide) ?_
  refine ct_iload_2 (q := 149) dX6_init_148 rfl ?_
  refine ct_iconst (v := 5) (q := 150) dX6_init_149 (by decide) rfl ?_
  refine ct_icmp_ge (q := 153) (tgt := 172) dX6_init_150 (by decide) rfl (fun z => absurd z (by decide)) (fun _ => ?_)
  refine ct_aload_0 (q := 154) dX6_init_153 rfl ?_
  obtain ⟨a105, ga105, h⟩ := ob h
  refine ct_getP (q := 157) (ctOk_r hN (n + 132)) dX6_init_154 fl_RX6_21 rfl ga105 rfl ?_
  refine ct_iload_2 (q := 158) dX6_init_157 rfl ?_
  obtain ⟨M106, gM106, h⟩ := ob h
  refine ct_newX (c := 4) (q := 161) (m' := (n + 133)) (c2 := 133) (s2 := 6483) hN dX6_init_158 ⟨nl_RX6_19, ni_4⟩ (by decide) gM106 rfl rfl ⟨by decide, by decide⟩ rfl rfl ?_
  refine ct_dup (q := 162) dX6_init_161 rfl rfl ?_
  obtain ⟨M107, gM107, h⟩ := ob h
  refine ct_cI0 (q := 165) (m' := (n + 136)) (c2 := 136) (s2 := 6517) dX6_init_162 lk_RX6_63 (by decide) (ctX4_init hN gM107) (Nat.le_of_ble_eq_true rfl) rfl rfl ⟨by decide, by decide⟩ rfl rfl ?_
  obtain ⟨M108, gM108, h⟩ := ob h
  refine ct_aast (q := 166) rfl (ctOk_r hN (n + 136)) dX6_init_165 gM108 rfl ?_
  refine ct_iinc_2 (q := 169) (v := 2) dX6_init_166 (by decide) (by decide) rfl rfl ?_
  refine ct_goto (q := 148) dX6_init_169 (by decide) ?_
  refine ct_iload_2 (q := 149) dX6_init_148 rfl ?_
  refine ct_iconst (v := 5) (q := 150) dX6_init_149 (by decide) rfl ?_
  refine ct_icmp_ge (q := 153) (tgt := 172) dX6_init_150 (by decide) rfl (fun z => absurd z (by decide)) (fun _ => ?_)
  refine ct_aload_0 (q := 154) dX6_init_153 rfl ?_
  obtain ⟨a109, ga109, h⟩ := ob h
  refine ct_getP (q := 157) (ctOk_r hN (n + 136)) dX6_init_154 fl_RX6_21 rfl ga109 rfl ?_
  refine ct_iload_2 (q := 158) dX6_init_157 rfl ?_
  obtain ⟨M110, gM110, h⟩ := ob h
  refine ct_newX (c := 4) (q := 161) (m' := (n + 137)) (c2 := 137) (s2 := 6521) hN dX6_init_158 ⟨nl_RX6_19, ni_4⟩ (by decide) gM110 rfl rfl ⟨by decide, by decide⟩ rfl rfl ?_
  refine ct_dup (q := 162) dX6_init_161 rfl rfl ?_
  obtain ⟨M111, gM111, h⟩ := ob h
  refine ct_cI0 (q := 165) (m' := (n + 140)) (c2 := 140) (s2 := 6555) dX6_init_162 lk_RX6_63 (by decide) (ctX4_init hN gM111) (Nat.le_of_ble_eq_true rfl) rfl rfl ⟨by decide, by decide⟩ rfl rfl ?_
  obtain ⟨M112, gM112, h⟩ := ob h
  refine ct_aast (q := 166) rfl (ctOk_r hN (n + 140)) dX6_init_165 gM112 rfl ?_
  refine ct_iinc_2 (q := 169) (v := 3) dX6_init_166 (by decide) (by decide) rfl rfl ?_
  refine ct_goto (q := 148) dX6_init_169 (by decide) ?_
  refine ct_iload_2 (q := 149) dX6_init_148 rfl ?_
  refine ct_iconst (v := 5) (q := 150) dX6_init_149 (by decide) rfl ?_
  refine ct_icmp_ge (q := 153) (tgt := 172) dX6_init_150 (by decide) rfl (fun z => absurd z (by decide)) (fun _ => ?_)
  refine ct_aload_0 (q := 154) dX6_init_153 rfl ?_
  obtain ⟨a113, ga113, h⟩ := ob h
  refine ct_getP (q := 157) (ctOk_r hN (n + 140)) dX6_init_154 fl_RX6_21 rfl ga113 rfl ?_
  refine ct_iload_2 (q := 158) dX6_init_157 rfl ?_
  obtain ⟨M114, gM114, h⟩ := ob h
  refine ct_newX (c := 4) (q := 161) (m' := (n + 141)) (c2 := 141) (s2 := 6559) hN dX6_init_158 ⟨nl_RX6_19, ni_4⟩ (by decide) gM114 rfl rfl ⟨by decide, by decide⟩ rfl rfl ?_
  refine ct_dup (q := 162) dX6_init_161 rfl rfl ?_
  obtain ⟨M115, gM115, h⟩ := ob h
  refine ct_cI0 (q := 165) (m' := (n + 144)) (c2 := 144) (s2 := 6593) dX6_init_162 lk_RX6_63 (by decide) (ctX4_init hN gM115) (Nat.le_of_ble_eq_true rfl) rfl rfl ⟨by decide, by decide⟩ rfl rfl ?_
  obtain ⟨M116, gM116, h⟩ := ob h
  refine ct_aast (q := 166) rfl (ctOk_r hN (n + 144)) dX6_init_165 gM116 rfl ?_
  refine ct_iinc_2 (q := 169) (v := 4) dX6_init_166 (by decide) (by decide) rfl rfl ?_
  refine ct_goto (q := 148) dX6_init_169 (by decide) ?_
  refine ct_iload_2 (q := 149) dX6_init_148 rfl ?_
  refine ct_iconst (v := 5) (q := 150) dX6_init_149 (by decide) rfl ?_
  refine ct_icmp_ge (q := 153) (tgt := 172) dX6_init_150 (by decide) rfl (fun z => absurd z (by decide)) (fun _ => ?_)
  refine ct_aload_0 (q := 154) dX6_init_153 rfl ?_
  obtain ⟨a117, ga117, h⟩ := ob h
  refine ct_getP (q := 157) (ctOk_r hN (n + 144)) dX6_init_154 fl_RX6_21 rfl ga117 rfl ?_
  refine ct_iload_2 (q := 158) dX6_init_157 rfl ?_
  obtain ⟨M118, gM118, h⟩ := ob h
  refine ct_newX (c := 4) (q := 161) (m' := (n + 145)) (c2 := 145) (s2 := 6597) hN dX6_init_158 ⟨nl_RX6_19, ni_4⟩ (by decide) gM118 rfl rfl ⟨by decide, by decide⟩ rfl rfl ?_
  refine ct_dup (q := 162) dX6_init_161 rfl rfl ?_
  obtain ⟨M119, gM119, h⟩ := ob h
  refine ct_cI0 (q := 165) (m' := (n + 148)) (c2 := 148) (s2 := 6631) dX6_init_162 lk_RX6_63 (by decide) (ctX4_init hN gM119) (Nat.le_of_ble_eq_true rfl) rfl rfl ⟨by decide, by decide⟩ rfl rfl ?_
  obtain ⟨M120, gM120, h⟩ := ob h
  refine ct_aast (q := 166) rfl (ctOk_r hN (n + 148)) dX6_init_165 gM120 rfl ?_
  refine ct_iinc_2 (q := 169) (v := 5) dX6_init_166 (by decide) (by decide) rfl rfl ?_
  refine ct_goto (q := 148) dX6_init_169 (by decide) ?_
  refine ct_iload_2 (q := 149) dX6_init_148 rfl ?_
  refine ct_iconst (v := 5) (q := 150) dX6_init_149 (by decide) rfl ?_
  refine ct_icmp_ge (q := 153) (tgt := 172) dX6_init_150 (by decide) rfl (fun _ => ?_) (fun z => absurd (by decide) z)
  exact ct_vret dX6_init_172 rfl ⟨by decide, by decide⟩ (poN_of h)

def fX7_init (a0 n : Nat) (M : ctM) : Option ctM :=
  (nA kdM lnM 9 n 3070 M).bind fun M21 =>
  (pP (kdr kdM (n + 1)) 7 0 a0 n M21).bind fun M22 =>
  (nA kdM lnM 9 (n + 1) 3070 M22).bind fun M23 =>
  (pP (kdr kdM (n + 2)) 7 1 a0 (n + 1) M23).bind fun M24 =>
  (nA kdM lnM 9 (n + 2) 3070 M24).bind fun M25 =>
  (pP (kdr kdM (n + 3)) 7 2 a0 (n + 2) M25).bind fun M26 =>
  (nA kdM lnM 9 (n + 3) 4 M26).bind fun M27 =>
  (pP (kdr kdM (n + 4)) 7 4 a0 (n + 3) M27).bind fun M28 =>
  (nA kdM lnM 9 (n + 4) 4 M28).bind fun M29 =>
  (pP (kdr kdM (n + 5)) 7 5 a0 (n + 4) M29).bind fun M30 =>
  (nA kdM lnM 9 (n + 5) 96 M30).bind fun M31 =>
  (pP (kdr kdM (n + 6)) 7 6 a0 (n + 5) M31).bind fun M32 =>
  (nA kdM lnM 9 (n + 6) 5 M32).bind fun M33 =>
  (pP (kdr kdM (n + 7)) 7 7 a0 (n + 6) M33).bind fun M34 =>
  (nA kdM lnM 9 (n + 7) 5 M34).bind fun M35 =>
  (pP (kdr kdM (n + 8)) 7 8 a0 (n + 7) M35).bind fun M36 =>
  (nA kdM lnM 9 (n + 8) 5 M36).bind fun M37 =>
  (pP (kdr kdM (n + 9)) 7 9 a0 (n + 8) M37).bind fun M38 =>
  (nA kdM lnM 9 (n + 9) 5 M38).bind fun M39 =>
  (pP (kdr kdM (n + 10)) 7 10 a0 (n + 9) M39).bind fun M40 =>
  (nA kdM lnM 9 (n + 10) 120 M40).bind fun M41 =>
  (pP (kdr kdM (n + 11)) 7 11 a0 (n + 10) M41).bind fun M42 =>
  (nA kdM lnM 9 (n + 11) 8 M42).bind fun M43 =>
  (pP (kdr kdM (n + 12)) 7 12 a0 (n + 11) M43).bind fun M44 =>
  (nA kdM lnM 10 (n + 12) 120 M44).bind fun M45 =>
  (pP (kdr kdM (n + 13)) 7 13 a0 (n + 12) M45).bind fun M46 =>
  (nA kdM lnM 9 (n + 13) 70 M46).bind fun M47 =>
  (pP (kdr kdM (n + 14)) 7 16 a0 (n + 13) M47).bind fun M48 =>
  (nA kdM lnM 9 (n + 14) 96 M48).bind fun M49 =>
  (pP (kdr kdM (n + 15)) 7 17 a0 (n + 14) M49).bind fun M50 =>
  (nA kdM lnM 9 (n + 15) 128 M50).bind fun M51 =>
  (pP (kdr kdM (n + 16)) 7 29 a0 (n + 15) M51).bind fun M52 =>
  (nA kdM lnM 9 (n + 16) 100 M52).bind fun M53 =>
  (pP (kdr kdM (n + 17)) 7 30 a0 (n + 16) M53).bind fun M54 =>
  (nA kdM lnM 9 (n + 17) 24 M54).bind fun M55 =>
  (pP (kdr kdM (n + 18)) 7 31 a0 (n + 17) M55).bind fun M56 =>
  (nA kdM lnM 9 (n + 18) 60 M56).bind fun M57 =>
  (pP (kdr kdM (n + 19)) 7 32 a0 (n + 18) M57).bind fun M58 =>
  (nA kdM lnM 9 (n + 19) 60 M58).bind fun M59 =>
  (pP (kdr kdM (n + 20)) 7 34 a0 (n + 19) M59).bind fun M60 =>
  (gP (kdr kdM (n + 20)) 7 0 a0 M60).bind fun a61 =>
  (sI (kdr kdM (n + 20)) lnM 9 a61 3 4 M60).bind fun M62 =>
  (gP (kdr kdM (n + 20)) 7 0 a0 M62).bind fun a63 =>
  (sI (kdr kdM (n + 20)) lnM 9 a63 4 9 M62).bind fun M64 =>
  (gP (kdr kdM (n + 20)) 7 0 a0 M64).bind fun a65 =>
  (sI (kdr kdM (n + 20)) lnM 9 a65 5 1 M64).bind fun M66 =>
  (gP (kdr kdM (n + 20)) 7 4 a0 M66).bind fun a67 =>
  (sI (kdr kdM (n + 20)) lnM 9 a67 0 (-1) M66).bind fun M68 =>
  (gP (kdr kdM (n + 20)) 7 4 a0 M68).bind fun a69 =>
  (sI (kdr kdM (n + 20)) lnM 9 a69 1 (-1) M68).bind fun M70 =>
  (gP (kdr kdM (n + 20)) 7 4 a0 M70).bind fun a71 =>
  (sI (kdr kdM (n + 20)) lnM 9 a71 2 (-1) M70).bind fun M72 =>
  (gP (kdr kdM (n + 20)) 7 4 a0 M72).bind fun a73 =>
  (sI (kdr kdM (n + 20)) lnM 9 a73 3 (-1) M72).bind fun M74 =>
  some M74

set_option maxHeartbeats 40000000 in
set_option maxRecDepth 20000 in
theorem ctX7_init {B : ctB} (hN : ctBn B kdM lnM 21) {a0 n : Nat} {M r : ctM} (h : fX7_init a0 n M = some r) : ctC B mX7_init (1, 20, 10120) [.ref a0] n M (poN r (n + 20)) := by
  refine ctC_of (by decide) (Nat.le_of_ble_eq_true rfl) ?_
  show ctV B mX7_init (1, 20, 10120) (poN r (n + 20)) 0 [some (.ref a0), none] [] (0, 0) n M
  unfold fX7_init at h
  refine ct_aload_0 (q := 1) dX7_init_0 rfl ?_
  refine ct_obj (q := 4) dX7_init_1 ob_RX7_1 (by decide) (Nat.le_of_ble_eq_true rfl) rfl ?_
  refine ct_aload_0 (q := 5) dX7_init_4 rfl ?_
  refine ct_sipush (v := 3070) (q := 8) dX7_init_5 (by decide) rfl ?_
  obtain ⟨M21, gM21, h⟩ := ob h
  refine ct_newaX (q := 10) (m' := (n + 1)) (c2 := 1) (s2 := 3070) (by decide : (9 = 8 ∧ ArrayType.int = .byte) ∨ (9 = 9 ∧ ArrayType.int = .int) ∨ (9 = 10 ∧ ArrayType.int = .boolean)) hN dX7_init_8 ac_int (by decide) (by decide) gM21 rfl rfl ⟨by decide, by decide⟩ rfl rfl ?_
  obtain ⟨M22, gM22, h⟩ := ob h
  refine ct_putP (q := 13) (ctOk_r hN (n + 1)) dX7_init_10 fl_RX7_7 rfl (by decide) gM22 rfl ?_
  refine ct_aload_0 (q := 14) dX7_init_13 rfl ?_
  refine ct_sipush (v := 3070) (q := 17) dX7_init_14 (by decide) rfl ?_
  obtain ⟨M23, gM23, h⟩ := ob h
  refine ct_newaX (q := 19) (m' := (n + 2)) (c2 := 2) (s2 := 6140) (by decide : (9 = 8 ∧ ArrayType.int = .byte) ∨ (9 = 9 ∧ ArrayType.int = .int) ∨ (9 = 10 ∧ ArrayType.int = .boolean)) hN dX7_init_17 ac_int (by decide) (by decide) gM23 rfl rfl ⟨by decide, by decide⟩ rfl rfl ?_
  obtain ⟨M24, gM24, h⟩ := ob h
  refine ct_putP (q := 22) (ctOk_r hN (n + 2)) dX7_init_19 fl_RX7_13 rfl (by decide) gM24 rfl ?_
  refine ct_aload_0 (q := 23) dX7_init_22 rfl ?_
  refine ct_sipush (v := 3070) (q := 26) dX7_init_23 (by decide) rfl ?_
  obtain ⟨M25, gM25, h⟩ := ob h
  refine ct_newaX (q := 28) (m' := (n + 3)) (c2 := 3) (s2 := 9210) (by decide : (9 = 8 ∧ ArrayType.int = .byte) ∨ (9 = 9 ∧ ArrayType.int = .int) ∨ (9 = 10 ∧ ArrayType.int = .boolean)) hN dX7_init_26 ac_int (by decide) (by decide) gM25 rfl rfl ⟨by decide, by decide⟩ rfl rfl ?_
  obtain ⟨M26, gM26, h⟩ := ob h
  refine ct_putP (q := 31) (ctOk_r hN (n + 3)) dX7_init_28 fl_RX7_16 rfl (by decide) gM26 rfl ?_
  refine ct_aload_0 (q := 32) dX7_init_31 rfl ?_
  refine ct_iconst (v := 4) (q := 33) dX7_init_32 (by decide) rfl ?_
  obtain ⟨M27, gM27, h⟩ := ob h
  refine ct_newaX (q := 35) (m' := (n + 4)) (c2 := 4) (s2 := 9214) (by decide : (9 = 8 ∧ ArrayType.int = .byte) ∨ (9 = 9 ∧ ArrayType.int = .int) ∨ (9 = 10 ∧ ArrayType.int = .boolean)) hN dX7_init_33 ac_int (by decide) (by decide) gM27 rfl rfl ⟨by decide, by decide⟩ rfl rfl ?_
  obtain ⟨M28, gM28, h⟩ := ob h
  refine ct_putP (q := 38) (ctOk_r hN (n + 4)) dX7_init_35 fl_RX7_19 rfl (by decide) gM28 rfl ?_
  refine ct_aload_0 (q := 39) dX7_init_38 rfl ?_
  refine ct_iconst (v := 4) (q := 40) dX7_init_39 (by decide) rfl ?_
  obtain ⟨M29, gM29, h⟩ := ob h
  refine ct_newaX (q := 42) (m' := (n + 5)) (c2 := 5) (s2 := 9218) (by decide : (9 = 8 ∧ ArrayType.int = .byte) ∨ (9 = 9 ∧ ArrayType.int = .int) ∨ (9 = 10 ∧ ArrayType.int = .boolean)) hN dX7_init_40 ac_int (by decide) (by decide) gM29 rfl rfl ⟨by decide, by decide⟩ rfl rfl ?_
  obtain ⟨M30, gM30, h⟩ := ob h
  refine ct_putP (q := 45) (ctOk_r hN (n + 5)) dX7_init_42 fl_RX7_22 rfl (by decide) gM30 rfl ?_
  refine ct_aload_0 (q := 46) dX7_init_45 rfl ?_
  refine ct_bipush (v := 96) (q := 48) dX7_init_46 (by decide) rfl ?_
  obtain ⟨M31, gM31, h⟩ := ob h
  refine ct_newaX (q := 50) (m' := (n + 6)) (c2 := 6) (s2 := 9314) (by decide : (9 = 8 ∧ ArrayType.int = .byte) ∨ (9 = 9 ∧ ArrayType.int = .int) ∨ (9 = 10 ∧ ArrayType.int = .boolean)) hN dX7_init_48 ac_int (by decide) (by decide) gM31 rfl rfl ⟨by decide, by decide⟩ rfl rfl ?_
  obtain ⟨M32, gM32, h⟩ := ob h
  refine ct_putP (q := 53) (ctOk_r hN (n + 6)) dX7_init_50 fl_RX7_25 rfl (by decide) gM32 rfl ?_
  refine ct_aload_0 (q := 54) dX7_init_53 rfl ?_
  refine ct_iconst (v := 5) (q := 55) dX7_init_54 (by decide) rfl ?_
  obtain ⟨M33, gM33, h⟩ := ob h
  refine ct_newaX (q := 57) (m' := (n + 7)) (c2 := 7) (s2 := 9319) (by decide : (9 = 8 ∧ ArrayType.int = .byte) ∨ (9 = 9 ∧ ArrayType.int = .int) ∨ (9 = 10 ∧ ArrayType.int = .boolean)) hN dX7_init_55 ac_int (by decide) (by decide) gM33 rfl rfl ⟨by decide, by decide⟩ rfl rfl ?_
  obtain ⟨M34, gM34, h⟩ := ob h
  refine ct_putP (q := 60) (ctOk_r hN (n + 7)) dX7_init_57 fl_RX7_28 rfl (by decide) gM34 rfl ?_
  refine ct_aload_0 (q := 61) dX7_init_60 rfl ?_
  refine ct_iconst (v := 5) (q := 62) dX7_init_61 (by decide) rfl ?_
  obtain ⟨M35, gM35, h⟩ := ob h
  refine ct_newaX (q := 64) (m' := (n + 8)) (c2 := 8) (s2 := 9324) (by decide : (9 = 8 ∧ ArrayType.int = .byte) ∨ (9 = 9 ∧ ArrayType.int = .int) ∨ (9 = 10 ∧ ArrayType.int = .boolean)) hN dX7_init_62 ac_int (by decide) (by decide) gM35 rfl rfl ⟨by decide, by decide⟩ rfl rfl ?_
  obtain ⟨M36, gM36, h⟩ := ob h
  refine ct_putP (q := 67) (ctOk_r hN (n + 8)) dX7_init_64 fl_RX7_31 rfl (by decide) gM36 rfl ?_
  refine ct_aload_0 (q := 68) dX7_init_67 rfl ?_
  refine ct_iconst (v := 5) (q := 69) dX7_init_68 (by decide) rfl ?_
  obtain ⟨M37, gM37, h⟩ := ob h
  refine ct_newaX (q := 71) (m' := (n + 9)) (c2 := 9) (s2 := 9329) (by decide : (9 = 8 ∧ ArrayType.int = .byte) ∨ (9 = 9 ∧ ArrayType.int = .int) ∨ (9 = 10 ∧ ArrayType.int = .boolean)) hN dX7_init_69 ac_int (by decide) (by decide) gM37 rfl rfl ⟨by decide, by decide⟩ rfl rfl ?_
  obtain ⟨M38, gM38, h⟩ := ob h
  refine ct_putP (q := 74) (ctOk_r hN (n + 9)) dX7_init_71 fl_RX7_34 rfl (by decide) gM38 rfl ?_
  refine ct_aload_0 (q := 75) dX7_init_74 rfl ?_
  refine ct_iconst (v := 5) (q := 76) dX7_init_75 (by decide) rfl ?_
  obtain ⟨M39, gM39, h⟩ := ob h
  refine ct_newaX (q := 78) (m' := (n + 10)) (c2 := 10) (s2 := 9334) (by decide : (9 = 8 ∧ ArrayType.int = .byte) ∨ (9 = 9 ∧ ArrayType.int = .int) ∨ (9 = 10 ∧ ArrayType.int = .boolean)) hN dX7_init_76 ac_int (by decide) (by decide) gM39 rfl rfl ⟨by decide, by decide⟩ rfl rfl ?_
  obtain ⟨M40, gM40, h⟩ := ob h
  refine ct_putP (q := 81) (ctOk_r hN (n + 10)) dX7_init_78 fl_RX7_37 rfl (by decide) gM40 rfl ?_
  refine ct_aload_0 (q := 82) dX7_init_81 rfl ?_
  refine ct_bipush (v := 120) (q := 84) dX7_init_82 (by decide) rfl ?_
  obtain ⟨M41, gM41, h⟩ := ob h
  refine ct_newaX (q := 86) (m' := (n + 11)) (c2 := 11) (s2 := 9454) (by decide : (9 = 8 ∧ ArrayType.int = .byte) ∨ (9 = 9 ∧ ArrayType.int = .int) ∨ (9 = 10 ∧ ArrayType.int = .boolean)) hN dX7_init_84 ac_int (by decide) (by decide) gM41 rfl rfl ⟨by decide, by decide⟩ rfl rfl ?_
  obtain ⟨M42, gM42, h⟩ := ob h
  refine ct_putP (q := 89) (ctOk_r hN (n + 11)) dX7_init_86 fl_RX7_40 rfl (by decide) gM42 rfl ?_
  refine ct_aload_0 (q := 90) dX7_init_89 rfl ?_
  refine ct_bipush (v := 8) (q := 92) dX7_init_90 (by decide) rfl ?_
  obtain ⟨M43, gM43, h⟩ := ob h
  refine ct_newaX (q := 94) (m' := (n + 12)) (c2 := 12) (s2 := 9462) (by decide : (9 = 8 ∧ ArrayType.int = .byte) ∨ (9 = 9 ∧ ArrayType.int = .int) ∨ (9 = 10 ∧ ArrayType.int = .boolean)) hN dX7_init_92 ac_int (by decide) (by decide) gM43 rfl rfl ⟨by decide, by decide⟩ rfl rfl ?_
  obtain ⟨M44, gM44, h⟩ := ob h
  refine ct_putP (q := 97) (ctOk_r hN (n + 12)) dX7_init_94 fl_RX7_43 rfl (by decide) gM44 rfl ?_
  refine ct_aload_0 (q := 98) dX7_init_97 rfl ?_
  refine ct_bipush (v := 120) (q := 100) dX7_init_98 (by decide) rfl ?_
  obtain ⟨M45, gM45, h⟩ := ob h
  refine ct_newaX (q := 102) (m' := (n + 13)) (c2 := 13) (s2 := 9582) (by decide : (10 = 8 ∧ ArrayType.boolean = .byte) ∨ (10 = 9 ∧ ArrayType.boolean = .int) ∨ (10 = 10 ∧ ArrayType.boolean = .boolean)) hN dX7_init_100 ac_boolean (by decide) (by decide) gM45 rfl rfl ⟨by decide, by decide⟩ rfl rfl ?_
  obtain ⟨M46, gM46, h⟩ := ob h
  refine ct_putP (q := 105) (ctOk_r hN (n + 13)) dX7_init_102 fl_RX7_46 rfl (by decide) gM46 rfl ?_
  refine ct_aload_0 (q := 106) dX7_init_105 rfl ?_
  refine ct_bipush (v := 70) (q := 108) dX7_init_106 (by decide) rfl ?_
  obtain ⟨M47, gM47, h⟩ := ob h
  refine ct_newaX (q := 110) (m' := (n + 14)) (c2 := 14) (s2 := 9652) (by decide : (9 = 8 ∧ ArrayType.int = .byte) ∨ (9 = 9 ∧ ArrayType.int = .int) ∨ (9 = 10 ∧ ArrayType.int = .boolean)) hN dX7_init_108 ac_int (by decide) (by decide) gM47 rfl rfl ⟨by decide, by decide⟩ rfl rfl ?_
  obtain ⟨M48, gM48, h⟩ := ob h
  refine ct_putP (q := 113) (ctOk_r hN (n + 14)) dX7_init_110 fl_RX7_50 rfl (by decide) gM48 rfl ?_
  refine ct_aload_0 (q := 114) dX7_init_113 rfl ?_
  refine ct_bipush (v := 96) (q := 116) dX7_init_114 (by decide) rfl ?_
  obtain ⟨M49, gM49, h⟩ := ob h
  refine ct_newaX (q := 118) (m' := (n + 15)) (c2 := 15) (s2 := 9748) (by decide : (9 = 8 ∧ ArrayType.int = .byte) ∨ (9 = 9 ∧ ArrayType.int = .int) ∨ (9 = 10 ∧ ArrayType.int = .boolean)) hN dX7_init_116 ac_int (by decide) (by decide) gM49 rfl rfl ⟨by decide, by decide⟩ rfl rfl ?_
  obtain ⟨M50, gM50, h⟩ := ob h
  refine ct_putP (q := 121) (ctOk_r hN (n + 15)) dX7_init_118 fl_RX7_53 rfl (by decide) gM50 rfl ?_
  refine ct_aload_0 (q := 122) dX7_init_121 rfl ?_
  refine ct_sipush (v := 128) (q := 125) dX7_init_122 (by decide) rfl ?_
  obtain ⟨M51, gM51, h⟩ := ob h
  refine ct_newaX (q := 127) (m' := (n + 16)) (c2 := 16) (s2 := 9876) (by decide : (9 = 8 ∧ ArrayType.int = .byte) ∨ (9 = 9 ∧ ArrayType.int = .int) ∨ (9 = 10 ∧ ArrayType.int = .boolean)) hN dX7_init_125 ac_int (by decide) (by decide) gM51 rfl rfl ⟨by decide, by decide⟩ rfl rfl ?_
  obtain ⟨M52, gM52, h⟩ := ob h
  refine ct_putP (q := 130) (ctOk_r hN (n + 16)) dX7_init_127 fl_RX7_56 rfl (by decide) gM52 rfl ?_
  refine ct_aload_0 (q := 131) dX7_init_130 rfl ?_
  refine ct_bipush (v := 100) (q := 133) dX7_init_131 (by decide) rfl ?_
  obtain ⟨M53, gM53, h⟩ := ob h
  refine ct_newaX (q := 135) (m' := (n + 17)) (c2 := 17) (s2 := 9976) (by decide : (9 = 8 ∧ ArrayType.int = .byte) ∨ (9 = 9 ∧ ArrayType.int = .int) ∨ (9 = 10 ∧ ArrayType.int = .boolean)) hN dX7_init_133 ac_int (by decide) (by decide) gM53 rfl rfl ⟨by decide, by decide⟩ rfl rfl ?_
  obtain ⟨M54, gM54, h⟩ := ob h
  refine ct_putP (q := 138) (ctOk_r hN (n + 17)) dX7_init_135 fl_RX7_59 rfl (by decide) gM54 rfl ?_
  refine ct_aload_0 (q := 139) dX7_init_138 rfl ?_
  refine ct_bipush (v := 24) (q := 141) dX7_init_139 (by decide) rfl ?_
  obtain ⟨M55, gM55, h⟩ := ob h
  refine ct_newaX (q := 143) (m' := (n + 18)) (c2 := 18) (s2 := 10000) (by decide : (9 = 8 ∧ ArrayType.int = .byte) ∨ (9 = 9 ∧ ArrayType.int = .int) ∨ (9 = 10 ∧ ArrayType.int = .boolean)) hN dX7_init_141 ac_int (by decide) (by decide) gM55 rfl rfl ⟨by decide, by decide⟩ rfl rfl ?_
  obtain ⟨M56, gM56, h⟩ := ob h
  refine ct_putP (q := 146) (ctOk_r hN (n + 18)) dX7_init_143 fl_RX7_62 rfl (by decide) gM56 rfl ?_
  refine ct_aload_0 (q := 147) dX7_init_146 rfl ?_
  refine ct_bipush (v := 60) (q := 149) dX7_init_147 (by decide) rfl ?_
  obtain ⟨M57, gM57, h⟩ := ob h
  refine ct_newaX (q := 151) (m' := (n + 19)) (c2 := 19) (s2 := 10060) (by decide : (9 = 8 ∧ ArrayType.int = .byte) ∨ (9 = 9 ∧ ArrayType.int = .int) ∨ (9 = 10 ∧ ArrayType.int = .boolean)) hN dX7_init_149 ac_int (by decide) (by decide) gM57 rfl rfl ⟨by decide, by decide⟩ rfl rfl ?_
  obtain ⟨M58, gM58, h⟩ := ob h
  refine ct_putP (q := 154) (ctOk_r hN (n + 19)) dX7_init_151 fl_RX7_65 rfl (by decide) gM58 rfl ?_
  refine ct_aload_0 (q := 155) dX7_init_154 rfl ?_
  refine ct_bipush (v := 60) (q := 157) dX7_init_155 (by decide) rfl ?_
  obtain ⟨M59, gM59, h⟩ := ob h
  refine ct_newaX (q := 159) (m' := (n + 20)) (c2 := 20) (s2 := 10120) (by decide : (9 = 8 ∧ ArrayType.int = .byte) ∨ (9 = 9 ∧ ArrayType.int = .int) ∨ (9 = 10 ∧ ArrayType.int = .boolean)) hN dX7_init_157 ac_int (by decide) (by decide) gM59 rfl rfl ⟨by decide, by decide⟩ rfl rfl ?_
  obtain ⟨M60, gM60, h⟩ := ob h
  refine ct_putP (q := 162) (ctOk_r hN (n + 20)) dX7_init_159 fl_RX7_68 rfl (by decide) gM60 rfl ?_
  refine ct_aload_0 (q := 163) dX7_init_162 rfl ?_
  obtain ⟨a61, ga61, h⟩ := ob h
  refine ct_getP (q := 166) (ctOk_r hN (n + 20)) dX7_init_163 fl_RX7_7 rfl ga61 rfl ?_
  refine ct_iconst (v := 3) (q := 167) dX7_init_166 (by decide) rfl ?_
  refine ct_iconst (v := 4) (q := 168) dX7_init_167 (by decide) rfl ?_
  obtain ⟨M62, gM62, h⟩ := ob h
  refine ct_iast (q := 169) (ctOk_r hN (n + 20)) dX7_init_168 gM62 rfl ?_
  refine ct_aload_0 (q := 170) dX7_init_169 rfl ?_
  obtain ⟨a63, ga63, h⟩ := ob h
  refine ct_getP (q := 173) (ctOk_r hN (n + 20)) dX7_init_170 fl_RX7_7 rfl ga63 rfl ?_
  refine ct_iconst (v := 4) (q := 174) dX7_init_173 (by decide) rfl ?_
  refine ct_bipush (v := 9) (q := 176) dX7_init_174 (by decide) rfl ?_
  obtain ⟨M64, gM64, h⟩ := ob h
  refine ct_iast (q := 177) (ctOk_r hN (n + 20)) dX7_init_176 gM64 rfl ?_
  refine ct_aload_0 (q := 178) dX7_init_177 rfl ?_
  obtain ⟨a65, ga65, h⟩ := ob h
  refine ct_getP (q := 181) (ctOk_r hN (n + 20)) dX7_init_178 fl_RX7_7 rfl ga65 rfl ?_
  refine ct_iconst (v := 5) (q := 182) dX7_init_181 (by decide) rfl ?_
  refine ct_iconst (v := 1) (q := 183) dX7_init_182 (by decide) rfl ?_
  obtain ⟨M66, gM66, h⟩ := ob h
  refine ct_iast (q := 184) (ctOk_r hN (n + 20)) dX7_init_183 gM66 rfl ?_
  refine ct_iconst (v := 0) (q := 185) dX7_init_184 (by decide) rfl ?_
  refine ct_istore_1 (q := 186) dX7_init_185 (by decide) rfl rfl ?_
  refine ct_iload_1 (q := 187) dX7_init_186 rfl ?_
  refine ct_iconst (v := 4) (q := 188) dX7_init_187 (by decide) rfl ?_
  refine ct_icmp_ge (q := 191) (tgt := 204) dX7_init_188 (by decide) rfl (fun z => absurd z (by decide)) (fun _ => ?_)
  refine ct_aload_0 (q := 192) dX7_init_191 rfl ?_
  obtain ⟨a67, ga67, h⟩ := ob h
  refine ct_getP (q := 195) (ctOk_r hN (n + 20)) dX7_init_192 fl_RX7_19 rfl ga67 rfl ?_
  refine ct_iload_1 (q := 196) dX7_init_195 rfl ?_
  refine ct_iconst (v := -1) (q := 197) dX7_init_196 (by decide) rfl ?_
  obtain ⟨M68, gM68, h⟩ := ob h
  refine ct_iast (q := 198) (ctOk_r hN (n + 20)) dX7_init_197 gM68 rfl ?_
  refine ct_iinc_1 (q := 201) (v := 1) dX7_init_198 (by decide) (by decide) rfl rfl ?_
  refine ct_goto (q := 186) dX7_init_201 (by decide) ?_
  refine ct_iload_1 (q := 187) dX7_init_186 rfl ?_
  refine ct_iconst (v := 4) (q := 188) dX7_init_187 (by decide) rfl ?_
  refine ct_icmp_ge (q := 191) (tgt := 204) dX7_init_188 (by decide) rfl (fun z => absurd z (by decide)) (fun _ => ?_)
  refine ct_aload_0 (q := 192) dX7_init_191 rfl ?_
  obtain ⟨a69, ga69, h⟩ := ob h
  refine ct_getP (q := 195) (ctOk_r hN (n + 20)) dX7_init_192 fl_RX7_19 rfl ga69 rfl ?_
  refine ct_iload_1 (q := 196) dX7_init_195 rfl ?_
  refine ct_iconst (v := -1) (q := 197) dX7_init_196 (by decide) rfl ?_
  obtain ⟨M70, gM70, h⟩ := ob h
  refine ct_iast (q := 198) (ctOk_r hN (n + 20)) dX7_init_197 gM70 rfl ?_
  refine ct_iinc_1 (q := 201) (v := 2) dX7_init_198 (by decide) (by decide) rfl rfl ?_
  refine ct_goto (q := 186) dX7_init_201 (by decide) ?_
  refine ct_iload_1 (q := 187) dX7_init_186 rfl ?_
  refine ct_iconst (v := 4) (q := 188) dX7_init_187 (by decide) rfl ?_
  refine ct_icmp_ge (q := 191) (tgt := 204) dX7_init_188 (by decide) rfl (fun z => absurd z (by decide)) (fun _ => ?_)
  refine ct_aload_0 (q := 192) dX7_init_191 rfl ?_
  obtain ⟨a71, ga71, h⟩ := ob h
  refine ct_getP (q := 195) (ctOk_r hN (n + 20)) dX7_init_192 fl_RX7_19 rfl ga71 rfl ?_
  refine ct_iload_1 (q := 196) dX7_init_195 rfl ?_
  refine ct_iconst (v := -1) (q := 197) dX7_init_196 (by decide) rfl ?_
  obtain ⟨M72, gM72, h⟩ := ob h
  refine ct_iast (q := 198) (ctOk_r hN (n + 20)) dX7_init_197 gM72 rfl ?_
  refine ct_iinc_1 (q := 201) (v := 3) dX7_init_198 (by decide) (by decide) rfl rfl ?_
  refine ct_goto (q := 186) dX7_init_201 (by decide) ?_
  refine ct_iload_1 (q := 187) dX7_init_186 rfl ?_
  refine ct_iconst (v := 4) (q := 188) dX7_init_187 (by decide) rfl ?_
  refine ct_icmp_ge (q := 191) (tgt := 204) dX7_init_188 (by decide) rfl (fun z => absurd z (by decide)) (fun _ => ?_)
  refine ct_aload_0 (q := 192) dX7_init_191 rfl ?_
  obtain ⟨a73, ga73, h⟩ := ob h
  refine ct_getP (q := 195) (ctOk_r hN (n + 20)) dX7_init_192 fl_RX7_19 rfl ga73 rfl ?_
  refine ct_iload_1 (q := 196) dX7_init_195 rfl ?_
  refine ct_iconst (v := -1) (q := 197) dX7_init_196 (by decide) rfl ?_
  obtain ⟨M74, gM74, h⟩ := ob h
  refine ct_iast (q := 198) (ctOk_r hN (n + 20)) dX7_init_197 gM74 rfl ?_
  refine ct_iinc_1 (q := 201) (v := 4) dX7_init_198 (by decide) (by decide) rfl rfl ?_
  refine ct_goto (q := 186) dX7_init_201 (by decide) ?_
  refine ct_iload_1 (q := 187) dX7_init_186 rfl ?_
  refine ct_iconst (v := 4) (q := 188) dX7_init_187 (by decide) rfl ?_
  refine ct_icmp_ge (q := 191) (tgt := 204) dX7_init_188 (by decide) rfl (fun _ => ?_) (fun z => absurd (by decide) z)
  exact ct_vret dX7_init_204 rfl ⟨by decide, by decide⟩ (poN_of h)

