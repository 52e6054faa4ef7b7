/-! the class's memory -/
abbrev isRm (r : Nat) : Prop := r = 82 ∨ r = 95 ∨ r = 108
abbrev isLaw (a : Nat) : Prop := a = 6 ∨ (12 ≤ a ∧ a < 82 ∧ (a - 12) % 5 = 0)
abbrev isGv (b : Nat) : Prop := b = 10 ∨ (12 ≤ b ∧ b < 82 ∧ (b - 12) % 5 = 4)
/-- the references that never change -/
def PC (M : ctM) : Prop :=
  (M.2 0 0 = some 11 ∧ M.2 0 1 = some 82 ∧ M.2 0 2 = some 95 ∧ M.2 0 3 = some 108 ∧ M.2 0 5 = some 1 ∧ M.2 0 6 = some 2 ∧ M.2 0 7 = some 3 ∧ M.2 0 9 = some 4 ∧ M.2 4 0 = some 5) ∧
  (∀ r, isRm r → M.2 r 0 = some 11 ∧ M.2 r 1 = some (r + 1) ∧ M.2 r 2 = some (r + 2) ∧ M.2 r 3 = some (r + 3) ∧ M.2 r 4 = some (r + 4) ∧ ∀ f, f < 8 → M.2 (r + 1) f = some (r + 5 + f)) ∧
  (∀ i, i < 4 → M.2 1 i = some (121 + 2 * i) ∧ M.2 (121 + 2 * i) 2 = some (122 + 2 * i)) ∧
  (∀ i, i < 5 → M.2 2 i = some (129 + 4 * i) ∧ M.2 (129 + 4 * i) 1 = some (130 + 4 * i) ∧ M.2 (129 + 4 * i) 2 = some (131 + 4 * i) ∧ M.2 (131 + 4 * i) 2 = some (132 + 4 * i)) ∧
  (∀ a, isLaw a → M.2 a 3 = some (a + 1) ∧ M.2 a 4 = some (a + 2) ∧ M.2 a 5 = some (a + 3) ∧ M.2 a 6 = some (a + 4))
theorem kC_rm {r : Nat} (h : isRm r) : kdC r = 2 ∧ kdC (r + 1) = 11 ∧ lnC (r + 1) = 8 ∧ kdC (r + 2) = 9 ∧ lnC (r + 2) = 8 ∧ kdC (r + 3) = 9 ∧ lnC (r + 3) = 8 ∧ kdC (r + 4) = 9 ∧ lnC (r + 4) = 3 := by
  rcases h with rfl | rfl | rfl <;> decide +kernel
theorem kC_fl_ : ∀ r, isRm r → ∀ f, f < 8 → kdC (r + 5 + f) = 0 := by
  intro r h
  rcases h with rfl | rfl | rfl <;> decide +kernel
theorem kC_fl {r f : Nat} (h : isRm r) (hf : f < 8) : kdC (r + 5 + f) = 0 := kC_fl_ r h f hf
theorem kC_law_ : ∀ a, a < 82 → isLaw a → kdC a = 1 ∧ kdC (a + 1) = 9 ∧ lnC (a + 1) = 96 ∧ kdC (a + 2) = 9 ∧ lnC (a + 2) = 96 ∧ kdC (a + 3) = 9 ∧ lnC (a + 3) = 96 ∧ kdC (a + 4) = 9 ∧ lnC (a + 4) = 96 := by decide +kernel
theorem kC_law {a : Nat} (h : isLaw a) : kdC a = 1 ∧ kdC (a + 1) = 9 ∧ lnC (a + 1) = 96 ∧ kdC (a + 2) = 9 ∧ lnC (a + 2) = 96 ∧ kdC (a + 3) = 9 ∧ lnC (a + 3) = 96 ∧ kdC (a + 4) = 9 ∧ lnC (a + 4) = 96 := kC_law_ a (by rcases h with h | h <;> omega) h
theorem PC_I {M : ctM} {a k : Nat} {v : Int32} : PC (ctI M a k v) = PC M := rfl
/-- a room as the spec sees it -/
def rK (M : ctM) (r : Nat) : Kv := fun j =>
  if j = 0 then M.1 r 5 else if j = 1 then M.1 r 10 else if j = 2 then M.1 r 8 else if j = 3 then M.1 r 6 else if j = 4 then M.1 r 7 else if j = 5 then M.1 r 9 else
  if j < 14 then M.1 (r + 2) (j - 6) else if j < 70 then M.1 (r + 5 + (j - 14) / 7) ((j - 14) % 7) else 0
theorem rK_fl {M : ctM} {r f k : Nat} (hf : f < 8) (hk : k < 7) : fl (rK M r) f k = M.1 (r + 5 + f) k := by
  unfold fl rK
  rw [if_neg (by omega), if_neg (by omega), if_neg (by omega), if_neg (by omega), if_neg (by omega), if_neg (by omega), if_neg (by omega), if_pos (by omega), show (14 + 7 * f + k - 14) / 7 = f by omega, show (14 + 7 * f + k - 14) % 7 = k by omega]
theorem rK_gl {M : ctM} {r i : Nat} (hi : i < 8) : rK M r (6 + i) = M.1 (r + 2) i := by
  unfold rK
  rw [if_neg (by omega), if_neg (by omega), if_neg (by omega), if_neg (by omega), if_neg (by omega), if_neg (by omega), if_pos (by omega), show 6 + i - 6 = i by omega]
theorem rK_mid {M : ctM} {r j : Nat} (h6 : 6 ≤ j) (h14 : j < 14) : rK M r j = M.1 (r + 2) (j - 6) := by
  unfold rK
  rw [if_neg (by omega), if_neg (by omega), if_neg (by omega), if_neg (by omega), if_neg (by omega), if_neg (by omega), if_pos (by omega)]
theorem rK_hi {M : ctM} {r j : Nat} (h14 : 14 ≤ j) (h70 : j < 70) : rK M r j = M.1 (r + 5 + (j - 14) / 7) ((j - 14) % 7) := by
  unfold rK
  rw [if_neg (by omega), if_neg (by omega), if_neg (by omega), if_neg (by omega), if_neg (by omega), if_neg (by omega), if_neg (by omega), if_pos (by omega)]
theorem rK_0 {M : ctM} {r : Nat} : rK M r 0 = M.1 r 5 := rfl
theorem rK_1 {M : ctM} {r : Nat} : rK M r 1 = M.1 r 10 := rfl
theorem rK_2 {M : ctM} {r : Nat} : rK M r 2 = M.1 r 8 := rfl
theorem rK_3 {M : ctM} {r : Nat} : rK M r 3 = M.1 r 6 := rfl
theorem rK_4 {M : ctM} {r : Nat} : rK M r 4 = M.1 r 7 := rfl
theorem rK_5 {M : ctM} {r : Nat} : rK M r 5 = M.1 r 9 := rfl
theorem rK_big {M : ctM} {r j : Nat} (h : 70 ≤ j) : rK M r j = 0 := by
  unfold rK
  rw [if_neg (by omega), if_neg (by omega), if_neg (by omega), if_neg (by omega), if_neg (by omega), if_neg (by omega), if_neg (by omega), if_neg (by omega)]
/-- the field behind each of the first six -/
def rF (j : Nat) : Nat := if j = 0 then 5 else if j = 1 then 10 else if j = 2 then 8 else if j = 3 then 6 else if j = 4 then 7 else 9
theorem rK_lo {M : ctM} {r j : Nat} (h : j < 6) : rK M r j = M.1 r (rF j) := by
  rcases (by omega : j = 0 ∨ j = 1 ∨ j = 2 ∨ j = 3 ∨ j = 4 ∨ j = 5) with rfl | rfl | rfl | rfl | rfl | rfl <;> rfl
theorem rF_in : ∀ j, j < 6 → 5 ≤ rF j ∧ rF j ≤ 10 := by decide
theorem rF_inj : ∀ i, i < 6 → ∀ k, k < 6 → i ≠ k → rF i ≠ rF k := by decide
/-- two rows of 70 are one where the fields are -/
theorem rK_congr {M M' : ctM} {r r' : Nat} (h0 : ∀ k, 5 ≤ k → k ≤ 10 → M'.1 r' k = M.1 r k) (h2 : ∀ i, i < 8 → M'.1 (r' + 2) i = M.1 (r + 2) i) (h5 : ∀ f k, f < 8 → k < 7 → M'.1 (r' + 5 + f) k = M.1 (r + 5 + f) k) : rK M' r' = rK M r := by
  funext j
  by_cases h6 : j < 6
  · rw [rK_lo h6, rK_lo h6, h0 _ (rF_in j h6).1 (rF_in j h6).2]
  by_cases h14 : j < 14
  · rw [rK_mid (by omega) h14, rK_mid (by omega) h14, h2 _ (by omega)]
  by_cases h70 : j < 70
  · rw [rK_hi (by omega) h70, rK_hi (by omega) h70, h5 _ _ (by omega) (by omega)]
  · rw [rK_big (by omega), rK_big (by omega)]
section
variable {M : ctM} {r f g : Nat}
theorem rm_f1 (h : PC M) (hr : isRm r) : gP kdC 2 1 r M = some (r + 1) := (gP_at (kC_rm hr).1).trans (h.2.1 r hr).2.1
theorem rm_f0 (h : PC M) (hr : isRm r) : gP kdC 2 0 r M = some 11 := (gP_at (kC_rm hr).1).trans (h.2.1 r hr).1
theorem rm_f2 (h : PC M) (hr : isRm r) : gP kdC 2 2 r M = some (r + 2) := (gP_at (kC_rm hr).1).trans (h.2.1 r hr).2.2.1
theorem rm_f3 (h : PC M) (hr : isRm r) : gP kdC 2 3 r M = some (r + 3) := (gP_at (kC_rm hr).1).trans (h.2.1 r hr).2.2.2.1
theorem rm_f4 (h : PC M) (hr : isRm r) : gP kdC 2 4 r M = some (r + 4) := (gP_at (kC_rm hr).1).trans (h.2.1 r hr).2.2.2.2.1
theorem rm_fl (h : PC M) (hr : isRm r) (hf : f < 8) : aP kdC lnC 11 (r + 1) (nI f) M = some (r + 5 + f) := (aP_at (n := 8) (kC_rm hr).2.1 (kC_rm hr).2.2.1 hf (by decide)).trans ((h.2.1 r hr).2.2.2.2.2 f hf)
theorem rm_gl (hr : isRm r) (hf : f < 8) : aI kdC lnC 9 (r + 2) (nI f) M = some (rK M r (6 + f)) := by
  rw [rK_gl hf]
  exact aI_at (n := 8) (kC_rm hr).2.2.2.1 (kC_rm hr).2.2.2.2.1 hf (by decide)
theorem rm_gls {v : Int32} (hr : isRm r) (hf : f < 8) : sI kdC lnC 9 (r + 2) (nI f) v M = some (ctI M (r + 2) f v) := sI_at (n := 8) (kC_rm hr).2.2.2.1 (kC_rm hr).2.2.2.2.1 hf (by decide)
theorem rm_nx (hr : isRm r) (hf : f < 8) : aI kdC lnC 9 (r + 3) (nI f) M = some (M.1 (r + 3) f) := aI_at (n := 8) (kC_rm hr).2.2.2.2.2.1 (kC_rm hr).2.2.2.2.2.2.1 hf (by decide)
theorem rm_nxs {v : Int32} (hr : isRm r) (hf : f < 8) : sI kdC lnC 9 (r + 3) (nI f) v M = some (ctI M (r + 3) f v) := sI_at (n := 8) (kC_rm hr).2.2.2.2.2.1 (kC_rm hr).2.2.2.2.2.2.1 hf (by decide)
theorem rm_ct (hr : isRm r) (hf : f < 3) : aI kdC lnC 9 (r + 4) (nI f) M = some (M.1 (r + 4) f) := aI_at (n := 3) (kC_rm hr).2.2.2.2.2.2.2.1 (kC_rm hr).2.2.2.2.2.2.2.2 hf (by decide)
theorem rm_cts {v : Int32} (hr : isRm r) (hf : f < 3) : sI kdC lnC 9 (r + 4) (nI f) v M = some (ctI M (r + 4) f v) := sI_at (n := 3) (kC_rm hr).2.2.2.2.2.2.2.1 (kC_rm hr).2.2.2.2.2.2.2.2 hf (by decide)
theorem rm_i5 (hr : isRm r) : gI kdC 2 5 r M = some (rK M r 0) := gI_at (kC_rm hr).1
theorem rm_i6 (hr : isRm r) : gI kdC 2 6 r M = some (rK M r 3) := gI_at (kC_rm hr).1
theorem rm_i7 (hr : isRm r) : gI kdC 2 7 r M = some (rK M r 4) := gI_at (kC_rm hr).1
theorem rm_i8 (hr : isRm r) : gI kdC 2 8 r M = some (rK M r 2) := gI_at (kC_rm hr).1
theorem rm_i9 (hr : isRm r) : gI kdC 2 9 r M = some (rK M r 5) := gI_at (kC_rm hr).1
theorem rm_i10 (hr : isRm r) : gI kdC 2 10 r M = some (rK M r 1) := gI_at (kC_rm hr).1
theorem rm_p {k : Nat} {v : Int32} (hr : isRm r) : pI kdC 2 k r v M = some (ctI M r k v) := pI_at (kC_rm hr).1
theorem fl_g {k : Nat} (hr : isRm r) (hf : f < 8) (hk : k < 7) : gI kdC 0 k (r + 5 + f) M = some (fl (rK M r) f k) := by
  rw [rK_fl hf hk]
  exact gI_at (kC_fl hr hf)
theorem fl_p {k : Nat} {v : Int32} (hr : isRm r) (hf : f < 8) : pI kdC 0 k (r + 5 + f) v M = some (ctI M (r + 5 + f) k v) := pI_at (kC_fl hr hf)
theorem rm_cV {α : Type} {o : Option α} (hr : isRm r) : cV kdC 2 r o = o := cV_at (kC_rm hr).1
theorem fl_cV {α : Type} {o : Option α} (hr : isRm r) (hf : f < 8) : cV kdC 0 (r + 5 + f) o = o := cV_at (kC_fl hr hf)
theorem lw_cV {α : Type} {o : Option α} {a : Nat} (ha : isLaw a) : cV kdC 1 a o = o := cV_at (kC_law ha).1
/-! what a write to a room does to its row -/
theorem rK_pf {k : Nat} {v : Int32} (hf : f < 8) (hk : k < 7) : rK (ctI M (r + 5 + f) k v) r = va_up (rK M r) (14 + 7 * f + k) v := by
  funext j
  unfold va_up
  by_cases h : j = 14 + 7 * f + k
  · subst h
    rw [if_pos rfl]
    have := rK_fl (M := ctI M (r + 5 + f) k v) (r := r) hf hk
    unfold fl at this
    rw [this, ctI_1, va_up_eq']
  · rw [if_neg h]
    by_cases h6 : j < 6
    · rw [rK_lo h6, rK_lo h6, ctI_ne (by omega)]
    by_cases h14 : j < 14
    · rw [rK_mid (by omega) h14, rK_mid (by omega) h14, ctI_ne (by omega)]
    by_cases h70 : j < 70
    · rw [rK_hi (by omega) h70, rK_hi (by omega) h70]
      by_cases hq : (j - 14) / 7 = f
      · rw [hq, ctI_1, va_up_ne' (by omega)]
      · rw [ctI_ne (by omega)]
    · rw [rK_big (by omega), rK_big (by omega)]
theorem rK_pg {v : Int32} (hf : f < 8) : rK (ctI M (r + 2) f v) r = va_up (rK M r) (6 + f) v := by
  funext j
  unfold va_up
  by_cases h : j = 6 + f
  · subst h
    rw [if_pos rfl, rK_gl hf, ctI_1, va_up_eq']
  · rw [if_neg h]
    by_cases h6 : j < 6
    · rw [rK_lo h6, rK_lo h6, ctI_ne (by omega)]
    by_cases h14 : j < 14
    · rw [rK_mid (by omega) h14, rK_mid (by omega) h14, ctI_1, va_up_ne' (by omega)]
    by_cases h70 : j < 70
    · rw [rK_hi (by omega) h70, rK_hi (by omega) h70, ctI_ne (by omega)]
    · rw [rK_big (by omega), rK_big (by omega)]
theorem rK_pr_ {j0 : Nat} {v : Int32} (h0 : j0 < 6) : rK (ctI M r (rF j0) v) r = va_up (rK M r) j0 v := by
  funext j
  by_cases h : j = j0
  · subst h
    rw [va_up_eq', rK_lo h0, ctI_1, va_up_eq']
  rw [va_up_ne' h]
  by_cases h6 : j < 6
  · rw [rK_lo h6, rK_lo h6, ctI_1, va_up_ne' (rF_inj j h6 j0 h0 h)]
  by_cases h14 : j < 14
  · rw [rK_mid (by omega) h14, rK_mid (by omega) h14, ctI_ne (by omega)]
  by_cases h70 : j < 70
  · rw [rK_hi (by omega) h70, rK_hi (by omega) h70, ctI_ne (by omega)]
  · rw [rK_big (by omega), rK_big (by omega)]
theorem rK_p0 {v : Int32} : rK (ctI M r 5 v) r = va_up (rK M r) 0 v := rK_pr_ (j0 := 0) (by decide)
theorem rK_p1 {v : Int32} : rK (ctI M r 10 v) r = va_up (rK M r) 1 v := rK_pr_ (j0 := 1) (by decide)
theorem rK_p2 {v : Int32} : rK (ctI M r 8 v) r = va_up (rK M r) 2 v := rK_pr_ (j0 := 2) (by decide)
theorem rK_p3 {v : Int32} : rK (ctI M r 6 v) r = va_up (rK M r) 3 v := rK_pr_ (j0 := 3) (by decide)
theorem rK_p4 {v : Int32} : rK (ctI M r 7 v) r = va_up (rK M r) 4 v := rK_pr_ (j0 := 4) (by decide)
theorem rK_p5 {v : Int32} : rK (ctI M r 9 v) r = va_up (rK M r) 5 v := rK_pr_ (j0 := 5) (by decide)
theorem rK_ne {a k : Nat} {v : Int32} (h1 : a ≠ r) (h2 : a ≠ r + 2) (h3 : a < r + 5 ∨ r + 13 ≤ a) : rK (ctI M a k v) r = rK M r := by
  refine rK_congr (fun k _ _ => ?_) (fun i _ => ?_) (fun f k hf _ => ?_)
  · rw [ctI_ne (Ne.symm h1)]
  · rw [ctI_ne (Ne.symm h2)]
  · rw [ctI_ne (by omega)]
/-! small pieces -/
theorem c_within (x a b : Int32) : fX6_isWithin x a b M = some (if a ≤ x ∧ x ≤ b then 1 else 0, M) := by
  unfold fX6_isWithin
  by_cases h1 : a ≤ x
  · rw [if_neg (Int32.not_lt.mpr h1)]
    by_cases h2 : x ≤ b
    · rw [if_neg (Int32.not_lt.mpr h2), if_pos ⟨h1, h2⟩]
    · rw [if_pos (Int32.not_le.mp h2), if_neg (fun z => h2 z.2)]
  · rw [if_pos (Int32.not_le.mp h1), if_neg (fun z => h1 z.1)]
theorem c_held (x a b : Int32) : fX6_held x a b M = some (clS x a b, M) := by
  unfold fX6_held clS
  by_cases h1 : a ≤ x
  · rw [if_pos h1, if_pos h1]
    by_cases h2 : x ≤ b
    · rw [if_pos h2, if_pos h2]
    · rw [if_neg h2, if_neg h2]
  · rw [if_neg h1, if_neg h1]
theorem i_lt60 (p : Int32) : p < 60 ↔ p ≤ 59 := by
  rw [Int32.lt_iff_toInt_lt, Int32.le_iff_toInt_le, show (60 : Int32).toInt = 60 from by decide, show (59 : Int32).toInt = 59 from by decide]
  omega
theorem i_le60 {p : Int32} (h : ¬ p ≤ 59) : -60 ≤ p := by
  rw [Int32.le_iff_toInt_le] at *
  rw [show (59 : Int32).toInt = 59 from by decide] at h
  rw [show (-60 : Int32).toInt = -60 from by decide]
  omega
theorem c_ahead (a b : Int32) : fX6_ahead a b M = some (ahS a b, M) := by
  unfold fX6_ahead ahS
  by_cases h1 : a - b ≤ 59
  · rw [if_pos ((i_lt60 _).mpr h1)]
    by_cases h2 : -60 ≤ a - b
    · rw [if_pos h2, if_pos h2, if_pos h1]
    · rw [if_neg h2, if_neg h2]
  · rw [if_neg (mt (i_lt60 _).mp h1), if_pos (i_le60 h1), if_neg h1]
theorem c_isLit (hr : isRm r) (hf : f < 8) : fX0_isLit (r + 5 + f) M = some (if fl (rK M r) f 5 ≤ 0 then 0 else 1, M) := by
  unfold fX0_isLit
  rw [fl_g hr hf (by decide)]
  simp only [Option.bind_some, if_sp]
set_option maxRecDepth 100000 in
theorem ab_off : ∀ i, i < 30 → ∀ j, j < 30 → (if 0 ≤ nI i - nI j then nI i - nI j else 0 - (nI i - nI j)) = offS (nI i) (nI j) := by decide +kernel
theorem ab_offr {x y : Int32} (hx : rg x 0 30) (hy : rg y 0 30) : (if 0 ≤ x - y then x - y else 0 - (x - y)) = offS x y := by
  obtain ⟨i, _, h1, rfl⟩ := hx
  obtain ⟨j, _, h2, rfl⟩ := hy
  exact ab_off i h1 j h2
theorem c_hasGlass (h : PC M) (hr : isRm r) (hf : f < 8) (hg : g < 8) (hm : rg (rK M r (6 + f)) 0 256) : fX2_hasGlass r (nI f) (nI g) M = some (if gbS (rK M r (6 + f)) g = 1 then 1 else 0, M) := by
  unfold fX2_hasGlass
  rw [rm_f2 h hr]
  simp only [Option.bind_some]
  rw [rm_gl hr hf]
  simp only [Option.bind_some]
  obtain ⟨m, _, h1, h2⟩ := hm
  rw [h2, (bt_gl m h1 g hg).1]
  simp only [if_sp]
theorem c_paceFrom (hr : isRm r) (hf : f < 8) (v : Int32) : fX0_paceFrom (r + 5 + f) v M = some (kPace (fl (rK M r) f 0) v, M) := by
  unfold fX0_paceFrom kPace
  rw [fl_g hr hf (by decide)]
  simp only [Option.bind_some, if_sp]
theorem c_turnedFrom (hr : isRm r) (hf : f < 8) (p w : Int32) : fX0_turnedFrom (r + 5 + f) p w M = some (kTurn (fl (rK M r) f 0) p w, M) := by
  unfold fX0_turnedFrom kTurn
  rw [fl_g hr hf (by decide)]
  simp only [Option.bind_some, c_within]
  by_cases hq : -4 ≤ p ∧ p ≤ 4
  · simp only [if_pos hq, show ¬ (1 : Int32) = 0 by decide, if_false, if_sp]
  · simp only [if_neg hq, if_true, if_sp]
theorem i_92 (x : Int32) : 9 - x - 2 = 7 - x := by
  rw [Int32.sub_eq_add_neg, Int32.sub_eq_add_neg, Int32.sub_eq_add_neg, Int32.add_assoc, Int32.add_comm (-x), ← Int32.add_assoc]
  rfl
end
