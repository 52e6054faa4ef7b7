section
variable {M Mc Mm : ctM} {n : Nat}
theorem i64_sum (x y z : Int32) : x.toInt64 + y.toInt64 ≤ z.toInt64 ↔ x.toInt + y.toInt ≤ z.toInt := by
  have h1 := x.toInt_lt
  have h2 := x.le_toInt
  have h3 := y.toInt_lt
  have h4 := y.le_toInt
  rw [Int64.le_iff_toInt_le, Int64.toInt_add, Int32.toInt_toInt64, Int32.toInt_toInt64, Int32.toInt_toInt64, Int.bmod_eq_of_le (by omega) (by omega)]
theorem lg_pos (x y : Int64) : 0 < lg_cmp x y ↔ ¬ x ≤ y := by
  unfold lg_cmp
  by_cases h : x > y
  · rw [if_pos h]
    exact ⟨fun _ z => by simp only [gt_iff_lt, Int64.lt_iff_toInt_lt, Int64.le_iff_toInt_le] at *; omega, fun _ => by decide⟩
  · rw [if_neg h]
    have h' : x ≤ y := by simp only [gt_iff_lt, Int64.lt_iff_toInt_lt, Int64.le_iff_toInt_le] at *; omega
    refine ⟨fun z => absurd z (by split <;> decide), fun z => absurd h' z⟩
theorem lg_np (x y : Int64) : lg_cmp x y ≤ 0 ↔ x ≤ y := by
  have := lg_pos x y
  constructor
  · intro h
    exact Classical.byContradiction fun z => by have := this.mpr z; exact absurd h (Int32.not_le.mpr this)
  · intro h
    exact Int32.not_lt.mp fun z => this.mp z h
theorem mt18 {i : Nat} (hi : i < 24) : aI kdM lnM 9 18 (nI i) M = some (M.1 18 i) := aI_at (n := 24) rfl rfl hi (by decide)
theorem mw18 {i : Nat} {v : Int32} (hi : i < 24) : sI kdM lnM 9 18 (nI i) v M = some (ctI M 18 i v) := sI_at (n := 24) rfl rfl hi (by decide)
/-- a run of m places from p in a row of length len -/
theorem run_iff {x y : Int32} {len : Nat} (hl : len ≤ 24) : ((0 ≤ x ∧ x ≤ nI len) ∧ (0 ≤ y ∧ y ≤ nI len - x)) ↔ ∃ p m, p + m ≤ len ∧ x = nI p ∧ y = nI m := by
  have e0 : (0 : Int32).toInt = 0 := rfl
  have el : (nI len).toInt = len := nI_toInt (by omega)
  constructor
  · rintro ⟨⟨h1, h2⟩, h3, h4⟩
    obtain ⟨p, _, hp, rfl⟩ := rg_in (lo := 0) (hi := len) nI_0.symm rfl (by omega) (by decide) ⟨h1, h2⟩
    have e : nI len - nI p = nI (len - p) := by
      have := nI_add (len - p) p
      rw [show len - p + p = len by omega] at this
      rw [← this, Int32.add_sub_cancel]
    rw [e] at h4
    obtain ⟨m, _, hm, rfl⟩ := rg_in (lo := 0) (hi := len - p) nI_0.symm rfl (by omega) (by decide) ⟨h3, h4⟩
    exact ⟨p, m, by omega, rfl, rfl⟩
  · rintro ⟨p, m, h, rfl, rfl⟩
    have e : nI len - nI p = nI (len - p) := by
      have := nI_add (len - p) p
      rw [show len - p + p = len by omega] at this
      rw [← this, Int32.add_sub_cancel]
    rw [e]
    exact ⟨⟨nI_pos' (by omega), nI_le (by omega) (by omega)⟩, nI_pos' (by omega), nI_le (by omega) (by omega)⟩
theorem c_hasRunA {a : Nat} (ha : kdC a = 3) (x y : Int32) : fX3_hasRun a x y Mc = some (if (0 ≤ x ∧ x ≤ Mc.1 a 1) ∧ (0 ≤ y ∧ y ≤ Mc.1 a 1 - x) then 1 else 0, Mc) := by
  unfold fX3_hasRun
  rw [gI_at ha, bS, c_within, bS]
  by_cases h1 : 0 ≤ x ∧ x ≤ Mc.1 a 1
  · rw [if_pos h1, if_neg i_10, gI_at ha, bS, c_within, bS]
    by_cases h2 : 0 ≤ y ∧ y ≤ Mc.1 a 1 - x
    · rw [if_pos h2, if_neg i_10, if_pos ⟨h1, h2⟩]
    · rw [if_neg h2, if_pos rfl, if_neg (fun z => h2 z.2)]
  · rw [if_neg h1, if_pos rfl, if_neg (fun z => h1 z.1)]
/-- the model carries a run over -/
theorem m_carry1 (pm : PM Mm) {i p m : Nat} {x3 x4 : Int32} (hi : i < 4) (hm : p + m ≤ 24) : ∀ (d j N : Nat) (M1 : ctM), j + d = m → d < N → FlS Mm 18 0 j (fun q => Mm.1 6 (24 * i + p + q)) M1 → ∃ M2, fX7_copy_h113 N 0 (nI i) (nI p) x3 x4 (nI m) (nI j) M1 = fX7_copy_h150 4000 0 x3 x4 (nI m) 0 M2 ∧ FlS Mm 18 0 m (fun q => Mm.1 6 (24 * i + p + q)) M2 := by
  intro d
  induction d with
  | zero =>
    intro j N M1 hj hN h
    obtain ⟨N, rfl⟩ : ∃ k, N = k + 1 := ⟨N - 1, by omega⟩
    have : j = m := by omega
    subst this
    exact ⟨M1, by rw [fX7_copy_h113, if_pos (nI_le (Nat.le_refl _) (by omega))], h⟩
  | succ d ih =>
    intro j N M1 hj hN h
    obtain ⟨N, rfl⟩ : ∃ k, N = k + 1 := ⟨N - 1, by omega⟩
    have h2 := h.step (v := M1.1 6 (24 * i + p + j)) (by rw [h.2.1 6 (by decide)])
    rw [Nat.zero_add] at h2
    obtain ⟨M2, w1, w2⟩ := ih (j + 1) N _ (by omega) (by omega) h2
    refine ⟨M2, ?_, w2⟩
    rw [fX7_copy_h113, if_neg (nI_ge (show j < m by omega) (by omega)), gM31 (h.pm pm), bS, gM6 (h.pm pm), bS, i_24, nI_add, mt6 (show 24 * i + p + j < 96 by omega), bS, mw18 (by omega), bS, nI_1]
    exact w1
theorem m_carry2 (pm : PM Mm) {i p m : Nat} (hi : i < 4) (hm : p + m ≤ 24) : ∀ (d j N : Nat) (M1 : ctM), j + d = m → d < N → FlS Mm 6 (24 * i + p) j (fun q => Mm.1 18 q) M1 → ∃ M2, fX7_copy_h150 N 0 (nI i) (nI p) (nI m) (nI j) M1 = some (nI m, M2) ∧ FlS Mm 6 (24 * i + p) m (fun q => Mm.1 18 q) M2 := by
  intro d
  induction d with
  | zero =>
    intro j N M1 hj hN h
    obtain ⟨N, rfl⟩ : ∃ k, N = k + 1 := ⟨N - 1, by omega⟩
    have : j = m := by omega
    subst this
    exact ⟨M1, by rw [fX7_copy_h150, if_pos (nI_le (Nat.le_refl _) (by omega))], h⟩
  | succ d ih =>
    intro j N M1 hj hN h
    obtain ⟨N, rfl⟩ : ∃ k, N = k + 1 := ⟨N - 1, by omega⟩
    obtain ⟨M2, w1, w2⟩ := ih (j + 1) N _ (by omega) (by omega) (h.step (v := M1.1 18 j) (by rw [h.2.1 18 (by decide)]))
    refine ⟨M2, ?_, w2⟩
    rw [fX7_copy_h150, if_neg (nI_ge (show j < m by omega) (by omega)), gM6 (h.pm pm), bS, gM31 (h.pm pm), bS, mt18 (by omega), bS, i_24, nI_add, mw6 (show 24 * i + p + j < 96 by omega), bS, nI_1]
    exact w1
end
