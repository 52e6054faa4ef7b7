section
variable {M Mc Mm : ctM} {n : Nat}
theorem i64_sum (x y z : Int32) : x.toInt64 + y.toInt64 ≤ z.toInt64 ↔ x.toInt + y.toInt ≤ z.toInt := by
  have h1 := x.toInt_lt
  have h2 := x.le_toInt
  have h3 := y.toInt_lt
  have h4 := y.le_toInt
  rw [Int64.le_iff_toInt_le, Int64.toInt_add, Int32.toInt_toInt64, Int32.toInt_toInt64, Int32.toInt_toInt64, Int.bmod_eq_of_le (by omega) (by omega)]
theorem lg_pos (x y : Int64) : 0 < lg_cmp x y ↔ ¬ x ≤ y := by
  unfold lg_cmp
  by_cases h : x > y
  · rw [if_pos h]
    exact ⟨fun _ z => by simp only [gt_iff_lt, Int64.lt_iff_toInt_lt, Int64.le_iff_toInt_le] at *; omega, fun _ => by decide⟩
  · rw [if_neg h]
    have h' : x ≤ y := by simp only [gt_iff_lt, Int64.lt_iff_toInt_lt, Int64.le_iff_toInt_le] at *; omega
    refine ⟨fun z => absurd z (by split <;> decide), fun z => absurd h' z⟩
theorem lg_np (x y : Int64) : lg_cmp x y ≤ 0 ↔ x ≤ y := by
  have := lg_pos x y
  constructor
  · intro h
    exact Classical.byContradiction fun z => by have := this.mpr z; exact absurd h (Int32.not_le.mpr this)
  · intro h
    exact Int32.not_lt.mp fun z => this.mp z h
theorem mt18 {i : Nat} (hi : i < 24) : aI kdM lnM 9 18 (nI i) M = some (M.1 18 i) := aI_at (n := 24) rfl rfl hi (by decide)
theorem mw18 {i : Nat} {v : Int32} (hi : i < 24) : sI kdM lnM 9 18 (nI i) v M = some (ctI M 18 i v) := sI_at (n := 24) rfl rfl hi (by decide)
/-- a run of m places from p in a row of length len -/
theorem run_iff {x y : Int32} {len : Nat} (hl : len ≤ 24) : ((0 ≤ x ∧ x ≤ nI len) ∧ (0 ≤ y ∧ y ≤ nI len - x)) ↔ ∃ p m, p + m ≤ len ∧ x = nI p ∧ y = nI m := by
  have e0 : (0 : Int32).toInt = 0 := rfl
  have el : (nI len).toInt = len := nI_toInt (by omega)
  constructor
  · rintro ⟨⟨h1, h2⟩, h3, h4⟩
    obtain ⟨p, _, hp, rfl⟩ := rg_in (lo := 0) (hi := len) nI_0.symm rfl (by omega) (by decide) ⟨h1, h2⟩
    have e : nI len - nI p = nI (len - p) := by
      have := nI_add (len - p) p
      rw [show len - p + p = len by omega] at this
      rw [← this, Int32.add_sub_cancel]
    rw [e] at h4
    obtain ⟨m, _, hm, rfl⟩ := rg_in (lo := 0) (hi := len - p) nI_0.symm rfl (by omega) (by decide) ⟨h3, h4⟩
    exact ⟨p, m, by omega, rfl, rfl⟩
  · rintro ⟨p, m, h, rfl, rfl⟩
    have e : nI len - nI p = nI (len - p) := by
      have := nI_add (len - p) p
      rw [show len - p + p = len by omega] at this
      rw [← this, Int32.add_sub_cancel]
    rw [e]
    exact ⟨⟨nI_pos' (by omega), nI_le (by omega) (by omega)⟩, nI_pos' (by omega), nI_le (by omega) (by omega)⟩
theorem c_hasRunA {a : Nat} (ha : kdC a = 3) (x y : Int32) : fX3_hasRun a x y Mc = some (if (0 ≤ x ∧ x ≤ Mc.1 a 1) ∧ (0 ≤ y ∧ y ≤ Mc.1 a 1 - x) then 1 else 0, Mc) := by
  unfold fX3_hasRun
  rw [gI_at ha, bS, c_within, bS]
  by_cases h1 : 0 ≤ x ∧ x ≤ Mc.1 a 1
  · rw [if_pos h1, if_neg i_10, bS, c_within, bS]
    by_cases h2 : 0 ≤ y ∧ y ≤ Mc.1 a 1 - x
    · rw [if_pos h2, if_neg i_10, if_pos ⟨h1, h2⟩]
    · rw [if_neg h2, if_pos rfl, if_neg (fun z => h2 z.2)]
  · rw [if_neg h1, if_pos rfl, if_neg (fun z => h1 z.1)]
end
