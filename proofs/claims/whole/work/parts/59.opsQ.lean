section
variable {M Mc Mm : ctM} {n : Nat}
theorem i64_sum (x y z : Int32) : x.toInt64 + y.toInt64 ≤ z.toInt64 ↔ x.toInt + y.toInt ≤ z.toInt := by
  have h1 := x.toInt_lt
  have h2 := x.le_toInt
  have h3 := y.toInt_lt
  have h4 := y.le_toInt
  rw [Int64.le_iff_toInt_le, Int64.toInt_add, Int32.toInt_toInt64, Int32.toInt_toInt64, Int32.toInt_toInt64, Int.bmod_eq_of_le (by omega) (by omega)]
theorem lg_pos (x y : Int64) : 0 < lg_cmp x y ↔ ¬ x ≤ y := by
  unfold lg_cmp
  by_cases h : x > y
  · rw [if_pos h]
    exact ⟨fun _ z => by simp only [gt_iff_lt, Int64.lt_iff_toInt_lt, Int64.le_iff_toInt_le] at *; omega, fun _ => by decide⟩
  · rw [if_neg h]
    have h' : x ≤ y := by simp only [gt_iff_lt, Int64.lt_iff_toInt_lt, Int64.le_iff_toInt_le] at *; omega
    refine ⟨fun z => absurd z (by split <;> decide), fun z => absurd h' z⟩
theorem lg_np (x y : Int64) : lg_cmp x y ≤ 0 ↔ x ≤ y := by
  have := lg_pos x y
  constructor
  · intro h
    exact Classical.byContradiction fun z => by have := this.mpr z; exact absurd h (Int32.not_le.mpr this)
  · intro h
    exact Int32.not_lt.mp fun z => this.mp z h
end
