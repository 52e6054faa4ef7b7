/-! bytes -/
def cB (v : Int32) (s : Int32) : Int32 := ((v.toUInt32 >>> (s.toUInt32 &&& Int32.toUInt32 31)).toInt32).toInt8.toInt32
def mB (v : Int32) (s : Int32) : Int32 := (v >>> (s &&& 31)) &&& 255
theorem sxB_toInt {b : Nat} (h : b < 256) : (sxB b).toInt = if b < 128 then (b : Int) else (b : Int) - 256 := by
  unfold sxB
  by_cases c : b < 128
  · rw [if_pos c, if_pos c, nI_toInt (by omega)]
  · rw [if_neg c, if_neg c, Int32.toInt_sub, nI_toInt (by omega), show (256 : Int32).toInt = 256 from rfl, Int.bmod_eq_of_le (by omega) (by omega)]
theorem by_lem (v : Int32) {k : Nat} (hk : k = 0 ∨ k = 8 ∨ k = 16 ∨ k = 24) : ∃ b, b < 256 ∧ cB v (nI k) = sxB b ∧ mB v (nI k) = nI b := by
  have hx : v.toBitVec.toNat < 2 ^ 32 := v.toBitVec.isLt
  have e3 : v.toInt = v.toBitVec.toInt := rfl
  rw [BitVec.toInt_eq_toNat_cond] at e3
  have main : ∀ (q : Nat), (v.toUInt32 >>> ((nI k).toUInt32 &&& Int32.toUInt32 31)).toInt32.toBitVec.toNat = v.toBitVec.toNat / q → (v >>> (nI k &&& 31)).toInt = v.toInt / (q : Int) → (q = 1 ∨ q = 256 ∨ q = 65536 ∨ q = 16777216) → ∃ b, b < 256 ∧ cB v (nI k) = sxB b ∧ mB v (nI k) = nI b := by
    intro q h1 h2 hq
    refine ⟨v.toBitVec.toNat / q % 256, Nat.mod_lt _ (by decide), ?_, ?_⟩
    · apply Int32.toInt_inj.mp
      rw [sxB_toInt (Nat.mod_lt _ (by decide))]
      unfold cB
      rw [Int8.toInt_toInt32, Int32.toInt_toInt8]
      have e4 : (v.toUInt32 >>> ((nI k).toUInt32 &&& Int32.toUInt32 31)).toInt32.toInt = (v.toUInt32 >>> ((nI k).toUInt32 &&& Int32.toUInt32 31)).toInt32.toBitVec.toInt := rfl
      rw [e4, BitVec.toInt_eq_toNat_cond, h1]
      generalize v.toBitVec.toNat = x at hx
      rw [Int.bmod_def]
      simp only [Nat.reducePow] at *
      rcases hq with rfl | rfl | rfl | rfl <;> (repeat' split) <;> omega
    · unfold mB
      rw [pk_and _ 8 (by decide)]
      congr 1
      have e5 : (v >>> (nI k &&& 31)).toInt = (v >>> (nI k &&& 31)).toBitVec.toInt := rfl
      rw [BitVec.toInt_eq_toNat_cond] at e5
      have hy : (v >>> (nI k &&& 31)).toBitVec.toNat < 2 ^ 32 := (v >>> (nI k &&& 31)).toBitVec.isLt
      rw [e5, e3] at h2
      generalize (v >>> (nI k &&& 31)).toBitVec.toNat = y at *
      generalize v.toBitVec.toNat = x at *
      simp only [Nat.reducePow] at *
      rcases hq with rfl | rfl | rfl | rfl <;> (repeat' split at h2) <;> omega
  rcases hk with rfl | rfl | rfl | rfl
  · exact main 1 (by have := pk_ushr v (nI 0) 0 (by decide); simpa using this) (by have := pk_shr v (nI 0 &&& 31) 0 (by decide); rw [this]; simp) (by decide)
  · exact main 256 (pk_ushr v (nI 8) 8 (by decide)) (by have := pk_shr v (nI 8 &&& 31) 8 (by decide); rw [this, Int.shiftRight_eq_div_pow]) (by decide)
  · exact main 65536 (pk_ushr v (nI 16) 16 (by decide)) (by have := pk_shr v (nI 16 &&& 31) 16 (by decide); rw [this, Int.shiftRight_eq_div_pow]) (by decide)
  · exact main 16777216 (pk_ushr v (nI 24) 24 (by decide)) (by have := pk_shr v (nI 24 &&& 31) 24 (by decide); rw [this, Int.shiftRight_eq_div_pow]) (by decide)
