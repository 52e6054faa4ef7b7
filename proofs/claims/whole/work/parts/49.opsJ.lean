section
variable {Mc Mm : ctM} {n : Nat}
theorem lay_bad {x t k z : Int32} (hx : ¬ (0 ≤ x ∧ x ≤ 4)) : fX6_lay_b30 0 x t k z Mc = some (-1000000001, Mc) ∧ ∀ z, fX7_lay_b39 0 x t k z Mm = some (-1000000001, Mm) := by
  refine ⟨?_, fun z => ?_⟩
  · simp only [fX6_lay_b30, c_isSlot, bS, if_neg hx, if_true]
  · simp only [fX7_lay_b39, m_isSlot, bS, if_neg hx, if_true]
theorem op_lay : opS3 Sim fX6_lay fX7_lay := by
  intro Mc Mm h x t k
  obtain ⟨pc, pm, _, ag, ⟨n, hi⟩, _⟩ := id h
  have hn := hi.1
  have k0 : rK Mc 82 0 = nI n := (ag 0 (by decide)).symm.trans hi.2.1
  by_cases hx : 0 ≤ x ∧ x ≤ 4
  · obtain ⟨i, _, hi5', rfl⟩ := rg_in (hi := 4) nI_0.symm rfl (by decide) (by decide) hx
    have hi5 : i < 5 := by omega
    by_cases t1 : t = 1
    · subst t1
      have w : (0 : Int32) ≤ 1 ∧ (1 : Int32) ≤ 3 := by decide
      have n2 : ¬ (1 : Int32) = 2 := by decide
      have n3 : ¬ (1 : Int32) = 3 := by decide
      by_cases hk : 0 ≤ k ∧ k ≤ nI n - 1
      · obtain ⟨f, hf, rfl⟩ := (ix_iff (by omega)).mp hk
        obtain ⟨M2, M3, g1, g2, g3⟩ := lay_flame h hi hi5 hf
        refine ⟨Mm.1 7 i, M2, M3, ?_, ?_, g3⟩
        · simp only [fX6_lay, fX6_lay_b30, if_true, o_cV, c_isFlame pc k0, bS, if_pos hk, c_isSlot, if_pos hx, if_neg i_10, c_within, if_pos w, if_neg n2]
          exact g1
        · simp only [fX7_lay, fX7_lay_b34, fX7_lay_b39, if_neg i_10, if_neg n3, if_true, m_cV, m_isFlame pm hi.2.1, bS, if_pos hk, m_isSlot, if_pos hx, if_neg n2]
          exact g2
      · refine ⟨-1000000001, Mc, Mm, ?_, ?_, h⟩
        · simp only [fX6_lay, fX6_lay_b30, if_true, o_cV, c_isFlame pc k0, bS, if_neg hk, c_isSlot, if_pos hx, if_neg i_10, c_within, if_pos w]
        · simp only [fX7_lay, fX7_lay_b22, fX7_lay_b38, fX7_lay_b39, if_neg i_10, if_neg n3, if_true, m_cV, m_isFlame pm hi.2.1, bS, if_neg hk, m_isSlot, if_pos hx, if_neg n2]
    · by_cases t2 : t = 2
      · subst t2
        have w : (0 : Int32) ≤ 2 ∧ (2 : Int32) ≤ 3 := by decide
        have n0 : ¬ (2 : Int32) = 0 := by decide
        have n3 : ¬ (2 : Int32) = 3 := by decide
        by_cases hk : 0 ≤ k ∧ k ≤ 3
        · obtain ⟨f, _, hf, rfl⟩ := rg_in (hi := 3) nI_0.symm rfl (by decide) (by decide) hk
          have hf4 : f < 4 := by omega
          obtain ⟨a1, a2, a3, _, _⟩ := h.sh f hf4
          have sn := sort_neg a3
          by_cases em : Mm.1 4 f = -1
          · refine ⟨-1000000011, Mc, Mm, ?_, ?_, h⟩
            · simp only [fX6_lay, fX6_lay_b25, fX6_lay_b30, if_neg t1, if_true, bS, c_isSheet, if_pos hk, c_isSlot, if_pos hx, if_neg i_10, c_within, if_pos w, o_sheets pc, sh_at pc hf4, sh_cV hf4, c_missA (kC_row_ f hf4).1, a1, if_pos em]
            · simp only [fX7_lay, fX7_lay_b22, fX7_lay_b34, fX7_lay_b39, if_neg n0, if_neg n3, if_neg t1, if_neg i_10, if_true, bS, m_isSheet, if_pos hk, m_isSlot, if_pos hx, gM4 pm, mt4 hf4, if_neg (show ¬ (0 : Int32) ≤ Mm.1 4 f from fun z => sn.1.mp z em)]
          · obtain ⟨M2, M3, g1, g2, g3⟩ := lay_row h hi5 hf4
            refine ⟨Mm.1 7 i, M2, M3, ?_, ?_, g3⟩
            · simp only [fX6_lay, fX6_lay_b25, fX6_lay_b30, if_neg t1, if_true, bS, c_isSheet, if_pos hk, c_isSlot, if_pos hx, if_neg i_10, c_within, if_pos w, o_sheets pc, sh_at pc hf4, sh_cV hf4, c_missA (kC_row_ f hf4).1, a1, if_neg em]
              exact g1
            · simp only [fX7_lay, fX7_lay_b22, fX7_lay_b34, fX7_lay_b39, if_neg n0, if_neg n3, if_neg t1, if_neg i_10, if_true, bS, m_isSheet, if_pos hk, m_isSlot, if_pos hx, gM4 pm, mt4 hf4, if_pos (sn.1.mpr em)]
              exact g2
        · refine ⟨-1000000001, Mc, Mm, ?_, ?_, h⟩
          · simp only [fX6_lay, fX6_lay_b30, if_neg t1, if_true, bS, c_isSheet, if_neg hk, c_isSlot, if_pos hx, if_neg i_10, c_within, if_pos w]
          · simp only [fX7_lay, fX7_lay_b22, fX7_lay_b38, fX7_lay_b39, if_neg n0, if_neg n3, if_neg t1, if_neg i_10, if_true, bS, m_isSheet, if_neg hk, m_isSlot, if_pos hx]
      · by_cases t03 : t = 0 ∨ t = 3
        · have w : (0 : Int32) ≤ t ∧ t ≤ 3 := by rcases t03 with rfl | rfl <;> decide
          obtain ⟨M2, M3, g1, g2, g3⟩ := lay_num (t := t) (k := k) h hi5 t03
          have good : fX7_lay_b34 0 (nI i) t k Mm = some (Mm.1 7 i, M3) := by
            simp only [fX7_lay_b34, fX7_lay_b39, m_isSlot, bS, if_pos hx, if_neg i_10, if_neg t2]
            exact g2
          refine ⟨Mm.1 7 i, M2, M3, ?_, ?_, g3⟩
          · simp only [fX6_lay, fX6_lay_b25, fX6_lay_b30, if_neg t1, if_neg t2, bS, c_isSlot, if_pos hx, if_neg i_10, c_within, if_pos w]
            exact g1
          · unfold fX7_lay
            by_cases t0 : t = 0
            · rw [if_pos t0]; exact good
            · rw [if_neg t0, if_pos (t03.resolve_left t0)]; exact good
        · have t0 : ¬ t = 0 := fun z => t03 (Or.inl z)
          have t3 : ¬ t = 3 := fun z => t03 (Or.inr z)
          have w : ¬ ((0 : Int32) ≤ t ∧ t ≤ 3) := by
            intro z
            obtain ⟨j, _, hj, rfl⟩ := rg_in (hi := 3) nI_0.symm rfl (by decide) (by decide) z
            rcases (by omega : j = 0 ∨ j = 1 ∨ j = 2 ∨ j = 3) with rfl | rfl | rfl | rfl
            · exact t0 rfl
            · exact t1 rfl
            · exact t2 rfl
            · exact t3 rfl
          refine ⟨-1000000001, Mc, Mm, ?_, ?_, h⟩
          · simp only [fX6_lay, fX6_lay_b25, fX6_lay_b30, if_neg t1, if_neg t2, bS, c_isSlot, if_pos hx, if_neg i_10, c_within, if_neg w, if_true]
          · simp only [fX7_lay, fX7_lay_b22, fX7_lay_b38, fX7_lay_b39, if_neg t0, if_neg t1, if_neg t2, if_neg t3, bS, m_isSlot, if_pos hx, if_neg i_10, if_true]
  · refine ⟨-1000000001, Mc, Mm, ?_, ?_, h⟩
    · have b := fun z => (lay_bad (Mc := Mc) (Mm := Mm) (t := t) (k := k) (z := z) hx).1
      simp only [fX6_lay, fX6_lay_b25, o_cV, c_isFlame pc k0, c_isSheet, bS, b, ite_self]
    · have b := (lay_bad (Mc := Mc) (Mm := Mm) (t := t) (k := k) (z := 0) hx).2
      simp only [fX7_lay, fX7_lay_b22, fX7_lay_b34, fX7_lay_b38, m_cV, m_isFlame pm hi.2.1, m_isSheet, bS, b, ite_self]
end
