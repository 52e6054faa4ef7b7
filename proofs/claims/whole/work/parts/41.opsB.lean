section
variable {Mc Mm : ctM} {n : Nat}
abbrev isOfS (own k : Int32) : Prop := k = 0 ∨ k = own ∨ (k = 1 ∧ own = 3) ∨ (k = 2 ∧ own = 4)
theorem c_isOfA {a : Nat} (ha : kdC a = 0) (k : Int32) : fX0_isOf a k Mc = some (if isOfS (Mc.1 a 0) k then 1 else 0, Mc) := by
  unfold fX0_isOf fX0_isOf_b25 fX0_isOf_b38
  rw [gI_at ha]
  simp only [bS]
  by_cases h0 : k = 0
  · rw [if_pos h0, if_pos (Or.inl h0)]
  · rw [if_neg h0]
    by_cases h1 : k = Mc.1 a 0
    · rw [if_pos h1, if_pos (Or.inr (Or.inl h1))]
    · rw [if_neg h1]
      by_cases h2 : k = 1
      · have h3 : ¬ k = 2 := by rw [h2]; decide
        rw [if_pos h2, if_neg h3]
        by_cases h4 : Mc.1 a 0 = 3
        · rw [if_pos h4, if_pos (Or.inr (Or.inr (Or.inl ⟨h2, h4⟩)))]
        · rw [if_neg h4, if_neg (fun z => by rcases z with z | z | z | z <;> first | exact h0 z | exact h1 z | exact h4 z.2 | exact h3 z.1)]
      · rw [if_neg h2]
        by_cases h3 : k = 2
        · rw [if_pos h3]
          by_cases h4 : Mc.1 a 0 = 4
          · rw [if_pos h4, if_pos (Or.inr (Or.inr (Or.inr ⟨h3, h4⟩)))]
          · rw [if_neg h4, if_neg (fun z => by rcases z with z | z | z | z <;> first | exact h0 z | exact h1 z | exact h2 z.1 | exact h4 z.2)]
        · rw [if_neg h3, if_neg (fun z => by rcases z with z | z | z | z <;> first | exact h0 z | exact h1 z | exact h2 z.1 | exact h3 z.1)]
theorem m_isOf (own k : Int32) : fX7_isOf own k Mm = some (if isOfS own k then 1 else 0, Mm) := by
  unfold fX7_isOf fX7_isOf_b19 fX7_isOf_b29
  by_cases h1 : own = k
  · rw [if_pos h1, if_pos (Or.inr (Or.inl h1.symm))]
  · rw [if_neg h1]
    have h1' : ¬ k = own := fun z => h1 z.symm
    by_cases h0 : k = 0
    · rw [if_pos h0, if_pos (Or.inl h0)]
    · rw [if_neg h0]
      by_cases h2 : k = 1
      · have h3 : ¬ k = 2 := by rw [h2]; decide
        rw [if_pos h2, if_neg h3]
        by_cases h4 : own = 3
        · rw [if_pos h4, if_pos (Or.inr (Or.inr (Or.inl ⟨h2, h4⟩)))]
        · rw [if_neg h4, if_neg (fun z => by rcases z with z | z | z | z <;> first | exact h0 z | exact h1' z | exact h4 z.2 | exact h3 z.1)]
      · rw [if_neg h2]
        by_cases h3 : k = 2
        · rw [if_pos h3]
          by_cases h4 : own = 4
          · rw [if_pos h4, if_pos (Or.inr (Or.inr (Or.inr ⟨h3, h4⟩)))]
          · rw [if_neg h4, if_neg (fun z => by rcases z with z | z | z | z <;> first | exact h0 z | exact h1' z | exact h2 z.1 | exact h4 z.2)]
        · rw [if_neg h3, if_neg (fun z => by rcases z with z | z | z | z <;> first | exact h0 z | exact h1' z | exact h2 z.1 | exact h3 z.1)]
theorem op_as : opS2 Sim fX6_as fX7_as := by
  intro Mc Mm h x k
  obtain ⟨pc, pm, _, ag, ⟨n, hi⟩, _⟩ := id h
  have hn := hi.1
  have k0 : rK Mc 82 0 = nI n := (ag 0 (by decide)).symm.trans hi.2.1
  by_cases h1 : 0 ≤ x ∧ x ≤ nI n - 1
  · by_cases h2 : 0 ≤ k ∧ k ≤ 5
    · obtain ⟨f, hf, rfl⟩ := (ix_iff (by omega)).mp h1
      have hf8 : f < 8 := by omega
      have e0 : Mc.1 (82 + 5 + f) 0 = fl (Mm.1 1) f 0 := by rw [ag.fl hf8 (by decide), rK_fl hf8 (by decide)]
      by_cases h3 : isOfS (fl (Mm.1 1) f 0) k
      · refine ⟨fl (Mm.1 1) f 3, Mc, Mm, ?_, ?_, h⟩
        · simp only [fX6_as, o_cV, c_isFlame pc k0, bS, if_pos h1, if_neg i_10, c_isKind, if_pos h2, o_now pc, rm_f1 pc r82, rm_fl pc r82 hf8, fl_cV r82 hf8, c_isOfA (kC_fl r82 hf8), e0, if_pos h3, fl_g r82 hf8 (show 3 < 7 by decide), ag.fl hf8 (show 3 < 7 by decide)]
        · simp only [fX7_as, m_cV, m_isFlame pm hi.2.1, bS, if_pos h1, if_neg i_10, m_isInL k 0 5 0 5 (by decide) (by decide), if_pos h2, m_of0 pm hf8, m_isOf, if_pos h3, m_of3 pm hf8]
      · refine ⟨-1000000012, Mc, Mm, ?_, ?_, h⟩
        · simp only [fX6_as, o_cV, c_isFlame pc k0, bS, if_pos h1, if_neg i_10, c_isKind, if_pos h2, o_now pc, rm_f1 pc r82, rm_fl pc r82 hf8, fl_cV r82 hf8, c_isOfA (kC_fl r82 hf8), e0, if_neg h3, if_true]
        · simp only [fX7_as, m_cV, m_isFlame pm hi.2.1, bS, if_pos h1, if_neg i_10, m_isInL k 0 5 0 5 (by decide) (by decide), if_pos h2, m_of0 pm hf8, m_isOf, if_neg h3, if_true]
    · exact ⟨-1000000001, Mc, Mm, by simp only [fX6_as, o_cV, c_isFlame pc k0, bS, if_pos h1, if_neg i_10, c_isKind, if_neg h2, if_true], by simp only [fX7_as, m_cV, m_isFlame pm hi.2.1, bS, if_pos h1, if_neg i_10, m_isInL k 0 5 0 5 (by decide) (by decide), if_neg h2, if_true], h⟩
  · exact ⟨-1000000001, Mc, Mm, by simp only [fX6_as, o_cV, c_isFlame pc k0, bS, if_neg h1, if_true], by simp only [fX7_as, m_cV, m_isFlame pm hi.2.1, bS, if_neg h1, if_true], h⟩
theorem i_not6 {k : Int32} (h : ¬ (0 ≤ k ∧ k ≤ 6)) : k ≠ 0 ∧ k ≠ 1 ∧ k ≠ 2 ∧ k ≠ 3 ∧ k ≠ 4 ∧ k ≠ 5 ∧ k ≠ 6 :=
  ⟨fun z => h (by rw [z]; decide), fun z => h (by rw [z]; decide), fun z => h (by rw [z]; decide), fun z => h (by rw [z]; decide), fun z => h (by rw [z]; decide), fun z => h (by rw [z]; decide), fun z => h (by rw [z]; decide)⟩
theorem op_told : opS2 Sim fX6_told fX7_told := by
  intro Mc Mm h x k
  obtain ⟨pc, pm, _, ag, ⟨n, hi⟩, _⟩ := id h
  obtain ⟨nt, E, e1, e2⟩ := h.ev
  have hn := hi.1
  have k0 : rK Mc 82 0 = nI n := (ag 0 (by decide)).symm.trans hi.2.1
  by_cases h1 : 0 ≤ x ∧ x ≤ nI n - 1
  · obtain ⟨f, hf, rfl⟩ := (ix_iff (by omega)).mp h1
    have hf8 : f < 8 := by omega
    by_cases h2 : 0 ≤ k ∧ k ≤ 6
    · obtain ⟨j, _, hj, rfl⟩ := rg_in (hi := 6) nI_0.symm rfl (by decide) (by decide) h2
      refine ⟨fl (Mm.1 1) f j, Mc, Mm, ?_, ?_, h⟩
      · rw [ag.fl hf8 (show j < 7 by omega)]
        simp only [fX6_told, o_cV, c_isFlame pc k0, bS, if_pos h1, if_neg i_10, o_now pc, rm_f1 pc r82, rm_fl pc r82 hf8]
        rcases (by omega : j = 0 ∨ j = 1 ∨ j = 2 ∨ j = 3 ∨ j = 4 ∨ j = 5 ∨ j = 6) with rfl | rfl | rfl | rfl | rfl | rfl | rfl
        · rw [if_pos nI_0, fl_g r82 hf8 (by decide), bS]
        · rw [if_neg (by decide), if_pos (by decide), fl_g r82 hf8 (by decide), bS]
        · rw [if_neg (by decide), if_neg (by decide), if_pos (by decide), fl_g r82 hf8 (by decide), bS]
        · rw [if_neg (by decide), if_neg (by decide), if_neg (by decide), if_pos (by decide), fl_g r82 hf8 (by decide), bS]
        · rw [if_neg (by decide), if_neg (by decide), if_neg (by decide), if_neg (by decide), if_pos (by decide), fl_g r82 hf8 (by decide), bS]
        · rw [if_neg (by decide), if_neg (by decide), if_neg (by decide), if_neg (by decide), if_neg (by decide), if_pos (by decide), fl_g r82 hf8 (by decide), bS]
        · rw [if_neg (by decide), if_neg (by decide), if_neg (by decide), if_neg (by decide), if_neg (by decide), if_neg (by decide), if_pos (by decide), fl_g r82 hf8 (by decide), bS]
      · simp only [fX7_told, m_cV, m_isFlame pm hi.2.1, bS, if_pos h1, if_neg i_10, m_isInL (nI j) 0 6 0 6 (by decide) (by decide), if_pos h2, m_of pm f j (by omega)]
    · obtain ⟨q0, q1, q2, q3, q4, q5, q6⟩ := i_not6 h2
      by_cases k7 : k = 7
      · subst k7
        obtain ⟨M2, w1, w2⟩ := c_paceOf pc r82 (hi.ag ag) e2 hf
        obtain ⟨M3, v1, v2⟩ := m_pace pm hi e1 hf
        refine ⟨paceS E (Mm.1 1) f, M2, M3, ?_, ?_, h.scr w2 (WkM.rf.sc v2) (fun _ => rfl)⟩
        · simp only [fX6_told, o_cV, c_isFlame pc k0, bS, if_pos h1, if_neg i_10, o_now pc, rm_f1 pc r82, rm_fl pc r82 hf8, if_neg q0, if_neg q1, if_neg q2, if_neg q3, if_neg q4, if_neg q5, if_neg q6, if_true, rm_cV r82, w1, paceS_ag ag hf8]
        · simp only [fX7_told, m_cV, m_isFlame pm hi.2.1, bS, if_pos h1, if_neg i_10, m_isInL 7 0 6 0 6 (by decide) (by decide), if_neg h2, if_true, v1]
      · by_cases k8 : k = 8
        · subst k8
          obtain ⟨M2, w1, w2⟩ := c_pushesOn pc r82 (hi.ag ag) e2 hf
          obtain ⟨M3, v1, v2⟩ := m_pushes pm hi e1 hf
          refine ⟨psumS E (Mm.1 1) f n, M2, M3, ?_, ?_, h.scr w2 (WkM.rf.sc v2) (fun _ => rfl)⟩
          · simp only [fX6_told, o_cV, c_isFlame pc k0, bS, if_pos h1, if_neg i_10, o_now pc, rm_f1 pc r82, rm_fl pc r82 hf8, if_neg q0, if_neg q1, if_neg q2, if_neg q3, if_neg q4, if_neg q5, if_neg q6, if_neg k7, if_true, rm_cV r82, w1, psumS_ag ag hf8 n hn]
          · simp only [fX7_told, m_cV, m_isFlame pm hi.2.1, bS, if_pos h1, if_neg i_10, m_isInL 8 0 6 0 6 (by decide) (by decide), if_neg h2, if_neg k7, if_true, v1]
        · by_cases k9 : k = 9
          · subst k9
            refine ⟨kWorth (fl (Mm.1 1) f 0) (fl (Mm.1 1) f 3), Mc, Mm, ?_, ?_, h⟩
            · simp only [fX6_told, o_cV, c_isFlame pc k0, bS, if_pos h1, if_neg i_10, o_now pc, rm_f1 pc r82, rm_fl pc r82 hf8, if_neg q0, if_neg q1, if_neg q2, if_neg q3, if_neg q4, if_neg q5, if_neg q6, if_neg k7, if_neg k8, if_true, fl_cV r82 hf8, c_worth r82 hf8, ag.fl hf8 (show 0 < 7 by decide), ag.fl hf8 (show 3 < 7 by decide)]
            · simp only [fX7_told, m_cV, m_isFlame pm hi.2.1, bS, if_pos h1, if_neg i_10, m_isInL 9 0 6 0 6 (by decide) (by decide), if_neg h2, if_neg k7, if_neg k8, if_true, m_worth pm hf8]
          · refine ⟨-1000000001, Mc, Mm, ?_, ?_, h⟩
            · simp only [fX6_told, o_cV, c_isFlame pc k0, bS, if_pos h1, if_neg i_10, o_now pc, rm_f1 pc r82, rm_fl pc r82 hf8, if_neg q0, if_neg q1, if_neg q2, if_neg q3, if_neg q4, if_neg q5, if_neg q6, if_neg k7, if_neg k8, if_neg k9]
            · simp only [fX7_told, m_cV, m_isFlame pm hi.2.1, bS, if_pos h1, if_neg i_10, m_isInL k 0 6 0 6 (by decide) (by decide), if_neg h2, if_neg k7, if_neg k8, if_neg k9, if_true]
  · exact ⟨-1000000001, Mc, Mm, by simp only [fX6_told, o_cV, c_isFlame pc k0, bS, if_neg h1, if_true], by simp only [fX7_told, m_cV, m_isFlame pm hi.2.1, bS, if_neg h1, if_true], h⟩
theorem op_set : opS3 Sim fX6_set fX7_set := by
  intro Mc Mm h x k v
  obtain ⟨pc, pm, _, ag, ⟨n, hi⟩, _⟩ := id h
  have hn := hi.1
  have k0 : rK Mc 82 0 = nI n := (ag 0 (by decide)).symm.trans hi.2.1
  have n10 : ¬ (1 : Int32) = 0 := i_10
  have n20 : ¬ (2 : Int32) = 0 := by decide
  have n21 : ¬ (2 : Int32) = 1 := by decide
  have n02 : ¬ (0 : Int32) = 2 := by decide
  have n01 : ¬ (0 : Int32) = 1 := by decide
  have n12 : ¬ (1 : Int32) = 2 := by decide
  by_cases h1 : 0 ≤ x ∧ x ≤ nI n - 1
  · obtain ⟨f, hf, rfl⟩ := (ix_iff (by omega)).mp h1
    have hf8 : f < 8 := by omega
    by_cases kk0 : k = 0
    · subst kk0
      by_cases h2 : 1 ≤ v ∧ v ≤ 9
      · refine ⟨fl (Mm.1 1) f 3, ctI Mc (82 + 5 + f) 3 v, ctI Mm 1 (14 + 7 * f + 3) v, ?_, ?_, h.put1 hi hf (by decide) ⟨by omega, by omega, by omega, fun _ => rg_in (hi := 9) rfl rfl (by decide) (by decide) h2, by omega, by omega⟩⟩
        · simp only [fX6_set, o_cV, c_isFlame pc k0, bS, if_pos h1, if_neg n10, o_now pc, rm_f1 pc r82, rm_fl pc r82 hf8, if_true, c_within, if_pos h2, fl_g r82 hf8 (show 3 < 7 by decide), fl_p r82 hf8, ag.fl hf8 (show 3 < 7 by decide)]
        · simp only [fX7_set, fX7_set_b55, if_true, m_isInL v 1 9 1 9 (by decide) (by decide), bS, if_pos h2, m_cV, m_isFlame pm hi.2.1, if_pos h1, if_neg n10, m_flameAt, Int32.add_zero, show nI (14 + 7 * f) + 3 = nI (14 + 7 * f + 3) from nI_add _ 3, m_becomes pm (show 14 + 7 * f + 3 < 3070 by omega)]
          rfl
      · refine ⟨-1000000001, Mc, Mm, ?_, ?_, h⟩
        · simp only [fX6_set, fX6_set_b56, fX6_set_b84, o_cV, c_isFlame pc k0, bS, if_pos h1, if_neg n10, o_now pc, rm_f1 pc r82, rm_fl pc r82 hf8, if_true, c_within, if_neg h2, if_neg n01, if_neg n02]
        · simp only [fX7_set, fX7_set_b55, if_true, m_isInL v 1 9 1 9 (by decide) (by decide), bS, if_neg h2, m_cV, m_isFlame pm hi.2.1, if_pos h1, if_neg n10]
    · by_cases kk1 : k = 1
      · subst kk1
        by_cases h2 : 0 ≤ v ∧ v ≤ 119
        · refine ⟨fl (Mm.1 1) f 4, ctI Mc (82 + 5 + f) 4 v, ctI Mm 1 (14 + 7 * f + 4) v, ?_, ?_, h.put1 hi hf (by decide) ⟨by omega, by omega, by omega, by omega, fun _ => rg_in (hi := 119) nI_0.symm rfl (by decide) (by decide) h2, by omega⟩⟩
          · simp only [fX6_set, fX6_set_b56, o_cV, c_isFlame pc k0, bS, if_pos h1, if_neg n10, o_now pc, rm_f1 pc r82, rm_fl pc r82 hf8, if_true, c_isPhase, if_pos h2, fl_g r82 hf8 (show 4 < 7 by decide), fl_p r82 hf8, ag.fl hf8 (show 4 < 7 by decide)]
          · simp only [fX7_set, fX7_set_b55, if_true, m_isInL v 0 119 0 119 (by decide) (by decide), bS, if_pos h2, m_cV, m_isFlame pm hi.2.1, if_pos h1, if_neg n10, m_flameAt, show nI (14 + 7 * f) + 3 + 1 = nI (14 + 7 * f + 4) from by rw [show nI (14 + 7 * f) + 3 = nI (14 + 7 * f + 3) from nI_add _ 3]; exact nI_add _ 1, m_becomes pm (show 14 + 7 * f + 4 < 3070 by omega)]
            rfl
        · refine ⟨-1000000001, Mc, Mm, ?_, ?_, h⟩
          · simp only [fX6_set, fX6_set_b56, fX6_set_b84, o_cV, c_isFlame pc k0, bS, if_pos h1, if_neg n10, o_now pc, rm_f1 pc r82, rm_fl pc r82 hf8, if_true, c_isPhase, if_neg h2, if_neg n12]
          · simp only [fX7_set, fX7_set_b55, if_true, m_isInL v 0 119 0 119 (by decide) (by decide), bS, if_neg h2, m_cV, m_isFlame pm hi.2.1, if_pos h1, if_neg n10]
      · by_cases kk2 : k = 2
        · subst kk2
          by_cases h2 : 0 ≤ v ∧ v ≤ 999
          · refine ⟨fl (Mm.1 1) f 5, ctI Mc (82 + 5 + f) 5 v, ctI Mm 1 (14 + 7 * f + 5) v, ?_, ?_, h.put1 hi hf (by decide) ⟨by omega, by omega, by omega, by omega, by omega, fun _ => rg_in (hi := 999) nI_0.symm rfl (by decide) (by decide) h2⟩⟩
            · simp only [fX6_set, fX6_set_b56, fX6_set_b84, o_cV, c_isFlame pc k0, bS, if_pos h1, if_neg n10, if_neg n20, if_neg n21, o_now pc, rm_f1 pc r82, rm_fl pc r82 hf8, if_true, c_within, if_pos h2, fl_g r82 hf8 (show 5 < 7 by decide), fl_p r82 hf8, ag.fl hf8 (show 5 < 7 by decide)]
            · simp only [fX7_set, fX7_set_b55, if_true, if_neg n20, if_neg n21, m_isInL v 0 999 0 999 (by decide) (by decide), bS, if_pos h2, m_cV, m_isFlame pm hi.2.1, if_pos h1, if_neg n10, m_flameAt, show nI (14 + 7 * f) + 3 + 2 = nI (14 + 7 * f + 5) from by rw [show nI (14 + 7 * f) + 3 = nI (14 + 7 * f + 3) from nI_add _ 3]; exact nI_add _ 2, m_becomes pm (show 14 + 7 * f + 5 < 3070 by omega)]
              rfl
          · refine ⟨-1000000001, Mc, Mm, ?_, ?_, h⟩
            · simp only [fX6_set, fX6_set_b56, fX6_set_b84, o_cV, c_isFlame pc k0, bS, if_pos h1, if_neg n10, if_neg n20, if_neg n21, o_now pc, rm_f1 pc r82, rm_fl pc r82 hf8, if_true, c_within, if_neg h2]
            · simp only [fX7_set, fX7_set_b55, fX7_set_b54, if_true, if_neg n20, if_neg n21, m_isInL v 0 999 0 999 (by decide) (by decide), bS, if_neg h2, m_cV, m_isFlame pm hi.2.1, if_pos h1, if_neg n10]
        · refine ⟨-1000000001, Mc, Mm, ?_, ?_, h⟩
          · simp only [fX6_set, fX6_set_b56, fX6_set_b84, o_cV, c_isFlame pc k0, bS, if_pos h1, if_neg n10, o_now pc, rm_f1 pc r82, rm_fl pc r82 hf8, if_neg kk0, if_neg kk1, if_neg kk2]
          · simp only [fX7_set, fX7_set_b55, fX7_set_b54, if_true, if_neg kk0, if_neg kk1, if_neg kk2, bS, m_cV, m_isFlame pm hi.2.1, if_pos h1, if_neg n10]
  · refine ⟨-1000000001, Mc, Mm, by simp only [fX6_set, o_cV, c_isFlame pc k0, bS, if_neg h1, if_true], ?_, h⟩
    have bad : ∀ z, fX7_set_b55 0 x k v z Mm = some (-1000000001, Mm) := by
      intro z
      simp only [fX7_set_b55, m_cV, m_isFlame pm hi.2.1, bS, if_neg h1, if_true]
    simp only [fX7_set, fX7_set_b54, m_isInL v 1 9 1 9 (by decide) (by decide), m_isInL v 0 119 0 119 (by decide) (by decide), m_isInL v 0 999 0 999 (by decide) (by decide), bS, bad, ite_self]
end
