section
variable {Mc Mm : ctM} {n : Nat}
theorem tick_txt {E : Ev} {K : Kv} (hn : n ≤ 8) {j : Nat} (hj : j = 1 ∨ 70 ≤ j) : tickS E K n j = K j := tick_o (by omega) (by omega) (by omega)
/-- a tick in earnest -/
theorem tick_sim (h : Sim Mc Mm) : ∃ (v : Int32) (Mc2 Mm2 : ctM), fX2_goBy 82 Mc = some (v, Mc2) ∧ fX7_ticks 0 Mm = some (v, Mm2) ∧ Sim Mc2 Mm2 := by
  obtain ⟨pc, pm, _, ag, ⟨n, hi⟩, _⟩ := id h
  obtain ⟨nt, E, e1, e2⟩ := h.ev
  have hn := hi.1
  obtain ⟨M2, w1, w2⟩ := c_goBy pc r82 (hi.ag ag) e2
  obtain ⟨M3, v1, v2⟩ := m_ticks pm hi e1
  refine ⟨fsumS E (Mm.1 1) n n, M2, M3, ?_, v1, h.put w2 (WkM.rf.tk v2) (tickS_ag ag hn) (tick_inv hi) (fun j hj => tick_txt hn hj) (h.sy.of (fun i hi => tick_o (by omega) (by omega) (by omega)))⟩
  rw [w1, fsumS_ag ag hn n hn]
theorem run_sim {m : Nat} (hm : m ≤ 60) : ∀ (d j N N2 : Nat) (v : Int32) (Mc Mm : ctM), Sim Mc Mm → j + d = m → d < N → d < N2 → ∃ (w : Int32) (Mc2 Mm2 : ctM), fX6_run_h17 N 0 (nI m) v (nI j) Mc = some (w, Mc2) ∧ fX7_run_h19 N2 0 (nI m) v (nI j) Mm = some (w, Mm2) ∧ Sim Mc2 Mm2 := by
  intro d
  induction d with
  | zero =>
    intro j N N2 v Mc Mm h hj hN hN2
    obtain ⟨N, rfl⟩ : ∃ k, N = k + 1 := ⟨N - 1, by omega⟩
    obtain ⟨N2, rfl⟩ : ∃ k, N2 = k + 1 := ⟨N2 - 1, by omega⟩
    have : j = m := by omega
    subst this
    refine ⟨v, Mc, Mm, ?_, ?_, h⟩
    · rw [fX6_run_h17, if_pos (nI_le (Nat.le_refl _) (by omega))]
    · rw [fX7_run_h19, if_pos (nI_le (Nat.le_refl _) (by omega))]
  | succ d ih =>
    intro j N N2 v Mc Mm h hj hN hN2
    obtain ⟨N, rfl⟩ : ∃ k, N = k + 1 := ⟨N - 1, by omega⟩
    obtain ⟨N2, rfl⟩ : ∃ k, N2 = k + 1 := ⟨N2 - 1, by omega⟩
    obtain ⟨u, Mc1, Mm1, a1, a2, a3⟩ := tick_sim h
    obtain ⟨w, Mc2, Mm2, b1, b2, b3⟩ := ih (j + 1) N N2 (v + u) Mc1 Mm1 a3 (by omega) (by omega) (by omega)
    refine ⟨w, Mc2, Mm2, ?_, ?_, b3⟩
    · rw [fX6_run_h17, if_neg (nI_ge (show j < m by omega) (by omega)), o_now h.1, bS, rm_cV r82, a1, bS, nI_1]
      exact b1
    · rw [fX7_run_h19, if_neg (nI_ge (show j < m by omega) (by omega)), m_cV, a2, bS, nI_1]
      exact b2
theorem op_run : opS1 Sim fX6_run fX7_run := by
  intro Mc Mm h x
  by_cases h1 : 1 ≤ x ∧ x ≤ 60
  · obtain ⟨m, _, hm, rfl⟩ := rg_in (lo := 1) (hi := 60) rfl rfl (by decide) (by decide) h1
    obtain ⟨w, Mc2, Mm2, b1, b2, b3⟩ := run_sim (m := m) (by omega) m 0 4000 4000 0 Mc Mm h (by omega) (by omega) (by omega)
    rw [nI_0] at b1 b2
    refine ⟨w, Mc2, Mm2, ?_, ?_, b3⟩
    · unfold fX6_run
      rw [c_within, bS, if_pos h1, if_neg i_10]
      exact b1
    · unfold fX7_run
      rw [m_isInL (nI m) 1 60 1 60 (by decide) (by decide), bS, if_pos h1, if_neg i_10]
      exact b2
  · refine ⟨-1000000001, Mc, Mm, ?_, ?_, h⟩
    · unfold fX6_run
      rw [c_within, bS, if_neg h1, if_pos rfl]
    · unfold fX7_run
      rw [m_isInL x 1 60 1 60 (by decide) (by decide), bS, if_neg h1, if_pos rfl]
theorem m_litMany (h : PM Mm) (hn : n ≤ 8) (h0 : Mm.1 1 0 = nI n) : fX7_litMany 0 Mm = some (nI (lmS (Mm.1 1) n), Mm) := by
  have key : ∀ (m j N : Nat), m + j = n → m < N → fX7_litMany_h4 N 0 (nI (lmS (Mm.1 1) j)) (nI j) Mm = some (nI (lmS (Mm.1 1) n), Mm) := by
    intro m
    induction m with
    | zero =>
      intro j N h1 h2
      obtain ⟨N, rfl⟩ : ∃ k, N = k + 1 := ⟨N - 1, by omega⟩
      have : j = n := by omega
      subst this
      rw [fX7_litMany_h4, gM0 h, bS, m_s0, h0, bS, if_pos (nI_le (Nat.le_refl _) (by omega))]
    | succ m ih =>
      intro j N h1 h2
      obtain ⟨N, rfl⟩ : ∃ k, N = k + 1 := ⟨N - 1, by omega⟩
      have hj8 : j < 8 := by omega
      rw [fX7_litMany_h4, gM0 h, bS, m_s0, h0, bS, if_neg (nI_ge (show j < n by omega) (by omega)), m_cV, m_isLit h j hj8, bS]
      have e := ih (j + 1) N (by omega) (by omega)
      unfold fX7_litMany_b28
      rw [nI_1]
      by_cases hl : fl (Mm.1 1) j 5 ≤ 0
      · simp only [lmS, if_pos hl] at e
        simp only [if_pos hl, if_true, Int32.add_zero]
        exact e
      · simp only [lmS, if_neg hl] at e
        simp only [if_neg hl]
        rw [if_neg (by decide), nI_1]
        exact e
  exact key n 0 4000 (by omega) (by omega)
theorem op_count : opS1 Sim fX6_count fX7_count := by
  intro Mc Mm h x
  obtain ⟨pc, pm, _, ag, ⟨n, hi⟩, _, _, _, tp, wt, _⟩ := id h
  have hn := hi.1
  have k0 : rK Mc 82 0 = nI n := (ag 0 (by decide)).symm.trans hi.2.1
  obtain ⟨len, _, l2, l3, _⟩ := tp
  obtain ⟨w, _, w2, w3, _⟩ := wt
  unfold fX6_count fX7_count
  by_cases h0 : x = 0
  · exact ⟨_, _, _, by rw [if_pos h0, o_now pc, bS, rm_i5 r82, bS], by rw [if_pos h0, gM0 pm, bS, m_s0, bS, ag 0 (by decide)], h⟩
  rw [if_neg h0, if_neg h0]
  by_cases h1 : x = 1
  · exact ⟨_, _, _, by rw [if_pos h1, o_now pc, bS, rm_cV r82, c_litMany pc r82 hn k0, bS], by rw [if_pos h1, m_cV, m_litMany pm hn hi.2.1, bS, lmS_ag ag n hn], h⟩
  rw [if_neg h1, if_neg h1]
  by_cases h2 : x = 2
  · exact ⟨_, _, _, by rw [if_pos h2, o_now pc, bS, rm_i8 r82, bS], by rw [if_pos h2, gM0 pm, bS, m_s2, bS, ag 2 (by decide)], h⟩
  rw [if_neg h2, if_neg h2]
  by_cases h3 : x = 3
  · exact ⟨_, _, _, by rw [if_pos h3, o_now pc, bS, rm_i6 r82, bS], by rw [if_pos h3, gM0 pm, bS, m_s3, bS, ag 3 (by decide)], h⟩
  rw [if_neg h3, if_neg h3]
  by_cases h4 : x = 4
  · exact ⟨_, _, _, by rw [if_pos h4, o_now pc, bS, rm_i7 r82, bS], by rw [if_pos h4, gM0 pm, bS, m_s4, bS, ag 4 (by decide)], h⟩
  rw [if_neg h4, if_neg h4]
  by_cases h5 : x = 5
  · exact ⟨_, _, _, by rw [if_pos h5, o_now pc, bS, rm_i10 r82, bS], by rw [if_pos h5, gM0 pm, bS, m_s1, bS, ag 1 (by decide)], h⟩
  rw [if_neg h5, if_neg h5]
  by_cases h6 : x = 6
  · exact ⟨_, _, _, by rw [if_pos h6, o_g, bS, w2], by rw [if_pos h6, m_g0, bS, w3], h⟩
  rw [if_neg h6, if_neg h6]
  by_cases h7 : x = 7
  · exact ⟨_, _, _, by rw [if_pos h7, o_tape pc, bS, gI_at (show kdC 4 = 5 from rfl), bS, l2], by rw [if_pos h7, m_g0, bS, l3], h⟩
  rw [if_neg h7, if_neg h7]
  by_cases h8 : x = 8
  · exact ⟨_, _, _, by rw [if_pos h8, o_now pc, bS, rm_i9 r82, bS], by rw [if_pos h8, gM0 pm, bS, m_s5, bS, ag 5 (by decide)], h⟩
  rw [if_neg h8, if_neg h8]
  exact ⟨_, _, _, rfl, rfl, h⟩
theorem op_why : opS1 Sim fX6_why fX7_why := by
  intro Mc Mm h x
  obtain ⟨pc, pm, _, ag, ⟨n, hi⟩, ⟨nt, tx, ct, _⟩, _⟩ := id h
  by_cases h1 : 0 ≤ x ∧ x ≤ 2
  · obtain ⟨k, _, hk, rfl⟩ := rg_in (hi := 2) nI_0.symm rfl (by decide) (by decide) h1
    have hk3 : k < 3 := by omega
    have ec := ct k hk3
    refine ⟨if 0 ≤ cntS (kfS (Mm.1 1)) (nI k) nt then cntS (kfS (Mm.1 1)) (nI k) nt else -1000000005, Mc, Mm, ?_, ?_, h⟩
    · simp only [fX6_why, c_within, bS, if_pos h1, if_neg i_10, o_now pc, rm_f4 pc r82, rm_ct r82 hk3, ec, if_sp]
    · simp only [fX7_why, fX7_orNone, m_isInL (nI k) 0 2 0 2 (by decide) (by decide), bS, if_pos h1, if_neg i_10, m_cV, m_counts pm tx.1 tx.2.1 (nI k), if_sp]
  · exact ⟨-1000000001, Mc, Mm, by simp only [fX6_why, c_within, bS, if_neg h1, if_true], by simp only [fX7_why, m_isInL x 0 2 0 2 (by decide) (by decide), bS, if_neg h1, if_true], h⟩
theorem op_textTold : opS2 Sim fX6_textTold fX7_textTold := by
  intro Mc Mm h x k
  obtain ⟨pc, pm, _, ag, ⟨n, hi⟩, ⟨nt, tx, ct, _⟩, _⟩ := id h
  have hnt := tx.1
  have k1 : rK Mc 82 1 = nI nt := (ag 1 (by decide)).symm.trans tx.2.1
  by_cases h1 : 0 ≤ x ∧ x ≤ nI nt - 1
  · by_cases h2 : 0 ≤ k ∧ k ≤ 1
    · obtain ⟨t, ht, rfl⟩ := (ix_iff (by omega)).mp h1
      obtain ⟨j, _, hj, rfl⟩ := rg_in (hi := 1) nI_0.symm rfl (by decide) (by decide) h2
      obtain ⟨key, g, a, a1, a2, a3, a4, a5, a6, _⟩ := tx.2.2 t ht
      have eP : aP kdC lnC 12 11 (nI t) Mc = some a := (aP_at (n := 14) (by decide) (by decide) (by omega) (by decide)).trans a3
      have kl := (kC_law a4).1
      rcases (by omega : j = 0 ∨ j = 1) with rfl | rfl
      · refine ⟨Mc.1 a 0, Mc, Mm, ?_, ?_, h⟩
        · simp only [fX6_textTold, o_now pc, bS, rm_i10 r82, k1, c_within, if_pos h1, if_neg i_10, if_pos h2, if_pos nI_0, o_laws pc, eP, gI_at kl]
        · simp only [fX7_textTold, m_cV, m_isText pm tx.2.1, bS, if_pos h1, if_neg i_10, m_isInL (nI 0) 0 1 0 1 (by decide) (by decide), if_pos h2, gM0 pm, m_textAt, nI_add, m_s (show 70 + 200 * t + 0 < 3070 by omega)]
          rw [show 70 + 200 * t + 0 = 70 + 200 * t from rfl, a2, a5]
      · refine ⟨Mc.1 a 1, Mc, Mm, ?_, ?_, h⟩
        · simp only [fX6_textTold, o_now pc, bS, rm_i10 r82, k1, c_within, if_pos h1, if_neg i_10, if_pos h2, if_neg (show ¬ nI 1 = 0 by decide), o_laws pc, eP, gI_at kl]
        · simp only [fX7_textTold, m_cV, m_isText pm tx.2.1, bS, if_pos h1, if_neg i_10, m_isInL (nI 1) 0 1 0 1 (by decide) (by decide), if_pos h2, gM0 pm, m_textAt, nI_add, m_s (show 70 + 200 * t + 1 < 3070 by omega)]
          rw [show 70 + 200 * t + 1 = 71 + 200 * t by omega, a6]
    · exact ⟨-1000000001, Mc, Mm, by simp only [fX6_textTold, o_now pc, bS, rm_i10 r82, k1, c_within, if_pos h1, if_neg i_10, if_neg h2, if_true], by simp only [fX7_textTold, m_cV, m_isText pm tx.2.1, bS, if_pos h1, if_neg i_10, m_isInL k 0 1 0 1 (by decide) (by decide), if_neg h2, if_true], h⟩
  · exact ⟨-1000000001, Mc, Mm, by simp only [fX6_textTold, o_now pc, bS, rm_i10 r82, k1, c_within, if_neg h1, if_true], by simp only [fX7_textTold, m_cV, m_isText pm tx.2.1, bS, if_neg h1, if_true], h⟩
end
