section
variable {Mc Mm Mc0 Mm0 : ctM} {n : Nat} {E : Ev}
theorem hits_sim (s : Sim Mc0 Mm0) {i f len : Nat} (hi4 : i < 4) (hf : f < n) (hl : len ≤ 24) (h5 : Mm0.1 5 i = nI len) {k43 : Nat → Int32 → Int32 → Int32 → Int32 → Int32 → ctM → Option (Int32 × ctM)} {x3 x4 x5 : Int32} : ∀ (d j c N N2 : Nat) (Mc Mm : ctM), Th Mc0 Mm0 n E Mc Mm → j + d = len → c ≤ j → d < N → d < N2 → ∃ (c' : Nat) (Mc2 Mm2 : ctM), c' ≤ len ∧ Rs Mc0 Mm0 Mc2 Mm2 ∧ fX6_hitsWith_h25 N 0 (121 + 2 * i) (nI f) (nI c) (nI j) Mc = some (nI c', Mc2) ∧ fX7_learn_h64 k43 N2 0 (nI i) (nI f) x3 x4 x5 (nI c) (nI j) Mm = (if nI c' ≤ x4 then fX7_learn_b135 k43 0 (nI i) (nI f) x4 x5 (nI c') x3 Mm2 else fX7_learn_b135 k43 0 (nI i) (nI f) x4 x5 (nI c') x5 Mm2) := by
  obtain ⟨a1, a2, a3, a4, a5⟩ := s.sh i hi4
  have cl : ∀ {Mc Mm}, Th Mc0 Mm0 n E Mc Mm → Mc.1 (121 + 2 * i) = Mc0.1 (121 + 2 * i) ∧ Mc.1 (122 + 2 * i) = Mc0.1 (122 + 2 * i) ∧ Mm.1 5 = Mm0.1 5 ∧ Mm.1 6 = Mm0.1 6 := fun h => ⟨h.1.2.1 _ (by omega) (by omega), h.1.2.1 _ (by omega) (by omega), h.2.1.1.2.2.1 5 (by decide) (by decide) (by decide) (by decide) (by decide) (by decide) (by decide) (by decide) (by decide), h.2.1.1.2.2.1 6 (by decide) (by decide) (by decide) (by decide) (by decide) (by decide) (by decide) (by decide) (by decide)⟩
  intro d
  induction d with
  | zero =>
    intro j c N N2 Mc Mm h hj hc hN hN2
    obtain ⟨N, rfl⟩ : ∃ k, N = k + 1 := ⟨N - 1, by omega⟩
    obtain ⟨N2, rfl⟩ : ∃ k, N2 = k + 1 := ⟨N2 - 1, by omega⟩
    have : j = len := by omega
    subst this
    obtain ⟨M3, b1, b2⟩ := th_rs s h
    obtain ⟨q1, q2, q3, q4⟩ := cl h
    refine ⟨c, Mc, M3, hc, b2, ?_, ?_⟩
    · rw [fX6_hitsWith_h25, sh_g hi4, q1, a2, h5, bS, if_pos (nI_le (Nat.le_refl _) (by omega))]
    · rw [fX7_learn_h64, gM5 (h.pm s.2.1), bS, mt5 hi4, q3, h5, bS, if_pos (nI_le (Nat.le_refl _) (by omega)), m_cV, b1, bS]
  | succ d ih =>
    intro j c N N2 Mc Mm h hj hc hN hN2
    obtain ⟨N, rfl⟩ : ∃ k, N = k + 1 := ⟨N - 1, by omega⟩
    obtain ⟨N2, rfl⟩ : ∃ k, N2 = k + 1 := ⟨N2 - 1, by omega⟩
    have hj24 : j < 24 := by omega
    have hf8 : f < 8 := by have := h.2.2.2.1; omega
    obtain ⟨u, Mc1, Mm1, t1, t2, t3⟩ := th_tick s h
    obtain ⟨q1, q2, q3, q4⟩ := cl h
    obtain ⟨p1, p2, p3, p4⟩ := cl t3
    have pc1 := t3.pc s.1
    have pm1 := t3.pm s.2.1
    have pre1 : fX6_hitsWith_h25 (N + 1) 0 (121 + 2 * i) (nI f) (nI c) (nI j) Mc = if Mm0.1 6 (24 * i + j) = fl (Mm1.1 1) f 4 then fX6_hitsWith_h25 N 0 (121 + 2 * i) (nI f) (nI (c + 1)) (nI (j + 1)) Mc1 else fX6_hitsWith_h25 N 0 (121 + 2 * i) (nI f) (nI c) (nI (j + 1)) Mc1 := by
      rw [fX6_hitsWith_h25, sh_g hi4, q1, a2, h5, bS, if_neg (nI_ge (show j < len by omega) (by omega)), o_tho (h.pc s.1), bS, rm_cV r95, t1, bS, sh_pl pc1 hi4, bS, sh_r hi4 hj24, bS, o_tho pc1, bS, rm_f1 pc1 r95, bS, rm_fl pc1 r95 hf8, bS, fl_g r95 hf8 (by decide), bS, p2, a5 j hj24, ← t3.2.2.1.fl hf8 (by decide)]
      unfold fX6_hitsWith_b71
      rw [nI_1, nI_1, Int32.add_zero]
    have pre2 : fX7_learn_h64 k43 (N2 + 1) 0 (nI i) (nI f) x3 x4 x5 (nI c) (nI j) Mm = if Mm0.1 6 (24 * i + j) = fl (Mm1.1 1) f 4 then fX7_learn_h64 k43 N2 0 (nI i) (nI f) x3 x4 x5 (nI (c + 1)) (nI (j + 1)) Mm1 else fX7_learn_h64 k43 N2 0 (nI i) (nI f) x3 x4 x5 (nI c) (nI (j + 1)) Mm1 := by
      rw [fX7_learn_h64, gM5 (h.pm s.2.1), bS, mt5 hi4, q3, h5, bS, if_neg (nI_ge (show j < len by omega) (by omega)), m_cV, t2, bS, gM6 pm1, bS, i_24, mt6 (show 24 * i + j < 96 by omega), bS, m_cV, m_of4 pm1 hf8, bS, p4]
      unfold fX7_learn_b109
      rw [nI_1, nI_1, Int32.add_zero]
    rw [pre1, pre2]
    by_cases e : Mm0.1 6 (24 * i + j) = fl (Mm1.1 1) f 4
    · rw [if_pos e, if_pos e]
      exact ih (j + 1) (c + 1) N N2 Mc1 Mm1 t3 (by omega) (by omega) (by omega) (by omega)
    · rw [if_neg e, if_neg e]
      exact ih (j + 1) c N N2 Mc1 Mm1 t3 (by omega) (by omega) (by omega) (by omega)
theorem learn_sim (s : Sim Mc0 Mm0) (hi : Inv (Mm0.1 1) n) {nt : Nat} (e1 : EvM (Mm0.1 1) nt E) (e2 : EvC Mc0 82 E) {i f len : Nat} (hi4 : i < 4) (hf : f < n) (hl : len ≤ 24) (h5 : Mm0.1 5 i = nI len) : ∀ (d k N N2 : Nat) (b mc mm : Int32) (Mc Mm : ctM), Rs Mc0 Mm0 Mc Mm → k + d = 30 → d < N → d < N2 → (mm = mc ∨ (k = 0 ∧ b = 0 ∧ mc = 0 ∧ mm = -1)) → ∃ (v : Int32) (Mc2 Mm2 : ctM), fX6_learn_h44 N 0 (nI f) (121 + 2 * i) b mc (nI k) Mc = some (v, Mc2) ∧ fX7_learn_h43 N2 0 (nI i) (nI f) b mm (nI k) Mm = some (v, Mm2) ∧ Sim Mc2 Mm2 := by
  intro d
  induction d with
  | zero =>
    intro k N N2 b mc mm Mc Mm h hk hN hN2 hb
    obtain ⟨N, rfl⟩ : ∃ k, N = k + 1 := ⟨N - 1, by omega⟩
    obtain ⟨N2, rfl⟩ : ∃ k, N2 = k + 1 := ⟨N2 - 1, by omega⟩
    have : k = 30 := by omega
    subst this
    refine ⟨b, Mc, Mm, ?_, ?_, h.sim s⟩
    · rw [fX6_learn_h44, if_pos (by decide)]
    · rw [fX7_learn_h43, if_pos (by decide)]
  | succ d ih =>
    intro k N N2 b mc mm Mc Mm h hk hN hN2 hb
    obtain ⟨N, rfl⟩ : ∃ k, N = k + 1 := ⟨N - 1, by omega⟩
    obtain ⟨N2, rfl⟩ : ∃ k, N2 = k + 1 := ⟨N2 - 1, by omega⟩
    obtain ⟨Mc1, a1, t⟩ := rs_th s hi e1 e2 h
    have t' := th_near (v := nI k) t
    have pc := h.pc s
    have pc1 := t.pc s.1
    obtain ⟨c, Mc2, Mm2, g0, g1, g2, g3⟩ := hits_sim (k43 := fX7_learn_h43 N2) (x3 := b) (x4 := mm) (x5 := nI k) s hi4 hf hl h5 len 0 0 4000 4000 _ _ t' (by omega) (by omega) (by omega) (by omega)
    rw [nI_0] at g2 g3
    have eh : fX6_hitsWith 0 (nI k) (121 + 2 * i) (nI f) Mc = some (nI c, Mc2) := by
      unfold fX6_hitsWith
      rw [o_tho pc, bS, o_now pc, bS, rm_cV r95, a1, bS, o_tho pc1, bS, rm_p r95, bS]
      exact g2
    have ec : fX6_learn_h44 (N + 1) 0 (nI f) (121 + 2 * i) b mc (nI k) Mc = if nI c ≤ mc then fX6_learn_h44 N 0 (nI f) (121 + 2 * i) b mc (nI (k + 1)) Mc2 else fX6_learn_h44 N 0 (nI f) (121 + 2 * i) (nI k) (nI c) (nI (k + 1)) Mc2 := by
      rw [fX6_learn_h44, if_neg (show ¬ (29 : Int32) < nI k from nI_nlt (a := 29) (by omega) (by decide)), o_cV, eh, bS]
      unfold fX6_learn_b76
      rw [nI_1]
    have em : fX7_learn_h43 (N2 + 1) 0 (nI i) (nI f) b mm (nI k) Mm = if nI c ≤ mm then fX7_learn_h43 N2 0 (nI i) (nI f) b mm (nI (k + 1)) Mm2 else fX7_learn_h43 N2 0 (nI i) (nI f) (nI k) (nI c) (nI (k + 1)) Mm2 := by
      rw [fX7_learn_h43, if_neg (show ¬ (30 : Int32) ≤ nI k from nI_ge (b := 30) (by omega) (by decide)), gM0 (h.pm s), bS, m_ss3, bS, g3]
      unfold fX7_learn_b135 fX7_learn_b150
      rw [nI_1]
      by_cases q : nI c ≤ mm
      · rw [if_pos q, if_pos q, if_pos q]
      · rw [if_neg q, if_neg q, if_neg q]
    rw [ec, em]
    rcases hb with hb | ⟨k0, b0', c0, m0⟩
    · subst hb
      by_cases q : nI c ≤ mm
      · rw [if_pos q, if_pos q]
        exact ih (k + 1) N N2 b mm mm Mc2 Mm2 g1 (by omega) (by omega) (by omega) (Or.inl rfl)
      · rw [if_neg q, if_neg q]
        exact ih (k + 1) N N2 (nI k) (nI c) (nI c) Mc2 Mm2 g1 (by omega) (by omega) (by omega) (Or.inl rfl)
    · subst k0; subst b0'; subst c0; subst m0
      have nq : ¬ nI c ≤ -1 := by
        intro z
        rw [Int32.le_iff_toInt_le, nI_toInt (by omega), show (-1 : Int32).toInt = -1 from by decide] at z
        omega
      rw [if_neg nq, nI_0]
      by_cases q : nI c ≤ 0
      · rw [if_pos q]
        have : c = 0 := by
          rcases Nat.eq_zero_or_pos c with z | z
          · exact z
          · exact absurd q (nI_nle z (by omega))
        subst this
        rw [nI_0]
        exact ih 1 N N2 0 0 0 Mc2 Mm2 g1 (by omega) (by omega) (by omega) (Or.inl rfl)
      · rw [if_neg q]
        exact ih 1 N N2 0 (nI c) (nI c) Mc2 Mm2 g1 (by omega) (by omega) (by omega) (Or.inl rfl)
theorem op_learn : opS2 Sim fX6_learn fX7_learn := by
  intro Mc Mm h x k
  obtain ⟨pc, pm, _, ag, ⟨n, hi⟩, _⟩ := id h
  obtain ⟨nt, E, e1, e2⟩ := h.ev
  have hn := hi.1
  have k0 : rK Mc 82 0 = nI n := (ag 0 (by decide)).symm.trans hi.2.1
  by_cases h1 : 0 ≤ x ∧ x ≤ 3
  · by_cases h2 : 0 ≤ k ∧ k ≤ nI n - 1
    · obtain ⟨i, _, hi4', rfl⟩ := rg_in (hi := 3) nI_0.symm rfl (by decide) (by decide) h1
      have hi4 : i < 4 := by omega
      obtain ⟨f, hf, rfl⟩ := (ix_iff (by omega)).mp h2
      obtain ⟨a1, a2, a3, ⟨len, _, hl, a4⟩, a5⟩ := h.sh i hi4
      have sn := sort_neg a3
      by_cases em : Mm.1 4 i = -1
      · refine ⟨-1000000011, Mc, Mm, ?_, ?_, h⟩
        · unfold fX6_learn
          rw [c_isSheet, bS, if_pos h1, if_neg i_10, o_cV, c_isFlame pc k0, bS, if_pos h2, if_neg i_10, o_sheets pc, bS, sh_at pc hi4, bS, sh_cV hi4, c_missA (kC_row_ i hi4).1, bS, a1, if_pos em, if_neg i_10]
        · unfold fX7_learn
          rw [m_isSheet, bS, if_pos h1, if_neg i_10, m_cV, m_isFlame pm hi.2.1, bS, if_pos h2, if_neg i_10, gM4 pm, bS, mt4 hi4, bS, if_neg (show ¬ (0 : Int32) ≤ Mm.1 4 i from fun z => sn.1.mp z em)]
      · obtain ⟨Mm1, b1, b2⟩ := rs_by h
        obtain ⟨v, Mc2, Mm2, c1, c2, c3⟩ := learn_sim h hi e1 e2 hi4 hf (show len ≤ 24 by omega) a4 30 0 4000 4000 0 0 (-1) Mc Mm1 b2 (by decide) (by decide) (by decide) (Or.inr ⟨rfl, rfl, rfl, rfl⟩)
        rw [nI_0] at c1 c2
        refine ⟨v, Mc2, Mm2, ?_, ?_, c3⟩
        · unfold fX6_learn
          rw [c_isSheet, bS, if_pos h1, if_neg i_10, o_cV, c_isFlame pc k0, bS, if_pos h2, if_neg i_10, o_sheets pc, bS, sh_at pc hi4, bS, sh_cV hi4, c_missA (kC_row_ i hi4).1, bS, a1, if_neg em, if_pos rfl]
          exact c1
        · unfold fX7_learn
          rw [m_isSheet, bS, if_pos h1, if_neg i_10, m_cV, m_isFlame pm hi.2.1, bS, if_pos h2, if_neg i_10, gM4 pm, bS, mt4 hi4, bS, if_pos (sn.1.mpr em), m_cV, b1, bS]
          exact c2
    · refine ⟨-1000000001, Mc, Mm, ?_, ?_, h⟩
      · unfold fX6_learn
        rw [c_isSheet, bS, if_pos h1, if_neg i_10, o_cV, c_isFlame pc k0, bS, if_neg h2, if_pos rfl]
      · unfold fX7_learn
        rw [m_isSheet, bS, if_pos h1, if_neg i_10, m_cV, m_isFlame pm hi.2.1, bS, if_neg h2, if_pos rfl]
  · refine ⟨-1000000001, Mc, Mm, ?_, ?_, h⟩
    · unfold fX6_learn
      rw [c_isSheet, bS, if_neg h1, if_pos rfl]
    · unfold fX7_learn
      rw [m_isSheet, bS, if_neg h1, if_pos rfl]
end
