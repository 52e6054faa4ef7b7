section
variable {Mc Mm Mc0 Mm0 : ctM} {n : Nat} {E : Ev}
theorem sp_sn {K : Kv} {x : Int32} : (0 ≤ spS K n ∧ spS K n ≤ x) ↔ (0 ≤ snS K n ∧ snS K n ≤ x) := by
  unfold spS snS
  by_cases h : anS K n = true
  · rw [if_pos h, if_pos h]
  · rw [if_neg h, if_neg h]
    exact ⟨fun z => absurd z.1 (by decide), fun z => absurd z.1 (by decide)⟩
theorem th_agree (s : Sim Mc0 Mm0) (h : Th Mc0 Mm0 n E Mc Mm) (x : Int32) : fX2_agrees 95 x Mc = some (if 0 ≤ snS (Mm.1 1) n ∧ snS (Mm.1 1) n ≤ x then 1 else 0, Mc) := by
  unfold fX2_agrees
  rw [rm_cV r95, (th_sn s h).1, bS, c_within, bS, if_pos b01]
  by_cases c : 0 ≤ snS (Mm.1 1) n ∧ snS (Mm.1 1) n ≤ x
  · rw [if_pos c, if_pos (sp_sn.mpr c)]
  · rw [if_neg c, if_neg (mt sp_sn.mp c)]
theorem soon_sim (s : Sim Mc0 Mm0) {x : Int32} : ∀ (d k N N2 : Nat) (Mc Mm : ctM), Th Mc0 Mm0 n E Mc Mm → k + d = 201 → d < N → d < N2 → ∃ (v : Int32) (Mc2 Mm2 : ctM), fX6_soon_h23 N 0 x (nI k) Mc = some (v, Mc2) ∧ fX7_soon_h16 N2 0 x (nI k) Mm = some (v, Mm2) ∧ Sim Mc2 Mm2 := by
  intro d
  induction d with
  | zero =>
    intro k N N2 Mc Mm h hk hN hN2
    obtain ⟨N, rfl⟩ : ∃ k, N = k + 1 := ⟨N - 1, by omega⟩
    obtain ⟨N2, rfl⟩ : ∃ k, N2 = k + 1 := ⟨N2 - 1, by omega⟩
    have : k = 201 := by omega
    subst this
    obtain ⟨M3, b1, _, _, b4⟩ := th_back s h
    refine ⟨-1000000005, Mc, M3, ?_, ?_, b4⟩
    · rw [fX6_soon_h23, if_pos (by decide)]
    · rw [fX7_soon_h16, if_pos (by decide)]
      unfold fX7_soon_b48
      rw [m_cV, b1, bS, if_neg (by decide)]
  | succ d ih =>
    intro k N N2 Mc Mm h hk hN hN2
    obtain ⟨N, rfl⟩ : ∃ k, N = k + 1 := ⟨N - 1, by omega⟩
    obtain ⟨N2, rfl⟩ : ∃ k, N2 = k + 1 := ⟨N2 - 1, by omega⟩
    have ag := th_agree s h x
    obtain ⟨_, M2, a1, a2, a3⟩ := th_sn s h
    have nk : ¬ (200 : Int32) < nI k := nI_nlt (a := 200) (by omega) (by decide)
    by_cases c : 0 ≤ snS (Mm.1 1) n ∧ snS (Mm.1 1) n ≤ x
    · obtain ⟨M3, b1, _, _, b4⟩ := th_back s a3
      refine ⟨nI k, Mc, M3, ?_, ?_, b4⟩
      · rw [fX6_soon_h23, if_neg nk, o_tho (h.pc s.1), bS, rm_cV r95, ag, bS, if_pos c, if_neg i_10]
      · rw [fX7_soon_h16, if_neg nk, m_cV, a1, bS, m_isInL _ 0 x.toInt64 0 x (by decide) rfl, bS, if_pos c, if_neg i_10]
        unfold fX7_soon_b48
        rw [m_cV, b1, bS, if_pos (show nI k ≤ 200 from nI_le (b := 200) (by omega) (by decide))]
    · obtain ⟨u, Mc1, Mm1, t1, t2, t3⟩ := th_tick s a3
      obtain ⟨v, Mc2, Mm2, b1, b2, b3⟩ := ih (k + 1) N N2 Mc1 Mm1 t3 (by omega) (by omega) (by omega)
      refine ⟨v, Mc2, Mm2, ?_, ?_, b3⟩
      · rw [fX6_soon_h23, if_neg nk, o_tho (h.pc s.1), bS, rm_cV r95, ag, bS, if_neg c, if_pos rfl, o_tho (h.pc s.1), bS, rm_cV r95, t1, bS, nI_1]
        exact b1
      · rw [fX7_soon_h16, if_neg nk, m_cV, a1, bS, m_isInL _ 0 x.toInt64 0 x (by decide) rfl, bS, if_neg c, if_pos rfl, m_cV, t2, bS, nI_1]
        exact b2
/-- both sides begin to think -/
theorem th_init (h : Sim Mc Mm) : ∃ n E Mc1 Mm1, Inv (Mm.1 1) n ∧ fX2_become 95 82 Mc = some Mc1 ∧ fX7_laysBy 0 Mm = some Mm1 ∧ Th Mc Mm n E Mc1 Mm1 := by
  obtain ⟨pc, pm, _, ag, ⟨n, hi⟩, _⟩ := id h
  obtain ⟨nt, E, e1, e2⟩ := h.ev
  obtain ⟨Mm1, b1, b2, b3⟩ := th_by h
  obtain ⟨Mc1, a1, a2⟩ := th_start h hi e1 e2 rfl (fun _ _ _ => rfl) b2 b3
  exact ⟨n, E, Mc1, Mm1, hi, a1, b1, a2⟩
theorem op_soon : opS1 Sim fX6_soon fX7_soon := by
  intro Mc Mm h x
  by_cases h1 : 0 ≤ x ∧ x ≤ 119
  · obtain ⟨n, E, Mc1, Mm1, hi, a1, b1, t⟩ := th_init h
    obtain ⟨v, Mc2, Mm2, c1, c2, c3⟩ := soon_sim (x := x) h 201 0 4000 4000 Mc1 Mm1 t (by decide) (by decide) (by decide)
    rw [nI_0] at c1 c2
    refine ⟨v, Mc2, Mm2, ?_, ?_, c3⟩
    · unfold fX6_soon
      rw [c_isPhase, bS, if_pos h1, if_neg i_10, o_tho h.1, bS, o_now h.1, bS, rm_cV r95, a1, bS]
      exact c1
    · unfold fX7_soon
      rw [m_isBound, bS, if_pos h1, if_neg i_10, m_cV, b1, bS]
      exact c2
  · refine ⟨-1000000001, Mc, Mm, ?_, ?_, h⟩
    · unfold fX6_soon
      rw [c_isPhase, bS, if_neg h1, if_pos rfl]
    · unfold fX7_soon
      rw [m_isBound, bS, if_neg h1, if_pos rfl]
/-- many ticks of thought -/
theorem many_th (s : Sim Mc0 Mm0) {m : Nat} (hm : m ≤ 60) : ∀ (d j N : Nat) (Mc Mm : ctM), Th Mc0 Mm0 n E Mc Mm → j + d = m → d < N → ∃ Mm2, fX7_ticksMany_h2 N 0 (nI m) (nI j) Mm = some Mm2 ∧ ∃ Mc2, Th Mc0 Mm0 n E Mc2 Mm2 ∧ ∀ N2 x1, d < N2 → ∃ N3, fX6_film_h34 N2 0 x1 (nI m) (nI j) Mc = fX6_film_h34 (N3 + 1) 0 x1 (nI m) (nI m) Mc2 := by
  intro d
  induction d with
  | zero =>
    intro j N Mc Mm h hj hN
    obtain ⟨N, rfl⟩ : ∃ k, N = k + 1 := ⟨N - 1, by omega⟩
    have : j = m := by omega
    subst this
    refine ⟨Mm, by rw [fX7_ticksMany_h2, if_pos (nI_le (Nat.le_refl _) (by omega))], Mc, h, fun N2 x1 h2 => ⟨N2 - 1, by rw [show N2 - 1 + 1 = N2 by omega]⟩⟩
  | succ d ih =>
    intro j N Mc Mm h hj hN
    obtain ⟨N, rfl⟩ : ∃ k, N = k + 1 := ⟨N - 1, by omega⟩
    obtain ⟨u, Mc1, Mm1, t1, t2, t3⟩ := th_tick s h
    obtain ⟨Mm2, a1, Mc2, a2, a3⟩ := ih (j + 1) N Mc1 Mm1 t3 (by omega) (by omega)
    refine ⟨Mm2, ?_, Mc2, a2, fun N2 x1 h2 => ?_⟩
    · rw [fX7_ticksMany_h2, if_neg (nI_ge (show j < m by omega) (by omega)), m_cV, t2, bS, nI_1]
      exact a1
    · obtain ⟨N2, rfl⟩ : ∃ k, N2 = k + 1 := ⟨N2 - 1, by omega⟩
      obtain ⟨N3, e⟩ := a3 N2 x1 (by omega)
      refine ⟨N3, ?_⟩
      rw [fX6_film_h34, if_neg (nI_ge (show j < m by omega) (by omega)), o_tho (h.pc s.1), bS, rm_cV r95, t1, bS, nI_1]
      exact e
theorem op_film : opS2 Sim fX6_film fX7_film := by
  intro Mc Mm h x k
  obtain ⟨pc, pm, _, ag, ⟨n, hi⟩, _⟩ := id h
  have hn := hi.1
  have k0 : rK Mc 82 0 = nI n := (ag 0 (by decide)).symm.trans hi.2.1
  by_cases h1 : 0 ≤ x ∧ x ≤ nI n - 1
  · by_cases h2 : 1 ≤ k ∧ k ≤ 60
    · obtain ⟨f, hf, rfl⟩ := (ix_iff (by omega)).mp h1
      have hf8 : f < 8 := by omega
      obtain ⟨m, _, hm, rfl⟩ := rg_in (lo := 1) (hi := 60) rfl rfl (by decide) (by decide) h2
      obtain ⟨n', E, Mc1, Mm1, hi', a1, b1, t⟩ := th_init h
      obtain ⟨Mm2, c1, Mc2, c2, c3⟩ := many_th h (m := m) (by omega) m 0 4000 Mc1 Mm1 t (by omega) (by omega)
      obtain ⟨N3, c4⟩ := c3 4000 (nI f) (by omega)
      rw [nI_0] at c1 c4
      obtain ⟨M3, d1, d2, d3, d4⟩ := th_back h c2
      have q2 := c2.pc pc
      have qm := c2.pm pm
      have rk82 : rK Mc2 82 = rK Mc 82 := rK_congr (fun k _ _ => by rw [c2.1.2.1 82 (by decide) (by omega)]) (fun i _ => by rw [c2.1.2.1 (82 + 2) (by decide) (by omega)]) (fun f k _ _ => by rw [c2.1.2.1 (82 + 5 + f) (gv_rm r82 (by omega)) (by omega)])
      refine ⟨ahS (fl (Mm2.1 1) f 4) (fl (Mm.1 1) f 4), Mc2, M3, ?_, ?_, d4⟩
      · unfold fX6_film
        rw [o_cV, c_isFlame pc k0, bS, if_pos h1, if_neg i_10, c_within, bS, if_pos h2, if_neg i_10, o_tho pc, bS, o_now pc, bS, rm_cV r95, a1, bS]
        refine c4.trans ?_
        rw [fX6_film_h34, if_pos (nI_le (Nat.le_refl _) (by omega)), o_tho q2, bS, rm_f1 q2 r95, bS, rm_fl q2 r95 hf8, bS, fl_g r95 hf8 (by decide), bS, o_now q2, bS, rm_f1 q2 r82, bS, rm_fl q2 r82 hf8, bS, fl_g r82 hf8 (by decide), bS, c_ahead, bS, rk82, ← c2.2.2.1.fl hf8 (by decide), ← ag.fl hf8 (by decide)]
      · have e14 : aI kdM lnM 9 14 (nI (14 + 7 * f) + 4) Mm2 = some (fl (Mm.1 1) f 4) := by
          rw [show nI (14 + 7 * f) + 4 = nI (14 + 7 * f + 4) from nI_add _ 4, mt14 (by omega), c2.2.1.2.1 _ (by omega)]
          rfl
        unfold fX7_film fX7_ticksMany
        rw [m_cV, m_isFlame pm hi.2.1, bS, if_pos h1, if_neg i_10, m_isInL (nI m) 1 60 1 60 (by decide) (by decide), bS, if_pos h2, if_neg i_10, m_cV, b1, bS, m_cV, c1, bS, m_cV, m_of4 qm hf8, bS, gM16 qm, bS, m_cV, m_flameAt, bS, e14, bS, m_ahead, bS, m_cV, d1, bS]
    · refine ⟨-1000000001, Mc, Mm, ?_, ?_, h⟩
      · unfold fX6_film
        rw [o_cV, c_isFlame pc k0, bS, if_pos h1, if_neg i_10, c_within, bS, if_neg h2, if_pos rfl]
      · unfold fX7_film
        rw [m_cV, m_isFlame pm hi.2.1, bS, if_pos h1, if_neg i_10, m_isInL k 1 60 1 60 (by decide) (by decide), bS, if_neg h2, if_pos rfl]
  · refine ⟨-1000000001, Mc, Mm, ?_, ?_, h⟩
    · unfold fX6_film
      rw [o_cV, c_isFlame pc k0, bS, if_neg h1, if_pos rfl]
    · unfold fX7_film
      rw [m_cV, m_isFlame pm hi.2.1, bS, if_neg h1, if_pos rfl]
end
