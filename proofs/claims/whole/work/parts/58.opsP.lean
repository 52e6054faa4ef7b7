section
variable {Mc Mm Mc0 Mm0 : ctM} {n : Nat} {E : Ev}
/-- the six of a row -/
theorem basin_row (s : Sim Mc0 Mm0) (hi : Inv (Mm0.1 1) n) {nt : Nat} (e1 : EvM (Mm0.1 1) nt E) (e2 : EvC Mc0 82 E) {f g u : Nat} {x : Int32} (hf : f < n) (hg : g < n) (hu : u < 6) {k47 : Nat → Int32 → Int32 → Int32 → Int32 → Int32 → ctM → Option (Int32 × ctM)} : ∀ (d v N N2 : Nat) (w : Int32) (Mc Mm : ctM), Rs Mc0 Mm0 Mc Mm → v + d = 6 → d < N2 → ∃ (w2 : Int32) (Mc2 Mm2 : ctM), Rs Mc0 Mm0 Mc2 Mm2 ∧ fX6_basin_h50 (N + d) 0 x (nI f) (nI g) w (nI (6 * u + v)) Mc = fX6_basin_h50 N 0 x (nI f) (nI g) w2 (nI (6 * u + 6)) Mc2 ∧ fX7_basin_h57 k47 N2 0 x (nI f) (nI g) w (nI u) (nI v) Mm = k47 0 x (nI f) (nI g) w2 (nI (u + 1)) Mm2 := by
  intro d
  induction d with
  | zero =>
    intro v N N2 w Mc Mm h hv hN2
    obtain ⟨N2, rfl⟩ : ∃ k, N2 = k + 1 := ⟨N2 - 1, by omega⟩
    have : v = 6 := by omega
    subst this
    exact ⟨w, Mc, Mm, h, rfl, by rw [fX7_basin_h57, if_pos (by decide), nI_1]⟩
  | succ d ih =>
    intro v N N2 w Mc Mm h hv hN2
    obtain ⟨N2, rfl⟩ : ∃ k, N2 = k + 1 := ⟨N2 - 1, by omega⟩
    obtain ⟨c, Mc1, Mm1, a1, a2, a3⟩ := basin_it (x := x) (w := w) (k47 := k47) (N := N + d) (N2 := N2) s hi e1 e2 hf hg hu (show v < 6 by omega) h
    obtain ⟨w2, Mc2, Mm2, b1, b2, b3⟩ := ih (v + 1) N N2 (w + c) Mc1 Mm1 a1 (by omega) (by omega)
    exact ⟨w2, Mc2, Mm2, b1, a2.trans b2, a3.trans b3⟩
theorem basin_all (s : Sim Mc0 Mm0) (hi : Inv (Mm0.1 1) n) {nt : Nat} (e1 : EvM (Mm0.1 1) nt E) (e2 : EvC Mc0 82 E) {f g : Nat} {x : Int32} (hf : f < n) (hg : g < n) : ∀ (d u N N2 : Nat) (w : Int32) (Mc Mm : ctM), Rs Mc0 Mm0 Mc Mm → u + d = 6 → 6 * d < N → d < N2 → ∃ (v : Int32) (Mc2 Mm2 : ctM), fX6_basin_h50 N 0 x (nI f) (nI g) w (nI (6 * u)) Mc = some (v, Mc2) ∧ fX7_basin_h47 N2 0 x (nI f) (nI g) w (nI u) Mm = some (v, Mm2) ∧ Sim Mc2 Mm2 := by
  intro d
  induction d with
  | zero =>
    intro u N N2 w Mc Mm h hu hN hN2
    obtain ⟨N, rfl⟩ : ∃ k, N = k + 1 := ⟨N - 1, by omega⟩
    obtain ⟨N2, rfl⟩ : ∃ k, N2 = k + 1 := ⟨N2 - 1, by omega⟩
    have : u = 6 := by omega
    subst this
    refine ⟨w, Mc, Mm, ?_, ?_, h.sim s⟩
    · rw [fX6_basin_h50, if_pos (by decide)]
    · rw [fX7_basin_h47, if_pos (by decide)]
  | succ d ih =>
    intro u N N2 w Mc Mm h hu hN hN2
    obtain ⟨N, rfl⟩ : ∃ k, N = k + 6 := ⟨N - 6, by omega⟩
    obtain ⟨N2, rfl⟩ : ∃ k, N2 = k + 1 := ⟨N2 - 1, by omega⟩
    obtain ⟨w2, Mc1, Mm1, a1, a2, a3⟩ := basin_row (x := x) (k47 := fX7_basin_h47 N2) s hi e1 e2 hf hg (show u < 6 by omega) 6 0 N 4000 w Mc Mm h (by omega) (by decide)
    obtain ⟨v, Mc2, Mm2, b1, b2, b3⟩ := ih (u + 1) N N2 w2 Mc1 Mm1 a1 (by omega) (by omega) (by omega)
    refine ⟨v, Mc2, Mm2, ?_, ?_, b3⟩
    · rw [show 6 * (u + 1) = 6 * u + 6 by omega] at b1
      rw [show 6 * u + 0 = 6 * u from rfl] at a2
      exact a2.trans b1
    · rw [nI_0] at a3
      rw [fX7_basin_h47, if_neg (show ¬ (6 : Int32) ≤ nI u from nI_ge (b := 6) (by omega) (by decide))]
      exact a3.trans b2
theorem op_basin : opS1 Sim fX6_basin fX7_basin := by
  intro Mc Mm h x
  obtain ⟨pc, pm, _, ag, ⟨n, hi⟩, _⟩ := id h
  obtain ⟨nt, E, e1, e2⟩ := h.ev
  have hn := hi.1
  have k0 : rK Mc 82 0 = nI n := (ag 0 (by decide)).symm.trans hi.2.1
  by_cases h1 : 0 ≤ x ∧ x ≤ 119
  · obtain ⟨f, ef⟩ : ∃ f, f = lfS (Mm.1 1) n 0 := ⟨_, rfl⟩
    have fin := lfS_in (Mm.1 1) n 0
    rw [← ef] at fin
    have c1 : fX2_litFrom 82 0 Mc = some (nI f, Mc) := by
      have := c_litFrom pc r82 hn k0 (j := 0) (by omega)
      rw [nI_0, Nat.sub_zero, ← lfS_ag ag n 0 (by omega), ← ef] at this
      exact this
    have m1 : fX7_litBehind 0 0 Mm = some (nI f, Mm) := by
      have := m_litBehind pm hn hi.2.1 n 0 4000 (by omega) (by omega)
      rw [nI_0, ← ef] at this
      exact this
    by_cases hfn : f < n
    · obtain ⟨g, eg⟩ : ∃ g, g = lfS (Mm.1 1) (n - (f + 1)) (f + 1) := ⟨_, rfl⟩
      have gin := lfS_in (Mm.1 1) (n - (f + 1)) (f + 1)
      rw [← eg] at gin
      have c2 : fX2_litFrom 82 (nI (f + 1)) Mc = some (nI g, Mc) := by
        have := c_litFrom pc r82 hn k0 (j := f + 1) (by omega)
        rw [← lfS_ag ag _ (f + 1) (by omega), ← eg] at this
        exact this
      have m2 : fX7_litBehind 0 (nI (f + 1)) Mm = some (nI g, Mm) := by
        have := m_litBehind pm hn hi.2.1 (n - (f + 1)) (f + 1) 4000 (by omega) (by omega)
        rw [← eg] at this
        exact this
      by_cases hgn : g < n
      · obtain ⟨Mm1, b1, b2⟩ := rs_by h
        obtain ⟨v, Mc2, Mm2, d1, d2, d3⟩ := basin_all (x := x) h hi e1 e2 hfn hgn 6 0 4000 4000 0 Mc Mm1 b2 (by decide) (by decide) (by decide)
        rw [show 6 * 0 = 0 from rfl, nI_0] at d1
        rw [nI_0] at d2
        refine ⟨v, Mc2, Mm2, ?_, ?_, d3⟩
        · unfold fX6_basin
          rw [c_isPhase, bS, if_pos h1, if_neg i_10, o_now pc, bS, rm_cV r82, c1, bS, o_now pc, bS, rm_cV r82, nI_1, c2, bS, o_now pc, bS, rm_i5 r82, k0, bS, if_pos (nI_lt hgn (by omega))]
          exact d1
        · unfold fX7_basin
          rw [m_isBound, bS, if_pos h1, if_neg i_10, m_cV, m1, bS, m_cV, nI_1, m2, bS, gM0 pm, bS, m_s0, hi.2.1, bS, if_pos (nI_lt hgn (by omega)), m_cV, b1, bS]
          exact d2
      · refine ⟨-1000000002, Mc, Mm, ?_, ?_, h⟩
        · unfold fX6_basin
          rw [c_isPhase, bS, if_pos h1, if_neg i_10, o_now pc, bS, rm_cV r82, c1, bS, o_now pc, bS, rm_cV r82, nI_1, c2, bS, o_now pc, bS, rm_i5 r82, k0, bS, if_neg (nI_nlt (by omega) (by omega))]
        · unfold fX7_basin
          rw [m_isBound, bS, if_pos h1, if_neg i_10, m_cV, m1, bS, m_cV, nI_1, m2, bS, gM0 pm, bS, m_s0, hi.2.1, bS, if_neg (nI_nlt (by omega) (by omega))]
    · have hfe : f = n := by omega
      have c2 : fX2_litFrom 82 (nI (n + 1)) Mc = some (nI n, Mc) := by
        unfold fX2_litFrom
        rw [if_pos (show (0 : Int32) < nI (n + 1) from nI_lt (a := 0) (by omega) (by omega))]
        exact c_litEnd r82 hn k0 (by decide)
      have m2 : fX7_litBehind 0 (nI (n + 1)) Mm = some (nI (n + 1), Mm) := m_litEnd pm hn hi.2.1 (by decide)
      rw [hfe] at c1 m1
      refine ⟨-1000000002, Mc, Mm, ?_, ?_, h⟩
      · unfold fX6_basin
        rw [c_isPhase, bS, if_pos h1, if_neg i_10, o_now pc, bS, rm_cV r82, c1, bS, o_now pc, bS, rm_cV r82, nI_1, c2, bS, o_now pc, bS, rm_i5 r82, k0, bS, if_neg (nI_nlt (by omega) (by omega))]
      · unfold fX7_basin
        rw [m_isBound, bS, if_pos h1, if_neg i_10, m_cV, m1, bS, m_cV, nI_1, m2, bS, gM0 pm, bS, m_s0, hi.2.1, bS, if_neg (nI_nlt (by omega) (by omega))]
  · refine ⟨-1000000001, Mc, Mm, ?_, ?_, h⟩
    · unfold fX6_basin
      rw [c_isPhase, bS, if_neg h1, if_pos rfl]
    · unfold fX7_basin
      rw [m_isBound, bS, if_neg h1, if_pos rfl]
end
