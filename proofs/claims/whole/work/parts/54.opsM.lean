section
variable {M Mc Mm Mc0 Mm0 : ctM} {n : Nat} {E : Ev}
def baS (A B : Kv) : Nat → Bool
  | 0 => true
  | j + 1 => baS A B j && decide (fl A j 4 = fl B j 4)
theorem baS_ag {A B A' B' : Kv} (h1 : Ag A A') (h2 : Ag B B') : ∀ j, j ≤ 8 → baS A B j = baS A' B' j := by
  intro j
  induction j with
  | zero => intro _; rfl
  | succ j ih => intro hj; simp only [baS, ih (by omega), h1.fl (show j < 8 by omega) (show 4 < 7 by decide), h2.fl (show j < 8 by omega) (show 4 < 7 by decide)]
theorem baS_no {A B : Kv} {j : Nat} (h : ¬ fl A j 4 = fl B j 4) : ∀ m, j < m → baS A B m = false := by
  intro m
  induction m with
  | zero => intro h; omega
  | succ m ih =>
    intro hm
    by_cases e : j = m
    · subst e; simp [baS, h]
    · simp [baS, ih (by omega)]
theorem c_beatsAs {r s : Nat} (pc : PC M) (hr : isRm r) (hs : isRm s) (hn : n ≤ 8) (h0 : rK M r 0 = nI n) : fX2_beatsAs r s M = some (if baS (rK M r) (rK M s) n = true then 1 else 0, M) := by
  have key : ∀ (d j N : Nat), j + d = n → d < N → baS (rK M r) (rK M s) j = true → fX2_beatsAs_h2 N r s (nI j) M = some (if baS (rK M r) (rK M s) n = true then 1 else 0, M) := by
    intro d
    induction d with
    | zero =>
      intro j N hj hN hb
      obtain ⟨N, rfl⟩ : ∃ k, N = k + 1 := ⟨N - 1, by omega⟩
      have : j = n := by omega
      subst this
      rw [fX2_beatsAs_h2, rm_i5 hr, h0, bS, if_pos (nI_le (Nat.le_refl _) (by omega)), if_pos hb]
    | succ d ih =>
      intro j N hj hN hb
      obtain ⟨N, rfl⟩ : ∃ k, N = k + 1 := ⟨N - 1, by omega⟩
      have hj8 : j < 8 := by omega
      rw [fX2_beatsAs_h2, rm_i5 hr, h0, bS, if_neg (nI_ge (show j < n by omega) (by omega)), rm_f1 pc hr, bS, rm_fl pc hr hj8, bS, fl_g hr hj8 (by decide), bS, rm_f1 pc hs, bS, rm_fl pc hs hj8, bS, fl_g hs hj8 (by decide), bS]
      by_cases e : fl (rK M r) j 4 = fl (rK M s) j 4
      · rw [if_pos e, nI_1]
        exact ih (j + 1) N (by omega) (by omega) (by simp [baS, hb, e])
      · rw [if_neg e, baS_no e n (by omega)]
        rfl
  exact key n 0 4000 (by omega) (by omega) rfl
theorem m_isAsLaidBy (pm : PM M) (hn : n ≤ 8) (h0 : M.1 1 0 = nI n) : fX7_isAsLaidBy 0 M = some (if baS (M.1 1) (M.1 14) n = true then 1 else 0, M) := by
  have key : ∀ (d j N : Nat), j + d = n → d < N → fX7_isAsLaidBy_h4 N 0 (if baS (M.1 1) (M.1 14) j = true then 1 else 0) (nI j) M = some (if baS (M.1 1) (M.1 14) n = true then 1 else 0, M) := by
    intro d
    induction d with
    | zero =>
      intro j N hj hN
      obtain ⟨N, rfl⟩ : ∃ k, N = k + 1 := ⟨N - 1, by omega⟩
      have : j = n := by omega
      subst this
      rw [fX7_isAsLaidBy_h4, gM0 pm, bS, m_s0, h0, bS, if_pos (nI_le (Nat.le_refl _) (by omega)), if_pos b01]
    | succ d ih =>
      intro j N hj hN
      obtain ⟨N, rfl⟩ : ∃ k, N = k + 1 := ⟨N - 1, by omega⟩
      have hj8 : j < 8 := by omega
      have e := ih (j + 1) N (by omega) (by omega)
      have e14 : aI kdM lnM 9 14 (nI (14 + 7 * j) + 4) M = some (fl (M.1 14) j 4) := by
        rw [show nI (14 + 7 * j) + 4 = nI (14 + 7 * j + 4) from nI_add _ 4]
        exact mt14 (by omega)
      rw [fX7_isAsLaidBy_h4, gM0 pm, bS, m_s0, h0, bS, if_neg (nI_ge (show j < n by omega) (by omega))]
      unfold fX7_isAsLaidBy_b43 fX7_isAsLaidBy_b44
      rw [nI_1]
      by_cases hb : baS (M.1 1) (M.1 14) j = true
      · rw [if_pos hb, if_neg i_10, m_cV, m_of4 pm hj8, bS, gM16 pm, bS, m_cV, m_flameAt, bS, e14, bS]
        by_cases hc : fl (M.1 1) j 4 = fl (M.1 14) j 4
        · rw [if_pos hc]
          have : baS (M.1 1) (M.1 14) (j + 1) = true := by simp [baS, hb, hc]
          rw [if_pos this] at e
          exact e
        · rw [if_neg hc]
          have : ¬ baS (M.1 1) (M.1 14) (j + 1) = true := by simp [baS, hc]
          rw [if_neg this] at e
          exact e
      · rw [if_neg hb, if_pos rfl]
        have : ¬ baS (M.1 1) (M.1 14) (j + 1) = true := by simp [baS, hb]
        rw [if_neg this] at e
        exact e
  exact key n 0 4000 (by omega) (by omega)
theorem period_sim (s : Sim Mc0 Mm0) : ∀ (d k N N2 : Nat) (Mc Mm : ctM), Th Mc0 Mm0 n E Mc Mm → k + d = 301 → 1 ≤ k → d < N → d < N2 → ∃ (v : Int32) (Mc2 Mm2 : ctM), fX6_period_h13 N 0 (nI k) Mc = some (v, Mc2) ∧ ((fX7_ticks 0 Mm).bind fun r => fX7_period_h11 N2 0 (nI k) r.2) = some (v, Mm2) ∧ Sim Mc2 Mm2 := by
  intro d
  induction d with
  | zero =>
    intro k N N2 Mc Mm h hk h1 hN hN2
    obtain ⟨N, rfl⟩ : ∃ k, N = k + 1 := ⟨N - 1, by omega⟩
    obtain ⟨N2, rfl⟩ : ∃ k, N2 = k + 1 := ⟨N2 - 1, by omega⟩
    have : k = 301 := by omega
    subst this
    obtain ⟨u, Mc1, Mm1, t1, t2, t3⟩ := th_tick s h
    obtain ⟨M3, b1, b2, _, _⟩ := th_back s t3
    refine ⟨-1000000005, Mc, M3, ?_, ?_, s.think h.1.1 h.1.2.1 b2 (fun _ => rfl)⟩
    · rw [fX6_period_h13, if_pos (by decide)]
    · rw [t2, bS, fX7_period_h11, if_pos (by decide)]
      unfold fX7_period_b36
      rw [m_cV, b1, bS, if_neg (by decide)]
  | succ d ih =>
    intro k N N2 Mc Mm h hk h1 hN hN2
    obtain ⟨N, rfl⟩ : ∃ k, N = k + 1 := ⟨N - 1, by omega⟩
    obtain ⟨N2, rfl⟩ : ∃ k, N2 = k + 1 := ⟨N2 - 1, by omega⟩
    obtain ⟨u, Mc1, Mm1, t1, t2, t3⟩ := th_tick s h
    have nk : ¬ (300 : Int32) < nI k := nI_nlt (a := 300) (by omega) (by decide)
    have hi := t3.2.2.2
    have hn := hi.1
    have q := t3.pc s.1
    have qm := t3.pm s.2.1
    have ag := t3.2.2.1
    have rk82 : rK Mc1 82 = rK Mc0 82 := rK_congr (fun k _ _ => by rw [t3.1.2.1 82 (by decide) (by omega)]) (fun i _ => by rw [t3.1.2.1 (82 + 2) (by decide) (by omega)]) (fun f k _ _ => by rw [t3.1.2.1 (82 + 5 + f) (gv_rm r82 (by omega)) (by omega)])
    have ag14 : Ag (Mm1.1 14) (rK Mc1 82) := fun j hj => by rw [t3.2.1.2.1 j hj, rk82]; exact s.2.2.2.1 j hj
    have k0 : rK Mc1 95 0 = nI n := (ag 0 (by decide)).symm.trans hi.2.1
    have cb := c_beatsAs q r95 r82 hn k0
    have mb := m_isAsLaidBy qm hn hi.2.1
    rw [← baS_ag ag ag14 n hn] at cb
    by_cases c : baS (Mm1.1 1) (Mm1.1 14) n = true
    · obtain ⟨M3, b1, _, _, b4⟩ := th_back s t3
      refine ⟨nI k, Mc1, M3, ?_, ?_, b4⟩
      · rw [fX6_period_h13, if_neg nk, o_tho (h.pc s.1), bS, rm_cV r95, t1, bS, o_tho q, bS, o_now q, bS, rm_cV r95, cb, bS, if_pos c, if_neg i_10]
      · rw [t2, bS, fX7_period_h11, if_neg nk, m_cV, mb, bS, if_pos c, if_neg i_10]
        unfold fX7_period_b36
        rw [m_cV, b1, bS, if_pos (show nI k ≤ 300 from nI_le (b := 300) (by omega) (by decide))]
    · obtain ⟨v, Mc2, Mm2, b1, b2, b3⟩ := ih (k + 1) N N2 Mc1 Mm1 t3 (by omega) (by omega) (by omega) (by omega)
      refine ⟨v, Mc2, Mm2, ?_, ?_, b3⟩
      · rw [fX6_period_h13, if_neg nk, o_tho (h.pc s.1), bS, rm_cV r95, t1, bS, o_tho q, bS, o_now q, bS, rm_cV r95, cb, bS, if_neg c, if_pos rfl, nI_1]
        exact b1
      · rw [t2, bS, fX7_period_h11, if_neg nk, m_cV, mb, bS, if_neg c, if_pos rfl, m_cV, nI_1]
        exact b2
theorem op_period : opS0 Sim fX6_period fX7_period := by
  intro Mc Mm h
  obtain ⟨n, E, Mc1, Mm1, hi, a1, b1, t⟩ := th_init h
  obtain ⟨v, Mc2, Mm2, c1, c2, c3⟩ := period_sim h 300 1 4000 4000 Mc1 Mm1 t (by decide) (by decide) (by decide) (by decide)
  refine ⟨v, Mc2, Mm2, ?_, ?_, c3⟩
  · unfold fX6_period
    rw [o_tho h.1, bS, o_now h.1, bS, rm_cV r95, a1, bS]
    exact c1
  · unfold fX7_period
    rw [m_cV, b1, bS, m_cV]
    exact c2
end
