section
variable {Mc Mm M : ctM} {n : Nat}
theorem m_setLoop {a b : Nat} (ka : kdM a = 9) (kb : kdM b = 9) (la : lnM a = 3070) (lb : lnM b = 3070) (hab : a ≠ b) : ∀ (d j N : Nat) (M1 : ctM), j + d = 2870 → d < N → FlS M b 0 j (fun q => M.1 a q) M1 → ∃ M2, fX7_setAside_h2 N a b (nI j) M1 = some M2 ∧ FlS M b 0 2870 (fun q => M.1 a q) M2 := by
  intro d
  induction d with
  | zero =>
    intro j N M1 hj hN h
    obtain ⟨N, rfl⟩ : ∃ k, N = k + 1 := ⟨N - 1, by omega⟩
    have : j = 2870 := by omega
    subst this
    exact ⟨M1, by rw [fX7_setAside_h2, if_pos (by decide)], h⟩
  | succ d ih =>
    intro j N M1 hj hN h
    obtain ⟨N, rfl⟩ : ∃ k, N = k + 1 := ⟨N - 1, by omega⟩
    have h2 := h.step (v := M1.1 a j) (by rw [h.2.1 a hab])
    rw [Nat.zero_add] at h2
    obtain ⟨M2, w1, w2⟩ := ih (j + 1) N _ (by omega) (by omega) h2
    refine ⟨M2, ?_, w2⟩
    rw [fX7_setAside_h2, if_neg (show ¬ (2870 : Int32) ≤ nI j from nI_ge (b := 2870) (by omega) (by decide)), aI_at (n := 3070) ka la (by omega) (by decide), bS, sI_at (n := 3070) kb lb (by omega) (by decide), bS, nI_1]
    exact w1
theorem m_setAside {a b : Nat} (ka : kdM a = 9) (kb : kdM b = 9) (la : lnM a = 3070) (lb : lnM b = 3070) (hab : a ≠ b) : ∃ M2, fX7_setAside 0 a b M = some M2 ∧ FlS M b 0 2870 (fun q => M.1 a q) M2 := by
  obtain ⟨M2, w1, w2⟩ := m_setLoop (M := M) ka kb la lb hab 2870 0 4000 M (by decide) (by decide) FlS.rf
  rw [nI_0] at w1
  exact ⟨M2, w1, w2⟩
theorem FlS.at0 {b m : Nat} {f : Nat → Int32} {M' : ctM} (h : FlS M b 0 m f M') {j : Nat} (hj : j < m) : M'.1 b j = f j := by
  have := h.2.2.1 j hj
  rw [Nat.zero_add] at this
  exact this
theorem BcC.pc {r s : Nat} {M' : ctM} (h : BcC r s M M') (p : PC M) : PC M' := p.of2 h.1
theorem op_keep : opS0 Sim fX6_keep fX7_keep := by
  intro Mc Mm h
  obtain ⟨pc, pm, lw, ag, ⟨n, hi⟩, ⟨nt, tx, ct, im⟩, sh, sl, tp, wt, sy⟩ := id h
  obtain ⟨M2, w1, w2⟩ := c_become pc r108 r82 (by decide)
  have pm1 : PM (ctI Mm 0 3 1) := pm
  obtain ⟨M3, v1, v2⟩ := m_setAside (M := ctI Mm 0 3 1) (a := 1) (b := 2) rfl rfl rfl rfl (by decide)
  have c : ∀ b, b < 108 ∨ 121 ≤ b → b ≠ 0 → (ctI M2 0 4 1).1 b = Mc.1 b := fun b hb h0 => by rw [ctI_ne h0, w2.2.2.2 b (by omega)]
  have c0 : ∀ k, k ≠ 4 → (ctI M2 0 4 1).1 0 k = Mc.1 0 k := fun k hk => by rw [ctI_1, va_up_ne' hk, w2.2.2.2 0 (by omega)]
  have m : ∀ b, b ≠ 0 → b ≠ 2 → M3.1 b = Mm.1 b := fun b h0 h2 => by rw [v2.2.1 b h2, ctI_ne h0]
  have m0 : ∀ k, k ≠ 3 → M3.1 0 k = Mm.1 0 k := fun k hk => by rw [v2.2.1 0 (by decide), ctI_1, va_up_ne' hk]
  have mi : ∀ j, j < 2870 → M3.1 2 j = Mm.1 1 j := fun j hj => by rw [v2.at0 hj, ctI_ne (by decide)]
  have rk82 : rK (ctI M2 0 4 1) 82 = rK Mc 82 := rK_congr (fun k _ _ => by rw [c 82 (by omega) (by omega)]) (fun i _ => by rw [c (82 + 2) (by omega) (by omega)]) (fun f k _ _ => by rw [c (82 + 5 + f) (by omega) (by omega)])
  have rk108 : rK (ctI M2 0 4 1) 108 = rK Mc 82 := by rw [rK_ne (by decide) (by decide) (by decide), w2.2.1]
  have k0 : rK Mc 82 0 = Mm.1 1 0 := (ag 0 (by decide)).symm
  have agI : Ag (M3.1 2) (rK Mc 82) := fun j hj => (mi j (by omega)).trans (ag j hj)
  have ag12 : Ag (Mm.1 1) (M3.1 2) := fun j hj => (mi j (by omega)).symm
  refine ⟨Mm.1 1 0, ctI M2 0 4 1, M3, ?_, ?_, pc.of2 w2.1, fun k hk => by rw [v2.1]; exact pm k hk, ?_, by rw [m 1 (by decide) (by decide), rk82]; exact ag, ⟨n, by rw [m 1 (by decide) (by decide)]; exact hi⟩, ⟨nt, ?_, ?_, ?_⟩, ?_, ?_, ?_, ?_, ?_, ?_⟩
  · have e : gI kdC 2 5 82 (ctI M2 0 4 1) = some (Mm.1 1 0) := by rw [rm_i5 r82, rk82, k0]
    have pcx : PC (ctI M2 0 4 1) := pc.of2 w2.1
    unfold fX6_keep
    rw [o_ima pc, bS, o_now pc, bS, rm_cV r108, w1, bS, o_p, bS, o_now pcx, bS, e, bS]
  · unfold fX7_keep
    rw [m_p0, bS, gM0 pm1, bS, gM1 pm1, bS, m_cV, v1, bS, gM0 (v2.pm pm1), bS, m_s0, bS, m 1 (by decide) (by decide)]
  · have e2 : (ctI M2 0 4 1).2 = Mc.2 := w2.1
    unfold LW; rw [e2]; exact lw
  · exact tx.congr w2.1 (fun b h1 h2 _ => c b (by omega) (by omega)) (fun j _ => by rw [m 1 (by decide) (by decide)])
  · exact ct.congr (fun k _ => by rw [c (82 + 4) (by omega) (by omega)]) (fun t _ => by rw [m 1 (by decide) (by decide)])
  · refine Or.inr ⟨by rw [ctI_1, va_up_eq'], by rw [v2.2.1 0 (by decide), ctI_1, va_up_eq'], by rw [rk108]; exact agI, ⟨n, hi.ag ag12⟩, nt, Nat.le_refl _, ?_, ?_, fun t ht j j1 j2 => ?_⟩
    · rw [mi 1 (by decide)]; exact tx.2.1
    · exact ct.congr (fun k hk => by rw [ctI_ne (by decide), w2.2.2.1 k hk]) (fun t ht => by rw [mi _ (by have := tx.1; omega)])
    · rw [m 1 (by decide) (by decide), mi j (by have := tx.1; omega)]
  · exact sh.congr (fun b h1 h2 => c b (by omega) (by omega)) (m 4 (by decide) (by decide)) (m 5 (by decide) (by decide)) (m 6 (by decide) (by decide))
  · exact sl.congr (fun b h1 h2 => c b (by omega) (by omega)) (fun b h1 h2 => m b (by omega) (by omega))
  · exact tp.congr (by rw [c 4 (by omega) (by omega)]) (c 5 (by omega) (by omega)) (m0 18 (by decide)) (m 15 (by decide) (by decide))
  · exact wt.congr (c0 8 (by decide)) (c 3 (by omega) (by omega)) (m0 33 (by decide)) (m 19 (by decide) (by decide))
  · rw [m 1 (by decide) (by decide)]; exact sy.1
  · exact fun _ => sy.1.of (fun i hi => mi _ (by omega))
theorem op_back : opS0 Sim fX6_back fX7_back := by
  intro Mc Mm h
  obtain ⟨pc, pm, lw, ag, ⟨n, hi⟩, ⟨nt, tx, ct, im⟩, sh, sl, tp, wt, sy⟩ := id h
  rcases im with ⟨e1, e2⟩ | ⟨e1, e2, e3, ⟨n2, e4⟩, ni, e5, e6, e7, e8⟩
  · refine ⟨-1000000002, Mc, Mm, ?_, ?_, h⟩
    · simp only [fX6_back, o_g, bS, e1, if_true]
    · simp only [fX7_back, m_g0, bS, e2, if_true]
  · obtain ⟨M2, w1, w2⟩ := c_become pc r82 r108 (by decide)
    obtain ⟨M3, v1, v2⟩ := m_setAside (M := Mm) (a := 2) (b := 1) rfl rfl rfl rfl (by decide)
    have c : ∀ b, b < 82 ∨ 95 ≤ b → M2.1 b = Mc.1 b := fun b hb => w2.2.2.2 b (by omega)
    have m : ∀ b, b ≠ 1 → M3.1 b = Mm.1 b := fun b h1 => v2.2.1 b h1
    have mi : ∀ j, j < 2870 → M3.1 1 j = Mm.1 2 j := fun j hj => v2.at0 hj
    have rk108 : rK M2 108 = rK Mc 108 := rK_congr (fun k _ _ => by rw [c 108 (by omega)]) (fun i _ => by rw [c (108 + 2) (by omega)]) (fun f k _ _ => by rw [c (108 + 5 + f) (by omega)])
    have ag21 : Ag (Mm.1 2) (M3.1 1) := fun j hj => (mi j (by omega)).symm
    have hnt := tx.1
    have ag' : Ag (M3.1 1) (rK M2 82) := by rw [w2.2.1]; exact ag21.sy.tr e3
    refine ⟨M3.1 1 0, M2, M3, ?_, ?_, pc.of2 w2.1, fun k hk => by rw [v2.1]; exact pm k hk, ?_, ag', ⟨n2, e4.ag ag21⟩, ⟨ni, ⟨by omega, by rw [mi 1 (by decide)]; exact e6, fun t ht => ?_⟩, ?_, ?_⟩, ?_, ?_, ?_, ?_, ?_, ?_⟩
    · unfold fX6_back
      rw [o_g, bS, e1, if_neg i_10, o_now pc, bS, o_ima pc, bS, rm_cV r82, w1, bS, o_now (w2.pc pc), bS, rm_i5 r82, bS, ag' 0 (by decide)]
    · unfold fX7_back
      rw [m_g0, bS, e2, if_neg i_10, gM1 pm, bS, gM0 pm, bS, m_cV, v1, bS, gM0 (v2.pm pm), bS, m_s0, bS]
    · unfold LW; rw [w2.1]; exact lw
    · obtain ⟨key, g, a, a1, a2, a3, a4, a5, a6, a7, a8⟩ := tx.2.2 t (by omega)
      have hl := law_low a4 (Nat.le_refl a) (by omega)
      have es : ∀ j, 70 + 200 * t ≤ j → j < 270 + 200 * t → M3.1 1 j = Mm.1 1 j := fun j j1 j2 => by rw [mi j (by omega), e8 t ht j j1 j2]
      refine ⟨key, g, a, a1, ?_, by rw [w2.1]; exact a3, a4, ?_, ?_, a7.congr (fun b b1 b2 => c b (by have := law_low a4 b1 b2; omega)), a8.congr es⟩
      · rw [es _ (by omega) (by omega)]; exact a2
      · rw [c a (by omega)]; exact a5
      · rw [c a (by omega), es _ (by omega) (by omega)]; exact a6
    · exact e7.congr (fun k hk => w2.2.2.1 k hk) (fun t ht => by rw [mi _ (by omega)])
    · refine Or.inr ⟨by rw [c 0 (by omega)]; exact e1, by rw [m 0 (by decide)]; exact e2, by rw [m 2 (by decide), rk108]; exact e3, ⟨n2, by rw [m 2 (by decide)]; exact e4⟩, ni, Nat.le_refl _, by rw [m 2 (by decide)]; exact e6, ?_, fun t ht j j1 j2 => ?_⟩
      · exact e7.congr (fun k _ => by rw [c (108 + 4) (by omega)]) (fun t _ => by rw [m 2 (by decide)])
      · rw [m 2 (by decide), mi j (by omega)]
    · exact sh.congr (fun b h1 h2 => c b (by omega)) (m 4 (by decide)) (m 5 (by decide)) (m 6 (by decide))
    · exact sl.congr (fun b h1 h2 => c b (by omega)) (fun b h1 h2 => m b (by omega))
    · exact tp.congr (by rw [c 4 (by omega)]) (c 5 (by omega)) (by rw [m 0 (by decide)]) (m 15 (by decide))
    · exact wt.congr (by rw [c 0 (by omega)]) (c 3 (by omega)) (by rw [m 0 (by decide)]) (m 19 (by decide))
    · exact (sy.2 e2).of (fun i hi => mi _ (by omega))
    · rw [m 0 (by decide), m 2 (by decide)]; exact sy.2
end
