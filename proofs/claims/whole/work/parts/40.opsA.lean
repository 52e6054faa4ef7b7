/-! the flames: calls that change or read one -/
section
variable {Mc Mm : ctM} {n : Nat}
theorem bS {α β : Type} (a : α) (f : α → Option β) : (some a).bind f = f a := (Option.bind_some a f).trans (Eq.refl _)
theorem i_10 : ¬ (1 : Int32) = 0 := by decide
theorem Inv.up_fl {S : Kv} {f k : Nat} {v : Int32} (h : Inv S n) (hf : f < n) (hk : k < 7) (hv : (k = 0 → rg v 0 6) ∧ (k = 1 → rg v 0 30) ∧ (k = 2 → rg v 0 30) ∧ (k = 3 → rg v 1 10) ∧ (k = 4 → rg v 0 120) ∧ (k = 5 → rg v 0 1000)) : Inv (va_up S (14 + 7 * f + k) v) n := by
  obtain ⟨h1, h2, h3, h4, h5⟩ := h
  refine ⟨h1, by rw [va_up_ne' (by omega)]; exact h2, fun g hg => ?_, fun i hi => ?_, fun i hi hj => ?_⟩
  · obtain ⟨a0, a1, a2, a3, a4, a5⟩ := h3 g hg
    have key : ∀ i lo hi, i < 7 → rg (fl S g i) lo hi → (k = i → rg v lo hi) → rg (fl (va_up S (14 + 7 * f + k) v) g i) lo hi := by
      intro i lo hi hi7 ha hb
      unfold fl
      by_cases e : 14 + 7 * g + i = 14 + 7 * f + k
      · rw [e, va_up_eq']
        exact hb (by omega)
      · rw [va_up_ne' e]; exact ha
    exact ⟨key 0 _ _ (by decide) a0 hv.1, key 1 _ _ (by decide) a1 hv.2.1, key 2 _ _ (by decide) a2 hv.2.2.1, key 3 _ _ (by decide) a3 hv.2.2.2.1, key 4 _ _ (by decide) a4 hv.2.2.2.2.1, key 5 _ _ (by decide) a5 hv.2.2.2.2.2⟩
  · rw [va_up_ne' (by omega)]; exact h4 i hi
  · rw [va_up_ne' (by omega)]; exact h5 i hi hj
theorem Inv.up_lo {S : Kv} {j : Nat} {v : Int32} (h : Inv S n) (hj : 1 ≤ j ∧ j < 6) : Inv (va_up S j v) n := by
  obtain ⟨h1, h2, h3, h4, h5⟩ := h
  have e : ∀ f k, fl (va_up S j v) f k = fl S f k := fun f k => va_up_ne' (by omega)
  refine ⟨h1, by rw [va_up_ne' (by omega)]; exact h2, fun g hg => ?_, fun i hi => ?_, fun i hi hj => ?_⟩
  · simp only [e]; exact h3 g hg
  · rw [va_up_ne' (by omega)]; exact h4 i hi
  · rw [va_up_ne' (by omega)]; exact h5 i hi hj
/-- one field of one flame becomes v on both sides -/
theorem Sim.put1 {f k : Nat} {v : Int32} (h : Sim Mc Mm) (hi : Inv (Mm.1 1) n) (hf : f < n) (hk : k < 7) (hv : (k = 0 → rg v 0 6) ∧ (k = 1 → rg v 0 30) ∧ (k = 2 → rg v 0 30) ∧ (k = 3 → rg v 1 10) ∧ (k = 4 → rg v 0 120) ∧ (k = 5 → rg v 0 1000)) : Sim (ctI Mc (82 + 5 + f) k v) (ctI Mm 1 (14 + 7 * f + k) v) := by
  have := hi.1
  exact h.put (TkC.rf.pf (show f < 8 by omega) hk) (WkM.rf.put _ _) (h.2.2.2.1.up _ _) (hi.up_fl hf hk hv) (fun j hj => va_up_ne' (by omega)) (h.sy.up (by omega))
theorem op_seed : opS1 Sim fX6_seed fX7_seed := by
  intro Mc Mm h v
  obtain ⟨pc, pm, _, ag, ⟨n, hi⟩, _⟩ := id h
  refine ⟨Mm.1 1 5, ctI Mc 82 9 v, ctI Mm 1 5 v, ?_, ?_, ?_⟩
  · unfold fX6_seed
    rw [o_now pc, bS, rm_i9 r82, bS, bS, rm_p r82, bS, ag 5 (by decide)]
  · unfold fX7_seed
    rw [m_cV, show (5 : Int32) = nI 5 from rfl, m_becomes pm (by decide), bS]
  · exact h.put (TkC.rf.pr (j := 5) (by decide)) (WkM.rf.put 5 v) (ag.up 5 v) (hi.up_lo (by omega)) (fun j hj => va_up_ne' (by omega)) (h.sy.up (by omega))
theorem op_turns : opS2 Sim fX6_turns fX7_turns := by
  intro Mc Mm h x k
  obtain ⟨pc, pm, _, ag, ⟨n, hi⟩, _⟩ := id h
  have hn := hi.1
  have k0 : rK Mc 82 0 = nI n := (ag 0 (by decide)).symm.trans hi.2.1
  by_cases h1 : 0 ≤ x ∧ x ≤ nI n - 1
  · by_cases h2 : 0 ≤ k ∧ k ≤ 5
    · obtain ⟨f, hf, rfl⟩ := (ix_iff (by omega)).mp h1
      have hf8 : f < 8 := by omega
      refine ⟨fl (Mm.1 1) f 0, ctI Mc (82 + 5 + f) 0 k, ctI Mm 1 (14 + 7 * f + 0) k, ?_, ?_, h.put1 hi hf (by decide) ⟨fun _ => rg_in (hi := 5) nI_0.symm rfl (by decide) (by decide) h2, by omega, by omega, by omega, by omega, by omega⟩⟩
      · simp only [fX6_turns, o_cV, c_isFlame pc k0, bS, if_pos h1, if_neg i_10, c_isKind, if_pos h2, o_now pc, rm_f1 pc r82, rm_fl pc r82 hf8, fl_g r82 hf8 (show 0 < 7 by decide), fl_p r82 hf8, ag.fl hf8 (show 0 < 7 by decide)]
      · simp only [fX7_turns, m_cV, m_isFlame pm hi.2.1, bS, if_pos h1, if_neg i_10, m_isInL k 0 5 0 5 (by decide) (by decide), if_pos h2, m_flameAt, m_becomes pm (show 14 + 7 * f < 3070 by omega)]
        rfl
    · exact ⟨-1000000001, Mc, Mm, by simp only [fX6_turns, o_cV, c_isFlame pc k0, bS, if_pos h1, if_neg i_10, c_isKind, if_neg h2, if_true], by simp only [fX7_turns, m_cV, m_isFlame pm hi.2.1, bS, if_pos h1, if_neg i_10, m_isInL k 0 5 0 5 (by decide) (by decide), if_neg h2, if_true], h⟩
  · exact ⟨-1000000001, Mc, Mm, by simp only [fX6_turns, o_cV, c_isFlame pc k0, bS, if_neg h1, if_true], by simp only [fX7_turns, m_cV, m_isFlame pm hi.2.1, bS, if_neg h1, if_true], h⟩
theorem op_move : opS2 Sim fX6_move fX7_move := by
  intro Mc Mm h x k
  obtain ⟨pc, pm, _, ag, ⟨n, hi⟩, _⟩ := id h
  have hn := hi.1
  have k0 : rK Mc 82 0 = nI n := (ag 0 (by decide)).symm.trans hi.2.1
  by_cases h1 : 0 ≤ x ∧ x ≤ nI n - 1
  · by_cases h2 : okPl k
    · obtain ⟨f, hf, rfl⟩ := (ix_iff (by omega)).mp h1
      have hf8 : f < 8 := by omega
      obtain ⟨g1, g2⟩ := pl_rg h2
      obtain ⟨_, q1, q2, _⟩ := hi.2.2.1 f hf
      have pm2 : PM (ctI Mm 1 (14 + 7 * f + 1) (k / 100)) := pm
      have s1 := h.put1 (v := k / 100) hi hf (show 1 < 7 by decide) ⟨by omega, fun _ => g1, by omega, by omega, by omega, by omega⟩
      have i1 : Inv ((ctI Mm 1 (14 + 7 * f + 1) (k / 100)).1 1) n := by
        rw [ctI_1]; exact hi.up_fl hf (by decide) ⟨by omega, fun _ => g1, by omega, by omega, by omega, by omega⟩
      refine ⟨offS (fl (Mm.1 1) f 1) (k / 100) + offS (fl (Mm.1 1) f 2) (k % 100), ctI (ctI Mc (82 + 5 + f) 1 (k / 100)) (82 + 5 + f) 2 (k % 100), ctI (ctI Mm 1 (14 + 7 * f + 1) (k / 100)) 1 (14 + 7 * f + 2) (k % 100), ?_, ?_, s1.put1 (v := k % 100) i1 hf (show 2 < 7 by decide) ⟨by omega, by omega, fun _ => g2, by omega, by omega, by omega⟩⟩
      · simp only [fX6_move, o_cV, c_isFlame pc k0, bS, if_pos h1, if_neg i_10, c_isPlaceT h2, o_now pc, rm_f1 pc r82, rm_fl pc r82 hf8, fl_cV r82 hf8, fX0_wayTo, fl_g r82 hf8 (show 1 < 7 by decide), fl_g r82 hf8 (show 2 < 7 by decide), fl_p r82 hf8, ← ag.fl hf8 (show 1 < 7 by decide), ← ag.fl hf8 (show 2 < 7 by decide), ab_offr q1 g1, ab_offr q2 g2]
      · simp only [fX7_move, m_cV, m_isFlame pm hi.2.1, bS, if_pos h1, if_neg i_10, m_isPlaceT h2, m_flameAt, show nI (14 + 7 * f) + 1 = nI (14 + 7 * f + 1) from nI_add _ 1, show nI (14 + 7 * f) + 2 = nI (14 + 7 * f + 2) from nI_add _ 2, m_becomes pm (show 14 + 7 * f + 1 < 3070 by omega), m_becomes pm2 (show 14 + 7 * f + 2 < 3070 by omega), m_off, ctI_1]
        rw [va_up_ne' (show 14 + 7 * f + 2 ≠ 14 + 7 * f + 1 by omega)]
        rfl
    · exact ⟨-1000000001, Mc, Mm, by simp only [fX6_move, o_cV, c_isFlame pc k0, bS, if_pos h1, if_neg i_10, c_isPlaceF h2, if_true], by simp only [fX7_move, m_cV, m_isFlame pm hi.2.1, bS, if_pos h1, if_neg i_10, m_isPlaceF h2, if_true], h⟩
  · exact ⟨-1000000001, Mc, Mm, by simp only [fX6_move, o_cV, c_isFlame pc k0, bS, if_neg h1, if_true], by simp only [fX7_move, m_cV, m_isFlame pm hi.2.1, bS, if_neg h1, if_true], h⟩
theorem op_reach : opS2 Sim fX6_reach fX7_reach := by
  intro Mc Mm h x k
  obtain ⟨pc, pm, _, ag, ⟨n, hi⟩, _⟩ := id h
  by_cases h1 : 0 ≤ x ∧ x ≤ 1
  · by_cases h2 : 0 ≤ k ∧ k ≤ 59
    · obtain ⟨j, _, hj, rfl⟩ := rg_in (hi := 1) nI_0.symm rfl (by decide) (by decide) h1
      rcases (by omega : j = 0 ∨ j = 1) with rfl | rfl
      · refine ⟨Mm.1 1 3, ctI Mc 82 6 k, ctI Mm 1 3 k, ?_, ?_, h.put (TkC.rf.pr (j := 3) (by decide)) (WkM.rf.put 3 k) (ag.up 3 k) (hi.up_lo (by omega)) (fun j hj => va_up_ne' (by omega)) (h.sy.up (by omega))⟩
        · simp only [fX6_reach, fX6_reach_b43, c_within, bS, if_pos h1, if_pos h2, if_neg i_10, if_pos nI_0, o_now pc, rm_i6 r82, rm_p r82, ag 3 (by decide)]
        · simp only [fX7_reach, m_isInL (nI 0) 0 1 0 1 (by decide) (by decide), m_isInL k 0 59 0 59 (by decide) (by decide), bS, if_pos h1, if_pos h2, if_neg i_10, m_cV, show (3 : Int32) + nI 0 = nI 3 from by decide, m_becomes pm (show 3 < 3070 by decide)]
      · refine ⟨Mm.1 1 4, ctI Mc 82 7 k, ctI Mm 1 4 k, ?_, ?_, h.put (TkC.rf.pr (j := 4) (by decide)) (WkM.rf.put 4 k) (ag.up 4 k) (hi.up_lo (by omega)) (fun j hj => va_up_ne' (by omega)) (h.sy.up (by omega))⟩
        · simp only [fX6_reach, fX6_reach_b43, c_within, bS, if_pos h1, if_pos h2, if_neg i_10, show ¬ nI 1 = 0 from by decide, if_false, o_now pc, rm_i7 r82, rm_p r82, ag 4 (by decide)]
        · simp only [fX7_reach, m_isInL (nI 1) 0 1 0 1 (by decide) (by decide), m_isInL k 0 59 0 59 (by decide) (by decide), bS, if_pos h1, if_pos h2, if_neg i_10, m_cV, show (3 : Int32) + nI 1 = nI 4 from by decide, m_becomes pm (show 4 < 3070 by decide)]
    · exact ⟨-1000000001, Mc, Mm, by simp only [fX6_reach, c_within, bS, if_pos h1, if_neg i_10, if_neg h2, if_true], by simp only [fX7_reach, m_isInL x 0 1 0 1 (by decide) (by decide), m_isInL k 0 59 0 59 (by decide) (by decide), bS, if_pos h1, if_neg h2, if_neg i_10, if_true], h⟩
  · exact ⟨-1000000001, Mc, Mm, by simp only [fX6_reach, c_within, bS, if_neg h1, if_true], by simp only [fX7_reach, m_isInL x 0 1 0 1 (by decide) (by decide), bS, if_neg h1, if_true], h⟩
theorem m_worth (p : PM Mm) {f : Nat} (hf : f < 8) : fX7_worth 0 (nI f) Mm = some (kWorth (fl (Mm.1 1) f 0) (fl (Mm.1 1) f 3), Mm) := by
  unfold fX7_worth kWorth
  rw [m_cV, m_of3 p hf]
  simp only [Option.bind_some, m_cV]
  rw [m_of0 p hf]
  simp only [Option.bind_some, if_sp]
theorem c_worthA {a : Nat} (ha : kdC a = 0) : fX0_worth a Mc = some (kWorth (Mc.1 a 0) (Mc.1 a 3), Mc) := by
  unfold fX0_worth kWorth
  rw [gI_at ha, gI_at ha]
  simp only [Option.bind_some, if_sp, i_92]
theorem c_worth {r f : Nat} (hr : isRm r) (hf : f < 8) : fX0_worth (r + 5 + f) Mc = some (kWorth (fl (rK Mc r) f 0) (fl (rK Mc r) f 3), Mc) := by
  rw [rK_fl hf (by decide), rK_fl hf (by decide)]
  exact c_worthA (kC_fl hr hf)
theorem c_isPair (pc : PC Mc) (k0 : rK Mc 82 0 = nI n) (x y : Int32) : fX6_isPair 0 x y Mc = some (if (0 ≤ x ∧ x ≤ nI n - 1) ∧ (0 ≤ y ∧ y ≤ nI n - 1) ∧ x ≠ y then 1 else 0, Mc) := by
  by_cases h1 : 0 ≤ x ∧ x ≤ nI n - 1
  · by_cases h2 : 0 ≤ y ∧ y ≤ nI n - 1
    · by_cases h3 : x = y
      · rw [if_neg (fun z => z.2.2 h3)]
        simp only [fX6_isPair, o_cV, c_isFlame pc k0, bS, if_pos h1, if_pos h2, if_neg i_10, if_pos h3]
      · rw [if_pos ⟨h1, h2, h3⟩]
        simp only [fX6_isPair, o_cV, c_isFlame pc k0, bS, if_pos h1, if_pos h2, if_neg i_10, if_neg h3]
    · rw [if_neg (fun z => h2 z.2.1)]
      simp only [fX6_isPair, o_cV, c_isFlame pc k0, bS, if_pos h1, if_neg h2, if_neg i_10, if_true]
  · rw [if_neg (fun z => h1 z.1)]
    simp only [fX6_isPair, o_cV, c_isFlame pc k0, bS, if_neg h1, if_true]
theorem op_push : opS2 Sim fX6_push fX7_push := by
  intro Mc Mm h x k
  obtain ⟨pc, pm, _, ag, ⟨n, hi⟩, _⟩ := id h
  obtain ⟨nt, E, e1, e2⟩ := h.ev
  have hn := hi.1
  have k0 : rK Mc 82 0 = nI n := (ag 0 (by decide)).symm.trans hi.2.1
  by_cases hp : (0 ≤ x ∧ x ≤ nI n - 1) ∧ (0 ≤ k ∧ k ≤ nI n - 1) ∧ x ≠ k
  · obtain ⟨h1, h2, h3⟩ := id hp
    obtain ⟨f, hf, rfl⟩ := (ix_iff (by omega)).mp h1
    obtain ⟨g, hg, rfl⟩ := (ix_iff (by omega)).mp h2
    obtain ⟨M2, w1, w2⟩ := c_pushBy pc r82 (hi.ag ag) e2 hf hg
    obtain ⟨M3, v1, v2⟩ := m_pushOf pm hi e1 hf hg
    refine ⟨pushS E (Mm.1 1) f g, M2, M3, ?_, ?_, h.scr w2 (WkM.rf.sc v2) (fun _ => rfl)⟩
    · simp only [fX6_push, o_cV, c_isPair pc k0, bS, if_pos hp, if_neg i_10, o_now pc, rm_cV r82, w1, pushS_ag ag (show f < 8 by omega) (show g < 8 by omega)]
    · simp only [fX7_push, m_cV, m_isFlame pm hi.2.1, bS, if_pos h1, if_pos h2, if_neg h3, if_neg i_10, v1]
  · refine ⟨-1000000001, Mc, Mm, by simp only [fX6_push, o_cV, c_isPair pc k0, bS, if_neg hp, if_true], ?_, h⟩
    by_cases h1 : 0 ≤ x ∧ x ≤ nI n - 1
    · by_cases h2 : 0 ≤ k ∧ k ≤ nI n - 1
      · have h3 : x = k := Classical.byContradiction fun z => hp ⟨h1, h2, z⟩
        simp only [fX7_push, m_cV, m_isFlame pm hi.2.1, bS, if_pos h1, if_pos h2, if_pos h3, if_neg i_10]
      · simp only [fX7_push, m_cV, m_isFlame pm hi.2.1, bS, if_pos h1, if_neg h2, if_neg i_10, if_true]
    · simp only [fX7_push, m_cV, m_isFlame pm hi.2.1, bS, if_neg h1, if_true]
theorem op_spread : opS0 Sim fX6_spread fX7_spread := by
  intro Mc Mm h
  obtain ⟨pc, pm, _, ag, ⟨n, hi⟩, _⟩ := id h
  obtain ⟨M2, w1, w2⟩ := m_spread pm hi
  refine ⟨spS (Mm.1 1) n, Mc, M2, ?_, w1, h.scr ScrC.rf (WkM.rf.fd w2) (fun _ => rfl)⟩
  simp only [fX6_spread, o_now pc, bS, rm_cV r82, c_arc pc r82 (hi.ag ag), spS_ag ag hi.1]
theorem op_groups : opS1 Sim fX6_groups fX7_groups := by
  intro Mc Mm h x
  obtain ⟨pc, pm, _, ag, ⟨n, hi⟩, _⟩ := id h
  by_cases h1 : 0 ≤ x ∧ x ≤ 119
  · obtain ⟨w, _, hw, rfl⟩ := rg_in (hi := 119) nI_0.symm rfl (by decide) (by decide) h1
    obtain ⟨M2, w1, w2⟩ := m_groups (w := w) pm hi (by omega)
    refine ⟨gpsS (Mm.1 1) n w, Mc, M2, ?_, w1, h.scr ScrC.rf (WkM.rf.fd w2) (fun _ => rfl)⟩
    simp only [fX6_groups, c_isPhase, if_pos h1, if_neg i_10, o_now pc, bS, rm_cV r82, c_gapsAbove pc r82 (hi.ag ag) (show w < 120 by omega), gpsS_ag ag hi.1]
  · exact ⟨-1000000001, Mc, Mm, by simp only [fX6_groups, c_isPhase, bS, if_neg h1, if_true], by simp only [fX7_groups, m_isInL x 0 119 0 119 (by decide) (by decide), bS, if_neg h1, if_true], h⟩
end
