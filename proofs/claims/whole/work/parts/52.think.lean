/-! what is only thought -/
section
variable {M Mc Mm : ctM} {n : Nat}
theorem mt14 {i : Nat} (hi : i < 70) : aI kdM lnM 9 14 (nI i) M = some (M.1 14 i) := aI_at (n := 70) rfl rfl hi (by decide)
theorem mw14 {i : Nat} {v : Int32} (hi : i < 70) : sI kdM lnM 9 14 (nI i) v M = some (ctI M 14 i v) := sI_at (n := 70) rfl rfl hi (by decide)
theorem m_byLoop (pm : PM M) : ∀ (d j N : Nat) (M1 : ctM), j + d = 70 → d < N → FlS M 14 0 j (fun q => M.1 1 q) M1 → ∃ M2, fX7_laysBy_h2 N 0 (nI j) M1 = some M2 ∧ FlS M 14 0 70 (fun q => M.1 1 q) M2 := by
  intro d
  induction d with
  | zero =>
    intro j N M1 hj hN h
    obtain ⟨N, rfl⟩ : ∃ k, N = k + 1 := ⟨N - 1, by omega⟩
    have : j = 70 := by omega
    subst this
    exact ⟨M1, by rw [fX7_laysBy_h2, if_pos (by decide)], h⟩
  | succ d ih =>
    intro j N M1 hj hN h
    obtain ⟨N, rfl⟩ : ∃ k, N = k + 1 := ⟨N - 1, by omega⟩
    have h2 := h.step (v := M1.1 1 j) (by rw [h.2.1 1 (by decide)])
    rw [Nat.zero_add] at h2
    obtain ⟨M2, w1, w2⟩ := ih (j + 1) N _ (by omega) (by omega) h2
    refine ⟨M2, ?_, w2⟩
    rw [fX7_laysBy_h2, if_neg (show ¬ (70 : Int32) ≤ nI j from nI_ge (b := 70) (by omega) (by decide)), gM16 (h.pm pm), bS, gM0 (h.pm pm), bS, m_s (by omega), bS, mw14 (by omega), bS, nI_1]
    exact w1
theorem m_backLoop (pm : PM M) : ∀ (d j N : Nat) (M1 : ctM), j + d = 70 → d < N → FlS M 1 0 j (fun q => M.1 14 q) M1 → ∃ M2, fX7_laysBack_h2 N 0 (nI j) M1 = some M2 ∧ FlS M 1 0 70 (fun q => M.1 14 q) M2 := by
  intro d
  induction d with
  | zero =>
    intro j N M1 hj hN h
    obtain ⟨N, rfl⟩ : ∃ k, N = k + 1 := ⟨N - 1, by omega⟩
    have : j = 70 := by omega
    subst this
    exact ⟨M1, by rw [fX7_laysBack_h2, if_pos (by decide)], h⟩
  | succ d ih =>
    intro j N M1 hj hN h
    obtain ⟨N, rfl⟩ : ∃ k, N = k + 1 := ⟨N - 1, by omega⟩
    have h2 := h.step (v := M1.1 14 j) (by rw [h.2.1 14 (by decide)])
    rw [Nat.zero_add] at h2
    obtain ⟨M2, w1, w2⟩ := ih (j + 1) N _ (by omega) (by omega) h2
    refine ⟨M2, ?_, w2⟩
    rw [fX7_laysBack_h2, if_neg (show ¬ (70 : Int32) ≤ nI j from nI_ge (b := 70) (by omega) (by decide)), gM0 (h.pm pm), bS, gM16 (h.pm pm), bS, mt14 (by omega), bS, m_ss (by omega), bS, nI_1]
    exact w1
/-- the class's thought and the model's s, beside the two memories Mc0 and Mm0 from which they came -/
def Th (Mc0 Mm0 : ctM) (n : Nat) (E : Ev) (Mc Mm : ctM) : Prop :=
  (Mc.2 = Mc0.2 ∧ (∀ b, ¬ isGv b → b < 95 ∨ 108 ≤ b → Mc.1 b = Mc0.1 b) ∧ EvC Mc 95 E) ∧
  (WkM Mm0 (Mm.1 1) Mm ∧ (∀ j, j < 70 → Mm.1 14 j = Mm0.1 1 j) ∧ (∀ j, j = 1 ∨ 70 ≤ j → Mm.1 1 j = Mm0.1 1 j) ∧ ∃ nt, EvM (Mm.1 1) nt E) ∧
  Ag (Mm.1 1) (rK Mc 95) ∧ Inv (Mm.1 1) n
theorem Th.pc {Mc0 Mm0 : ctM} {E : Ev} (h : Th Mc0 Mm0 n E Mc Mm) (p : PC Mc0) : PC Mc := p.of2 h.1.1
theorem Th.pm {Mc0 Mm0 : ctM} {E : Ev} (h : Th Mc0 Mm0 n E Mc Mm) (p : PM Mm0) : PM Mm := h.2.1.1.pm p
/-- the model lays by -/
theorem th_by (h : Sim Mc Mm) : ∃ Mm1, fX7_laysBy 0 Mm = some Mm1 ∧ WkM Mm (Mm.1 1) Mm1 ∧ ∀ j, j < 70 → Mm1.1 14 j = Mm.1 1 j := by
  obtain ⟨M2, w1, w2⟩ := m_byLoop h.2.1 70 0 4000 Mm (by decide) (by decide) FlS.rf
  rw [nI_0] at w1
  refine ⟨M2, w1, ⟨w2.1, w2.2.1 1 (by decide), fun b _ _ _ _ h14 _ _ _ _ => w2.2.1 b h14, fun k _ _ => by rw [w2.2.1 0 (by decide)]⟩, fun j hj => w2.at0 hj⟩
/-- the class's thought becomes as what is now: where the model stands at what it laid by -/
theorem th_start {Mc0 Mm0 : ctM} (h : Sim Mc0 Mm0) (hi : Inv (Mm0.1 1) n) {E : Ev} {nt : Nat} (e1 : EvM (Mm0.1 1) nt E) (e2 : EvC Mc0 82 E) (c2 : Mc.2 = Mc0.2) (cc : ∀ b, ¬ isGv b → b < 95 ∨ 108 ≤ b → Mc.1 b = Mc0.1 b) (m : WkM Mm0 (Mm0.1 1) Mm) (m14 : ∀ j, j < 70 → Mm.1 14 j = Mm0.1 1 j) : ∃ Mc1, fX2_become 95 82 Mc = some Mc1 ∧ Th Mc0 Mm0 n E Mc1 Mm := by
  have pc := h.1.of2 c2
  obtain ⟨M2, w1, w2⟩ := c_become pc r95 r82 (by decide)
  have rk82 : rK Mc 82 = rK Mc0 82 := rK_congr (fun k _ _ => by rw [cc 82 (by decide) (by omega)]) (fun i _ => by rw [cc (82 + 2) (by decide) (by omega)]) (fun f k _ _ => by rw [cc (82 + 5 + f) (gv_rm r82 (by omega)) (by omega)])
  have hm := m.2.1
  refine ⟨M2, w1, ⟨w2.1.trans c2, fun b h1 h2 => by rw [w2.2.2.2 b (by omega)]; exact cc b h1 h2, ?_⟩, ⟨by rw [hm]; exact m, m14, fun j _ => by rw [hm], nt, by rw [hm]; exact e1⟩, ?_, by rw [hm]; exact hi⟩
  · exact e2.room (w2.1.trans c2) (fun k hk => by rw [w2.2.2.1 k hk, cc (82 + 4) (by decide) (by omega)]) (fun b h1 h2 _ => by rw [w2.2.2.2 b (by omega)]; exact cc b h2 (by omega))
  · rw [hm, w2.2.1, rk82]; exact h.2.2.2.1
theorem th_tick {Mc0 Mm0 : ctM} {E : Ev} (s : Sim Mc0 Mm0) (h : Th Mc0 Mm0 n E Mc Mm) : ∃ (v : Int32) (Mc2 Mm2 : ctM), fX2_goBy 95 Mc = some (v, Mc2) ∧ fX7_ticks 0 Mm = some (v, Mm2) ∧ Th Mc0 Mm0 n E Mc2 Mm2 := by
  obtain ⟨⟨c2, cc, ec⟩, ⟨wk, m14, tx, nt, em⟩, ag, hi⟩ := id h
  have hn := hi.1
  obtain ⟨M2, w1, w2⟩ := c_goBy (h.pc s.1) r95 (hi.ag ag) ec
  obtain ⟨M3, v1, v2⟩ := m_ticks (h.pm s.2.1) hi em
  refine ⟨fsumS E (Mm.1 1) n n, M2, M3, by rw [w1, fsumS_ag ag hn n hn], v1, ⟨w2.1.trans c2, fun b h1 h2 => (w2.2.2.2 b h1 h2).trans (cc b h1 h2), w2.ev r95 ec⟩, ⟨by rw [v2.2.1]; exact wk.tk v2, fun j hj => by rw [v2.2.2 14 (by decide) (by decide) (by decide) (by decide)]; exact m14 j hj, fun j hj => by rw [v2.2.1, tick_txt hn hj]; exact tx j hj, nt, by rw [v2.2.1]; exact em.congr (fun j hj => tick_txt hn hj)⟩, ?_, ?_⟩
  · rw [v2.2.1, w2.2.1]; exact tickS_ag ag hn
  · rw [v2.2.1]; exact tick_inv hi
/-- what the model says of a spread that is only looked at -/
def snS (K : Kv) (n : Nat) : Int32 := if anS K n = true then nI (120 - grS (phS K n) 120) else -1
theorem th_fd {Mc0 Mm0 M3 : ctM} {E : Ev} (h : Th Mc0 Mm0 n E Mc Mm) (f : FdM Mm M3) : Th Mc0 Mm0 n E Mc M3 := by
  obtain ⟨c, ⟨wk, m14, tx, nt, em⟩, ag, hi⟩ := id h
  exact ⟨c, ⟨by rw [f.s]; exact wk.fd f, fun j hj => by rw [f.2.1 14 (by decide) (by decide)]; exact m14 j hj, fun j hj => by rw [f.s]; exact tx j hj, nt, by rw [f.s]; exact em⟩, by rw [f.s]; exact ag, by rw [f.s]; exact hi⟩
theorem th_sn {Mc0 Mm0 : ctM} {E : Ev} (s : Sim Mc0 Mm0) (h : Th Mc0 Mm0 n E Mc Mm) : fX2_arc 95 Mc = some (spS (Mm.1 1) n, Mc) ∧ ∃ Mm2, fX7_spreadNow 0 Mm = some (snS (Mm.1 1) n, Mm2) ∧ Mm2.1 1 = Mm.1 1 ∧ Th Mc0 Mm0 n E Mc Mm2 := by
  have ag := h.2.2.1
  have hi := h.2.2.2
  obtain ⟨M2, w1, w2⟩ := m_spreadNow (h.pm s.2.1) hi
  exact ⟨by rw [c_arc (h.pc s.1) r95 (hi.ag ag), spS_ag ag hi.1], M2, w1, w2.s, th_fd h w2⟩
theorem th_back {Mc0 Mm0 : ctM} {E : Ev} (s : Sim Mc0 Mm0) (h : Th Mc0 Mm0 n E Mc Mm) : ∃ Mm2, fX7_laysBack 0 Mm = some Mm2 ∧ WkM Mm0 (Mm0.1 1) Mm2 ∧ (∀ j, j < 70 → Mm2.1 14 j = Mm0.1 1 j) ∧ Sim Mc Mm2 := by
  obtain ⟨⟨c2, cc, ec⟩, ⟨wk, m14, tx, nt, em⟩, ag, hi⟩ := id h
  obtain ⟨M2, w1, w2⟩ := m_backLoop (h.pm s.2.1) 70 0 4000 Mm (by decide) (by decide) FlS.rf
  rw [nI_0] at w1
  have e1 : M2.1 1 = Mm0.1 1 := by
    funext j
    rcases Nat.lt_or_ge j 70 with q | q
    · rw [w2.at0 q]; exact m14 j q
    · rw [w2.2.2.2 j (by omega)]; exact tx j (Or.inr q)
  have wk2 : WkM Mm0 (Mm0.1 1) M2 := ⟨w2.1.trans wk.1, e1, fun b a1 a2 a3 a4 a5 a6 a7 a8 a9 => (w2.2.1 b (by omega)).trans (wk.2.2.1 b a1 a2 a3 a4 a5 a6 a7 a8 a9), fun k a1 a2 => by rw [w2.2.1 0 (by decide)]; exact wk.2.2.2 k a1 a2⟩
  exact ⟨M2, w1, wk2, fun j hj => by rw [w2.2.1 14 (by decide)]; exact m14 j hj, s.think c2 cc wk2 (fun _ => rfl)⟩
end
