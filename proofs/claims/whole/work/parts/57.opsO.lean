section
variable {M Mc Mm Mc0 Mm0 : ctM} {n : Nat} {E : Ev}
/-- the first that is lit from j on, d of them to go -/
def lfS (K : Kv) : Nat → Nat → Nat
  | 0, j => j
  | d + 1, j => if fl K j 5 ≤ 0 then lfS K d (j + 1) else j
theorem lfS_in (K : Kv) : ∀ d j, j ≤ lfS K d j ∧ lfS K d j ≤ j + d := by
  intro d
  induction d with
  | zero => intro j; exact ⟨Nat.le_refl _, Nat.le_refl _⟩
  | succ d ih =>
    intro j
    simp only [lfS]
    split
    · have := ih (j + 1); omega
    · omega
theorem lfS_ag {A B : Kv} (h : Ag A B) : ∀ d j, j + d ≤ 8 → lfS A d j = lfS B d j := by
  intro d
  induction d with
  | zero => intro j _; rfl
  | succ d ih => intro j hj; simp only [lfS, ih (j + 1) (by omega), h.fl (show j < 8 by omega) (show 5 < 7 by decide)]
theorem c_litFrom {r : Nat} (pc : PC M) (hr : isRm r) (hn : n ≤ 8) (h0 : rK M r 0 = nI n) {j : Nat} (hj : j ≤ n) : fX2_litFrom r (nI j) M = some (nI (lfS (rK M r) (n - j) j), M) := by
  have key : ∀ (d j N : Nat), j + d = n → d < N → fX2_litFrom_h6 N r (nI j) M = some (nI (lfS (rK M r) d j), M) := by
    intro d
    induction d with
    | zero =>
      intro j N hj hN
      obtain ⟨N, rfl⟩ : ∃ k, N = k + 1 := ⟨N - 1, by omega⟩
      have : j = n := by omega
      subst this
      rw [fX2_litFrom_h6, rm_i5 hr, h0, bS, if_pos (nI_le (Nat.le_refl _) (by omega)), bS, lfS]
    | succ d ih =>
      intro j N hj hN
      obtain ⟨N, rfl⟩ : ∃ k, N = k + 1 := ⟨N - 1, by omega⟩
      have hj8 : j < 8 := by omega
      rw [fX2_litFrom_h6, rm_i5 hr, h0, bS, if_neg (nI_ge (show j < n by omega) (by omega)), rm_f1 pc hr, bS, rm_fl pc hr hj8, bS, fl_cV hr hj8, c_isLit hr hj8, bS]
      by_cases hl : fl (rK M r) j 5 ≤ 0
      · simp only [if_pos hl, if_true, lfS]
        rw [nI_1]
        exact ih (j + 1) N (by omega) (by omega)
      · simp only [if_neg hl, lfS]
        rw [if_neg (by decide)]
  unfold fX2_litFrom
  have e : (if 0 < nI j then nI j else 0) = nI j := by
    rcases Nat.eq_zero_or_pos j with z | z
    · subst z; rfl
    · rw [if_pos (show (0 : Int32) < nI j from nI_lt (a := 0) z (by omega))]
  rw [e]
  exact key (n - j) j 4000 (by omega) (by omega)
theorem c_litEnd {r : Nat} (hr : isRm r) (hn : n ≤ 8) (h0 : rK M r 0 = nI n) {N : Nat} (hN : 0 < N) : fX2_litFrom_h6 N r (nI (n + 1)) M = some (nI n, M) := by
  obtain ⟨N, rfl⟩ : ∃ k, N = k + 1 := ⟨N - 1, by omega⟩
  rw [fX2_litFrom_h6, rm_i5 hr, h0, bS, if_pos (nI_le (by omega) (by omega)), bS]
theorem m_litBehind (pm : PM M) (hn : n ≤ 8) (h0 : M.1 1 0 = nI n) : ∀ (d j N : Nat), j + d = n → d < N → fX7_litBehind_h2 N 0 (nI j) M = some (nI (lfS (M.1 1) d j), M) := by
  intro d
  induction d with
  | zero =>
    intro j N hj hN
    obtain ⟨N, rfl⟩ : ∃ k, N = k + 1 := ⟨N - 1, by omega⟩
    have : j = n := by omega
    subst this
    rw [fX7_litBehind_h2, gM0 pm, bS, m_s0, h0, bS, if_pos (nI_le (Nat.le_refl _) (by omega)), lfS]
  | succ d ih =>
    intro j N hj hN
    obtain ⟨N, rfl⟩ : ∃ k, N = k + 1 := ⟨N - 1, by omega⟩
    have hj8 : j < 8 := by omega
    rw [fX7_litBehind_h2, gM0 pm, bS, m_s0, h0, bS, if_neg (nI_ge (show j < n by omega) (by omega)), m_cV, m_isLit pm j hj8, bS]
    by_cases hl : fl (M.1 1) j 5 ≤ 0
    · simp only [if_pos hl, if_true, lfS]
      rw [nI_1]
      exact ih (j + 1) N (by omega) (by omega)
    · simp only [if_neg hl, lfS]
      rw [if_neg (by decide)]
theorem m_litEnd (pm : PM M) (hn : n ≤ 8) (h0 : M.1 1 0 = nI n) {N : Nat} (hN : 0 < N) : fX7_litBehind_h2 N 0 (nI (n + 1)) M = some (nI (n + 1), M) := by
  obtain ⟨N, rfl⟩ : ∃ k, N = k + 1 := ⟨N - 1, by omega⟩
  rw [fX7_litBehind_h2, gM0 pm, bS, m_s0, h0, bS, if_pos (nI_le (by omega) (by omega))]
/-- thirty ticks -/
theorem many30 (s : Sim Mc0 Mm0) {k50 : Nat → Int32 → Int32 → Int32 → Int32 → Int32 → ctM → Option (Int32 × ctM)} : ∀ (d j N N2 : Nat) (Mc Mm : ctM), Th Mc0 Mm0 n E Mc Mm → j + d = 30 → d < N → d < N2 → ∃ Mc2 Mm2, Th Mc0 Mm0 n E Mc2 Mm2 ∧ fX7_ticksMany_h2 N 0 30 (nI j) Mm = some Mm2 ∧ ∀ x1 x2 x3 x4 x5, fX6_basin_h111 k50 N2 0 x1 x2 x3 x4 x5 (nI j) Mc = ((fX2_agrees 95 x1 Mc2).bind fun r => if r.1 = 0 then k50 0 x1 x2 x3 (x4 + 0) (x5 + 1) r.2 else k50 0 x1 x2 x3 (x4 + 1) (x5 + 1) r.2) := by
  intro d
  induction d with
  | zero =>
    intro j N N2 Mc Mm h hj hN hN2
    obtain ⟨N, rfl⟩ : ∃ k, N = k + 1 := ⟨N - 1, by omega⟩
    obtain ⟨N2, rfl⟩ : ∃ k, N2 = k + 1 := ⟨N2 - 1, by omega⟩
    have : j = 30 := by omega
    subst this
    refine ⟨Mc, Mm, h, by rw [fX7_ticksMany_h2, if_pos (by decide)], fun x1 x2 x3 x4 x5 => ?_⟩
    rw [fX6_basin_h111, if_pos (by decide), o_tho (h.pc s.1), bS, rm_cV r95]
    rfl
  | succ d ih =>
    intro j N N2 Mc Mm h hj hN hN2
    obtain ⟨N, rfl⟩ : ∃ k, N = k + 1 := ⟨N - 1, by omega⟩
    obtain ⟨N2, rfl⟩ : ∃ k, N2 = k + 1 := ⟨N2 - 1, by omega⟩
    obtain ⟨u, Mc1, Mm1, t1, t2, t3⟩ := th_tick s h
    obtain ⟨Mc2, Mm2, a1, a2, a3⟩ := ih (j + 1) N N2 Mc1 Mm1 t3 (by omega) (by omega) (by omega)
    refine ⟨Mc2, Mm2, a1, ?_, fun x1 x2 x3 x4 x5 => ?_⟩
    · rw [fX7_ticksMany_h2, if_neg (show ¬ (30 : Int32) ≤ nI j from nI_ge (b := 30) (by omega) (by decide)), m_cV, t2, bS, nI_1]
      exact a2
    · rw [fX6_basin_h111, if_neg (show ¬ (30 : Int32) ≤ nI j from nI_ge (b := 30) (by omega) (by decide)), o_tho (h.pc s.1), bS, rm_cV r95, t1, bS, nI_1]
      exact a3 x1 x2 x3 x4 x5
theorem i_20 : ∀ u, u < 6 → (20 : Int32) * nI u = nI (20 * u) := by decide +kernel
theorem i_d6 : ∀ u, u < 6 → ∀ v, v < 6 → nI (6 * u + v) / 6 = nI u ∧ nI (6 * u + v) % 6 = nI v := by decide +kernel
theorem basin_it (s : Sim Mc0 Mm0) (hi : Inv (Mm0.1 1) n) {nt : Nat} (e1 : EvM (Mm0.1 1) nt E) (e2 : EvC Mc0 82 E) {f g u v : Nat} {x w : Int32} (hf : f < n) (hg : g < n) (hu : u < 6) (hv : v < 6) (h : Rs Mc0 Mm0 Mc Mm) {k47 : Nat → Int32 → Int32 → Int32 → Int32 → Int32 → ctM → Option (Int32 × ctM)} {N N2 : Nat} : ∃ (c : Int32) (Mc2 Mm2 : ctM), Rs Mc0 Mm0 Mc2 Mm2 ∧ fX6_basin_h50 (N + 1) 0 x (nI f) (nI g) w (nI (6 * u + v)) Mc = fX6_basin_h50 N 0 x (nI f) (nI g) (w + c) (nI (6 * u + v + 1)) Mc2 ∧ fX7_basin_h57 k47 (N2 + 1) 0 x (nI f) (nI g) w (nI u) (nI v) Mm = fX7_basin_h57 k47 N2 0 x (nI f) (nI g) (w + c) (nI u) (nI (v + 1)) Mm2 := by
  have hn := hi.1
  have hf8 : f < 8 := by omega
  have hg8 : g < 8 := by omega
  have pc := h.pc s
  obtain ⟨Mc1, a1, t⟩ := rs_th s hi e1 e2 h
  have t1 := th_put (v := nI (20 * u)) t hf (show 4 < 7 by decide) ⟨by omega, by omega, by omega, by omega, fun _ => ⟨20 * u, by omega, by omega, rfl⟩, by omega⟩
  have t2 := th_put (v := nI (20 * v)) t1 hg (show 4 < 7 by decide) ⟨by omega, by omega, by omega, by omega, fun _ => ⟨20 * v, by omega, by omega, rfl⟩, by omega⟩
  obtain ⟨Mc3, Mm3, b1, b2, b3⟩ := many30 (k50 := fX6_basin_h50 N) s 30 0 4000 4000 _ _ t2 (by decide) (by decide) (by decide)
  rw [nI_0] at b2
  have ag := th_agree s b1 x
  obtain ⟨_, Mm4, c1, c2, c3⟩ := th_sn s b1
  obtain ⟨Mm5, d1, d2⟩ := th_rs s c3
  have q1 := t.pc s.1
  have q2 := t1.pc s.1
  have qm := h.pm s
  have qm1 : PM (ctI Mm 1 (14 + 7 * f + 4) (nI (20 * u))) := qm
  refine ⟨if 0 ≤ snS (Mm3.1 1) n ∧ snS (Mm3.1 1) n ≤ x then 1 else 0, Mc3, Mm5, d2, ?_, ?_⟩
  · have b3' := b3 x (nI f) (nI g) w (nI (6 * u + v))
    rw [nI_0] at b3'
    rw [fX6_basin_h50, if_neg (show ¬ (36 : Int32) ≤ nI (6 * u + v) from nI_ge (b := 36) (by omega) (by decide)), o_tho pc, bS, o_now pc, bS, rm_cV r95, a1, bS, o_tho q1, bS, rm_f1 q1 r95, bS, rm_fl q1 r95 hf8, bS, (i_d6 u hu v hv).1, (i_d6 u hu v hv).2, i_20 u hu, i_20 v hv, fl_p r95 hf8, bS, o_tho q2, bS, rm_f1 q2 r95, bS, rm_fl q2 r95 hg8, bS, fl_p r95 hg8, bS]
    rw [b3', ag, bS, nI_1]
    by_cases c : 0 ≤ snS (Mm3.1 1) n ∧ snS (Mm3.1 1) n ≤ x
    · simp only [if_pos c]
      rw [if_neg i_10]
    · simp only [if_neg c, if_true]
  · have mt : fX7_ticksMany 0 30 (ctI (ctI Mm 1 (14 + 7 * f + 4) (nI (20 * u))) 1 (14 + 7 * g + 4) (nI (20 * v))) = some Mm3 := b2
    rw [fX7_basin_h57, if_neg (show ¬ (6 : Int32) ≤ nI v from nI_ge (b := 6) (by omega) (by decide)), gM0 qm, bS, m_cV, m_flameAt, bS, i_20 u hu, show nI (14 + 7 * f) + 4 = nI (14 + 7 * f + 4) from nI_add _ 4, m_ss (by omega), bS, gM0 qm1, bS, m_cV, m_flameAt, bS, i_20 v hv, show nI (14 + 7 * g) + 4 = nI (14 + 7 * g + 4) from nI_add _ 4, m_ss (by omega), bS, m_cV, mt, bS, m_cV, c1, bS, m_isInL _ 0 x.toInt64 0 x (by decide) rfl, bS]
    unfold fX7_basin_b125
    rw [m_cV, d1, bS, nI_1, bS]
    by_cases c : 0 ≤ snS (Mm3.1 1) n ∧ snS (Mm3.1 1) n ≤ x
    · simp only [if_pos c]
      rw [if_neg i_10]
    · simp only [if_neg c, if_true]
end
