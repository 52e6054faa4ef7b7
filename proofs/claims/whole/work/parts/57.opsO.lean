section
variable {M Mc Mm Mc0 Mm0 : ctM} {n : Nat} {E : Ev}
/-- the first that is lit from j on, d of them to go -/
def lfS (K : Kv) : Nat → Nat → Nat
  | 0, j => j
  | d + 1, j => if fl K j 5 ≤ 0 then lfS K d (j + 1) else j
theorem lfS_in (K : Kv) : ∀ d j, j ≤ lfS K d j ∧ lfS K d j ≤ j + d := by
  intro d
  induction d with
  | zero => intro j; exact ⟨Nat.le_refl _, Nat.le_refl _⟩
  | succ d ih =>
    intro j
    simp only [lfS]
    split
    · have := ih (j + 1); omega
    · omega
theorem lfS_ag {A B : Kv} (h : Ag A B) : ∀ d j, j + d ≤ 8 → lfS A d j = lfS B d j := by
  intro d
  induction d with
  | zero => intro j _; rfl
  | succ d ih => intro j hj; simp only [lfS, ih (j + 1) (by omega), h.fl (show j < 8 by omega) (show 5 < 7 by decide)]
theorem c_litFrom {r : Nat} (pc : PC M) (hr : isRm r) (hn : n ≤ 8) (h0 : rK M r 0 = nI n) {j : Nat} (hj : j ≤ n) : fX2_litFrom r (nI j) M = some (nI (lfS (rK M r) (n - j) j), M) := by
  have key : ∀ (d j N : Nat), j + d = n → d < N → fX2_litFrom_h6 N r (nI j) M = some (nI (lfS (rK M r) d j), M) := by
    intro d
    induction d with
    | zero =>
      intro j N hj hN
      obtain ⟨N, rfl⟩ : ∃ k, N = k + 1 := ⟨N - 1, by omega⟩
      have : j = n := by omega
      subst this
      rw [fX2_litFrom_h6, rm_i5 hr, h0, bS, if_pos (nI_le (Nat.le_refl _) (by omega)), bS, lfS]
    | succ d ih =>
      intro j N hj hN
      obtain ⟨N, rfl⟩ : ∃ k, N = k + 1 := ⟨N - 1, by omega⟩
      have hj8 : j < 8 := by omega
      rw [fX2_litFrom_h6, rm_i5 hr, h0, bS, if_neg (nI_ge (show j < n by omega) (by omega)), rm_f1 pc hr, bS, rm_fl pc hr hj8, bS, fl_cV hr hj8, c_isLit hr hj8, bS]
      by_cases hl : fl (rK M r) j 5 ≤ 0
      · simp only [if_pos hl, if_true, lfS]
        rw [nI_1]
        exact ih (j + 1) N (by omega) (by omega)
      · simp only [if_neg hl, lfS]
        rw [if_neg (by decide)]
  unfold fX2_litFrom
  have e : (if 0 < nI j then nI j else 0) = nI j := by
    rcases Nat.eq_zero_or_pos j with z | z
    · subst z; rfl
    · rw [if_pos (nI_lt (a := 0) z (by omega))]
  rw [e]
  exact key (n - j) j 4000 (by omega) (by omega)
theorem c_litEnd {r : Nat} (hr : isRm r) (hn : n ≤ 8) (h0 : rK M r 0 = nI n) {N : Nat} (hN : 0 < N) : fX2_litFrom_h6 N r (nI (n + 1)) M = some (nI n, M) := by
  obtain ⟨N, rfl⟩ : ∃ k, N = k + 1 := ⟨N - 1, by omega⟩
  rw [fX2_litFrom_h6, rm_i5 hr, h0, bS, if_pos (nI_le (by omega) (by omega)), bS]
theorem m_litBehind (pm : PM M) (hn : n ≤ 8) (h0 : M.1 1 0 = nI n) : ∀ (d j N : Nat), j + d = n → d < N → fX7_litBehind_h2 N 0 (nI j) M = some (nI (lfS (M.1 1) d j), M) := by
  intro d
  induction d with
  | zero =>
    intro j N hj hN
    obtain ⟨N, rfl⟩ : ∃ k, N = k + 1 := ⟨N - 1, by omega⟩
    have : j = n := by omega
    subst this
    rw [fX7_litBehind_h2, gM0 pm, bS, m_s0, h0, bS, if_pos (nI_le (Nat.le_refl _) (by omega)), lfS]
  | succ d ih =>
    intro j N hj hN
    obtain ⟨N, rfl⟩ : ∃ k, N = k + 1 := ⟨N - 1, by omega⟩
    have hj8 : j < 8 := by omega
    rw [fX7_litBehind_h2, gM0 pm, bS, m_s0, h0, bS, if_neg (nI_ge (show j < n by omega) (by omega)), m_cV, m_isLit pm j hj8, bS]
    by_cases hl : fl (M.1 1) j 5 ≤ 0
    · simp only [if_pos hl, if_true, lfS]
      rw [nI_1]
      exact ih (j + 1) N (by omega) (by omega)
    · simp only [if_neg hl, lfS]
      rw [if_neg (by decide)]
theorem m_litEnd (pm : PM M) (hn : n ≤ 8) (h0 : M.1 1 0 = nI n) {N : Nat} (hN : 0 < N) : fX7_litBehind_h2 N 0 (nI (n + 1)) M = some (nI (n + 1), M) := by
  obtain ⟨N, rfl⟩ : ∃ k, N = k + 1 := ⟨N - 1, by omega⟩
  rw [fX7_litBehind_h2, gM0 pm, bS, m_s0, h0, bS, if_pos (nI_le (by omega) (by omega))]
/-- thirty ticks -/
theorem many30 (s : Sim Mc0 Mm0) {k50 : Nat → Int32 → Int32 → Int32 → Int32 → Int32 → ctM → Option (Int32 × ctM)} : ∀ (d j N N2 : Nat) (Mc Mm : ctM), Th Mc0 Mm0 n E Mc Mm → j + d = 30 → d < N → d < N2 → ∃ Mc2 Mm2, Th Mc0 Mm0 n E Mc2 Mm2 ∧ fX7_ticksMany_h2 N 0 30 (nI j) Mm = some Mm2 ∧ ∀ x1 x2 x3 x4 x5, fX6_basin_h111 k50 N2 0 x1 x2 x3 x4 x5 (nI j) Mc = ((fX2_agrees 95 x1 Mc2).bind fun r => if r.1 = 0 then k50 0 x1 x2 x3 (x4 + 0) (x5 + 1) r.2 else k50 0 x1 x2 x3 (x4 + 1) (x5 + 1) r.2) := by
  intro d
  induction d with
  | zero =>
    intro j N N2 Mc Mm h hj hN hN2
    obtain ⟨N, rfl⟩ : ∃ k, N = k + 1 := ⟨N - 1, by omega⟩
    obtain ⟨N2, rfl⟩ : ∃ k, N2 = k + 1 := ⟨N2 - 1, by omega⟩
    have : j = 30 := by omega
    subst this
    refine ⟨Mc, Mm, h, by rw [fX7_ticksMany_h2, if_pos (by decide)], fun x1 x2 x3 x4 x5 => ?_⟩
    rw [fX6_basin_h111, if_pos (by decide), o_tho (h.pc s.1), bS, rm_cV r95]
    rfl
  | succ d ih =>
    intro j N N2 Mc Mm h hj hN hN2
    obtain ⟨N, rfl⟩ : ∃ k, N = k + 1 := ⟨N - 1, by omega⟩
    obtain ⟨N2, rfl⟩ : ∃ k, N2 = k + 1 := ⟨N2 - 1, by omega⟩
    obtain ⟨u, Mc1, Mm1, t1, t2, t3⟩ := th_tick s h
    obtain ⟨Mc2, Mm2, a1, a2, a3⟩ := ih (j + 1) N N2 Mc1 Mm1 t3 (by omega) (by omega) (by omega)
    refine ⟨Mc2, Mm2, a1, ?_, fun x1 x2 x3 x4 x5 => ?_⟩
    · rw [fX7_ticksMany_h2, if_neg (show ¬ (30 : Int32) ≤ nI j from nI_ge (b := 30) (by omega) (by decide)), m_cV, t2, bS, nI_1]
      exact a2
    · rw [fX6_basin_h111, if_neg (show ¬ (30 : Int32) ≤ nI j from nI_ge (b := 30) (by omega) (by decide)), o_tho (h.pc s.1), bS, rm_cV r95, t1, bS, nI_1]
      exact a3 x1 x2 x3 x4 x5
end
