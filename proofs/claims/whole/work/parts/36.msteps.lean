/-! the model's steps -/
def FdM (M M' : ctM) : Prop := M'.2 = M.2 ∧ (∀ b, b ≠ 0 → b ≠ 13 → M'.1 b = M.1 b) ∧ ∀ k, k ≠ 14 → k ≠ 15 → M'.1 0 k = M.1 0 k
theorem FdM.rf {M : ctM} : FdM M M := ⟨rfl, fun _ _ _ => rfl, fun _ _ _ => rfl⟩
theorem FdM.pm {A B : ctM} (h : FdM A B) (p : PM A) : PM B := fun k hk => by rw [h.1]; exact p k hk
theorem FdM.s {A B : ctM} (h : FdM A B) : B.1 1 = A.1 1 := h.2.1 1 (by decide) (by decide)
theorem FdM.th {A B : ctM} (h : FdM A B) (k : Nat) (v : Int32) : FdM A (ctI B 13 k v) := ⟨h.1, fun b h1 h2 => (ctI_ne h2).trans (h.2.1 b h1 h2), fun k h1 h2 => by rw [ctI_ne (by decide)]; exact h.2.2 k h1 h2⟩
theorem FdM.f {A B : ctM} (h : FdM A B) {k : Nat} (hk : k = 14 ∨ k = 15) (v : Int32) : FdM A (ctI B 0 k v) := ⟨h.1, fun b h1 h2 => (ctI_ne h1).trans (h.2.1 b h1 h2), fun j h1 h2 => by rw [ctI_1, va_up_ne' (by omega)]; exact h.2.2 j h1 h2⟩
theorem FdM.tr {A B C : ctM} (h : FdM A B) (h2 : FdM B C) : FdM A C := ⟨h2.1.trans h.1, fun b x y => (h2.2.1 b x y).trans (h.2.1 b x y), fun k x y => (h2.2.2 k x y).trans (h.2.2 k x y)⟩
section
variable {M : ctM} {n : Nat}
theorem m_th {k : Nat} (hk : k < 120) : aI kdM lnM 10 13 (nI k) M = some (M.1 13 k) := aI_at (n := 120) rfl rfl hk (by decide)
theorem m_ths {k : Nat} {v : Int32} (hk : k < 120) : sI kdM lnM 10 13 (nI k) v M = some (ctI M 13 k v) := sI_at (n := 120) rfl rfl hk (by decide)
theorem m_g14 : gI kdM 7 14 0 M = some (M.1 0 14) := gI_at rfl
theorem m_g15 : gI kdM 7 15 0 M = some (M.1 0 15) := gI_at rfl
theorem m_p0 {k : Nat} {v : Int32} : pI kdM 7 k 0 v M = some (ctI M 0 k v) := pI_at rfl
theorem m_g0 {k : Nat} : gI kdM 7 k 0 M = some (M.1 0 k) := gI_at rfl
set_option maxRecDepth 100000 in
theorem i_mod120 : ∀ a, a < 300 → nI a % 120 = nI (a % 120) := by decide +kernel
/-- the inner walk -/
theorem m_fd97f {P : Nat → Bool} {w k : Nat} {x2 : Int32} {k75 : Nat → Int32 → Int32 → Int32 → ctM → Option (Int32 × ctM)} {M1 : ctM} (p : PM M1) (hw : w < 1000) (hk : k < 120) (hP : ∀ k, k < 120 → M1.1 13 k = if P k = true then 1 else 0) {G A : Nat} (hG : G ≤ 120) (hA : A ≤ 120) (h14 : M1.1 0 14 = nI G) (h15 : M1.1 0 15 = nI A) (s : Nat) (hs : IsG P k s) (hp : P ((k + s) % 120) = true) (N : Nat) : fX7_findSteps_h97 k75 (N + 1) 0 (nI w) x2 (nI k) (nI s) M1 = k75 0 (nI w) x2 (nI (k + 1)) (ctI (ctI M1 0 14 (nI (max G s))) 0 15 (nI (if w < s then A + 1 else A))) := by
  have s120 := hs.2.1
  rw [fX7_findSteps_h97, gM13 p]
  simp only [Option.bind_some]
  rw [nI_add, i_mod120 _ (by omega), m_th (by omega), hP _ (by omega)]
  have e0 : (if P ((k + s) % 120) = true then (1 : Int32) else 0) = 1 := if_pos hp
  rw [e0, Option.bind_some, if_neg (by decide), m_g14, h14]
  simp only [Option.bind_some]
  have key : ∀ v : Int32, v = nI (max G s) → fX7_findSteps_b137 k75 0 (nI w) x2 (nI k) (nI s) 0 v M1 = k75 0 (nI w) x2 (nI (k + 1)) (ctI (ctI M1 0 14 (nI (max G s))) 0 15 (nI (if w < s then A + 1 else A))) := by
    intro v hv
    subst hv
    unfold fX7_findSteps_b137
    rw [m_p0]
    simp only [Option.bind_some]
    rw [m_g15, ctI_1, va_up_ne' (by decide), h15]
    simp only [Option.bind_some]
    have k2 : ∀ a : Int32, nI A + a = nI (if w < s then A + 1 else A) → fX7_findSteps_b156 k75 0 (nI w) x2 (nI k) 0 (nI A) a (ctI M1 0 14 (nI (max G s))) = k75 0 (nI w) x2 (nI (k + 1)) (ctI (ctI M1 0 14 (nI (max G s))) 0 15 (nI (if w < s then A + 1 else A))) := by
      intro a ha
      unfold fX7_findSteps_b156 fX7_findSteps_b160
      rw [m_p0, ha]
      simp only [Option.bind_some]
      rw [nI_1]
    by_cases hc : w < s
    · rw [if_neg (nI_ge hc (by omega))]
      exact k2 1 (by rw [if_pos hc, nI_1])
    · rw [if_pos (nI_le (by omega) (by omega))]
      exact k2 0 (by rw [if_neg hc, Int32.add_zero])
  by_cases hc : s ≤ G
  · rw [if_pos (nI_le hc (by omega))]
    exact key _ (by rw [Nat.max_eq_left hc])
  · rw [if_neg (nI_ge (by omega) (by omega))]
    exact key _ (by rw [Nat.max_eq_right (by omega)])
theorem m_fd97 {K : Kv} {P : Nat → Bool} {w k : Nat} {x2 : Int32} {k75 : Nat → Int32 → Int32 → Int32 → ctM → Option (Int32 × ctM)} {M1 : ctM} (p : PM M1) (hw : w < 1000) (hk : k < 120) (hP : ∀ k, k < 120 → M1.1 13 k = if P k = true then 1 else 0) (hpk : P k = true) {G A : Nat} (hG : G ≤ 120) (hA : A ≤ 120) (h14 : M1.1 0 14 = nI G) (h15 : M1.1 0 15 = nI A) :
    ∀ (m s N : Nat), m + s = 120 → m < N → 1 ≤ s → (∀ u, 1 ≤ u → u < s → P ((k + u) % 120) = false) →
      fX7_findSteps_h97 k75 N 0 (nI w) x2 (nI k) (nI s) M1 = k75 0 (nI w) x2 (nI (k + 1)) (ctI (ctI M1 0 14 (nI (max G (gpS P k)))) 0 15 (nI (if w < gpS P k then A + 1 else A))) := by
  have fin : ∀ s, IsG P k s → P ((k + s) % 120) = true → ∀ N, fX7_findSteps_h97 k75 (N + 1) 0 (nI w) x2 (nI k) (nI s) M1 = k75 0 (nI w) x2 (nI (k + 1)) (ctI (ctI M1 0 14 (nI (max G (gpS P k)))) 0 15 (nI (if w < gpS P k then A + 1 else A))) := by
    intro s hs hp N
    have e : gpS P k = s := (gpS_is P k).uniq hs
    rw [e]
    exact m_fd97f p hw hk hP hG hA h14 h15 s hs hp N
  intro m
  induction m with
  | zero =>
    intro s N h1 h2 h3 h4
    obtain ⟨N, rfl⟩ : ∃ k, N = k + 1 := ⟨N - 1, by omega⟩
    have : s = 120 := by omega
    subst this
    have e : (k + 120) % 120 = k := by omega
    exact fin 120 ⟨by decide, by decide, Or.inl rfl, h4⟩ (by rw [e]; exact hpk) N
  | succ m ih =>
    intro s N h1 h2 h3 h4
    obtain ⟨N, rfl⟩ : ∃ k, N = k + 1 := ⟨N - 1, by omega⟩
    by_cases hp : P ((k + s) % 120) = true
    · exact fin s ⟨h3, by omega, Or.inr hp, h4⟩ hp N
    · rw [fX7_findSteps_h97, gM13 p]
      simp only [Option.bind_some]
      rw [nI_add, i_mod120 _ (by omega), m_th (by omega), hP _ (by omega)]
      have e0 : (if P ((k + s) % 120) = true then (1 : Int32) else 0) = 0 := if_neg hp
      rw [e0]
      simp only [Option.bind_some, if_true]
      rw [nI_1]
      exact ih (s + 1) N (by omega) (by omega) (by omega) (fun u u1 u2 => by
        rcases Nat.lt_or_ge u s with q | q
        · exact h4 u u1 q
        · have : u = s := by omega
          subst this
          simpa using hp)
theorem m_fd75 {P : Nat → Bool} {w : Nat} (p : PM M) (hw : w < 1000) : ∀ (m k N : Nat) (M1 : ctM), m + k = 120 → m < N → FdM M M1 → (∀ k, k < 120 → M1.1 13 k = if P k = true then 1 else 0) → M1.1 0 14 = nI (grS P k) → M1.1 0 15 = nI (abS P w k) →
    ∃ M2, fX7_findSteps_h75 N 0 (nI w) 1 (nI k) M1 = some (1, M2) ∧ FdM M M2 ∧ M2.1 0 14 = nI (grS P 120) ∧ M2.1 0 15 = nI (abS P w 120) := by
  intro m
  induction m with
  | zero =>
    intro k N M1 h1 h2 h3 h4 h5 h6
    obtain ⟨N, rfl⟩ : ∃ k, N = k + 1 := ⟨N - 1, by omega⟩
    have : k = 120 := by omega
    subst this
    rw [fX7_findSteps_h75, if_pos (by decide), if_pos (by decide)]
    exact ⟨M1, rfl, h3, h5, h6⟩
  | succ m ih =>
    intro k N M1 h1 h2 h3 h4 h5 h6
    obtain ⟨N, rfl⟩ : ∃ k, N = k + 1 := ⟨N - 1, by omega⟩
    rw [fX7_findSteps_h75, show (120 : Int32) = nI 120 from rfl, if_neg (nI_ge (show k < 120 by omega) (by decide)), if_neg (by decide), gM13 (h3.pm p)]
    simp only [Option.bind_some]
    rw [m_th (by omega), h4 k (by omega)]
    simp only [Option.bind_some]
    by_cases hp : P k = true
    · simp only [if_pos hp]
      rw [if_neg (by decide)]
      have := m_fd97 (P := P) (w := w) (x2 := 1) (k75 := fX7_findSteps_h75 N) (K := M.1 1) (h3.pm p) hw (show k < 120 by omega) h4 hp (grS_le P k) (by have := abS_le P w k; omega) h5 h6 119 1 4000 (by decide) (by decide) (by decide) (fun u a b => by omega)
      rw [show nI 1 = (1 : Int32) from rfl] at this
      rw [this]
      refine ih (k + 1) N _ (by omega) (by omega) ((h3.f (Or.inl rfl) _).f (Or.inr rfl) _) (fun j hj => ?_) ?_ ?_
      · rw [ctI_ne (by decide), ctI_ne (by decide)]; exact h4 j hj
      · rw [ctI_1, va_up_ne' (by decide), ctI_1, va_up_eq']
        simp only [grS, if_pos hp]
      · rw [ctI_1, va_up_eq']
        simp only [abS, hp, true_and]
    · simp only [if_neg hp, if_true]
      unfold fX7_findSteps_b160
      rw [nI_1]
      refine ih (k + 1) N M1 (by omega) (by omega) h3 h4 ?_ ?_
      · simp only [grS, if_neg hp]; exact h5
      · simp only [abS, hp, Bool.false_eq_true, false_and, if_false]; exact h6
theorem m_fd0 {N : Nat} (hN : 0 < N) {x1 : Int32} : fX7_findSteps_h75 N 0 x1 0 0 M = some (0, M) := by
  obtain ⟨N, rfl⟩ : ∃ k, N = k + 1 := ⟨N - 1, by omega⟩
  rw [fX7_findSteps_h75, if_neg (by decide), if_pos rfl, if_pos (by decide)]
theorem m_fd25 {w : Nat} (p : PM M) (hi : Inv (M.1 1) n) (hw : w < 1000) : ∀ (m j N : Nat) (M1 : ctM), m + j = n → m < N → FdM M M1 → (∀ k, k < 120 → M1.1 13 k = if thS (M.1 1) k j = true then 1 else 0) →
    ∃ M2, fX7_findSteps_h25 N 0 (nI w) (if anS (M.1 1) j = true then 1 else 0) (nI j) M1 = some (if anS (M.1 1) n = true then 1 else 0, M2) ∧ FdM M M2 ∧ (anS (M.1 1) n = true → M2.1 0 14 = nI (grS (phS (M.1 1) n) 120) ∧ M2.1 0 15 = nI (abS (phS (M.1 1) n) w 120)) := by
  have hn := hi.1
  intro m
  induction m with
  | zero =>
    intro j N M1 h1 h2 h3 h4
    obtain ⟨N, rfl⟩ : ∃ k, N = k + 1 := ⟨N - 1, by omega⟩
    have : j = n := by omega
    subst this
    rw [fX7_findSteps_h25, gM0 (h3.pm p), Option.bind_some, m_s0, h3.s, hi.2.1, Option.bind_some]
    rw [if_pos (nI_le (Nat.le_refl _) (by omega)), m_p0, Option.bind_some, m_p0, Option.bind_some]
    have h3' := (h3.f (k := 14) (Or.inl rfl) 0).f (k := 15) (Or.inr rfl) 0
    by_cases ha : anS (M.1 1) j = true
    · obtain ⟨M2, w1, w2, w3, w4⟩ := m_fd75 (P := phS (M.1 1) j) (w := w) p hw 120 0 4000 _ (by decide) (by decide) h3' (fun k hk => by
        rw [ctI_ne (by decide), ctI_ne (by decide)]; exact h4 k hk) (by
        rw [ctI_1, va_up_ne' (by decide), ctI_1, va_up_eq', grS, nI_0]) (by
        rw [ctI_1, va_up_eq', abS, nI_0])
      rw [nI_0] at w1
      refine ⟨M2, ?_, w2, fun _ => ⟨w3, w4⟩⟩
      rw [if_pos ha]
      exact w1
    · refine ⟨ctI (ctI M1 0 14 0) 0 15 0, ?_, h3', fun h => absurd h ha⟩
      rw [if_neg ha]
      exact m_fd0 (by decide)
  | succ m ih =>
    intro j N M1 h1 h2 h3 h4
    obtain ⟨N, rfl⟩ : ∃ k, N = k + 1 := ⟨N - 1, by omega⟩
    have q := h3.pm p
    have hj8 : j < 8 := by omega
    rw [fX7_findSteps_h25, gM0 q]
    simp only [Option.bind_some]
    rw [m_s0, h3.s, hi.2.1]
    simp only [Option.bind_some]
    rw [if_neg (nI_ge (show j < n by omega) (by omega)), m_cV, m_isLit q j hj8, h3.s]
    simp only [Option.bind_some]
    by_cases hl : fl (M.1 1) j 5 ≤ 0
    · simp only [if_pos hl, if_true]
      unfold fX7_findSteps_b57
      rw [nI_1]
      have e1 : anS (M.1 1) (j + 1) = anS (M.1 1) j := by simp [anS, litS, hl]
      have e2 : ∀ k, thS (M.1 1) k (j + 1) = thS (M.1 1) k j := by intro k; simp [thS, litS, hl]
      have := ih (j + 1) N M1 (by omega) (by omega) h3 (fun k hk => by rw [e2]; exact h4 k hk)
      rw [e1] at this
      exact this
    · simp only [if_neg hl]
      rw [if_neg (by decide), gM13 q]
      simp only [Option.bind_some]
      rw [m_cV, m_of4 q hj8, h3.s]
      simp only [Option.bind_some]
      obtain ⟨a, _, ha, hb⟩ := (hi.2.2.1 j (by omega)).2.2.2.2.1
      rw [hb, m_ths ha]
      simp only [Option.bind_some]
      unfold fX7_findSteps_b57
      rw [nI_1]
      have e1 : anS (M.1 1) (j + 1) = true := by simp [anS, litS, hl]
      have := ih (j + 1) N _ (by omega) (by omega) (h3.th a 1) (fun k hk => by
        rw [ctI_1]
        have e2 : thS (M.1 1) k (j + 1) = (thS (M.1 1) k j || decide (a = k)) := by
          simp only [thS, litS, hb, nI_eq (show a < 2 ^ 31 by omega) (show k < 2 ^ 31 by omega)]
          simp [hl]
        rw [e2]
        by_cases hk2 : k = a
        · subst hk2
          rw [va_up_eq']
          simp
        · rw [va_up_ne' hk2, h4 k hk]
          have : decide (a = k) = false := by simp; exact fun h => hk2 h.symm
          rw [this, Bool.or_false])
      rw [e1] at this
      simp only [if_true] at this
      exact this
theorem m_findSteps {w : Nat} (p : PM M) (hi : Inv (M.1 1) n) (hw : w < 1000) : ∃ M2, fX7_findSteps 0 (nI w) M = some (if anS (M.1 1) n = true then 1 else 0, M2) ∧ FdM M M2 ∧ (anS (M.1 1) n = true → M2.1 0 14 = nI (grS (phS (M.1 1) n) 120) ∧ M2.1 0 15 = nI (abS (phS (M.1 1) n) w 120)) := by
  have key : ∀ (m j N : Nat) (M1 : ctM), m + j = 120 → m < N → FdM M M1 → (∀ k, k < j → M1.1 13 k = 0) → ∃ M2, fX7_findSteps_h2 N 0 (nI w) (nI j) M1 = some (if anS (M.1 1) n = true then 1 else 0, M2) ∧ FdM M M2 ∧ (anS (M.1 1) n = true → M2.1 0 14 = nI (grS (phS (M.1 1) n) 120) ∧ M2.1 0 15 = nI (abS (phS (M.1 1) n) w 120)) := by
    intro m
    induction m with
    | zero =>
      intro j N M1 h1 h2 h3 h4
      obtain ⟨N, rfl⟩ : ∃ k, N = k + 1 := ⟨N - 1, by omega⟩
      have : j = 120 := by omega
      subst this
      rw [fX7_findSteps_h2, if_pos (by decide)]
      have := m_fd25 p hi hw n 0 4000 M1 (by omega) (by have := hi.1; omega) h3 (fun k hk => by rw [h4 k hk]; rfl)
      rw [nI_0, show (if anS (M.1 1) 0 = true then (1 : Int32) else 0) = 0 from rfl] at this
      exact this
    | succ m ih =>
      intro j N M1 h1 h2 h3 h4
      obtain ⟨N, rfl⟩ : ∃ k, N = k + 1 := ⟨N - 1, by omega⟩
      rw [fX7_findSteps_h2, show (120 : Int32) = nI 120 from rfl, if_neg (nI_ge (show j < 120 by omega) (by decide)), gM13 (h3.pm p)]
      simp only [Option.bind_some]
      rw [m_ths (by omega)]
      simp only [Option.bind_some]
      rw [nI_1]
      exact ih (j + 1) N _ (by omega) (by omega) (h3.th j 0) (fun k hk => by
        rw [ctI_1]
        by_cases h : k = j
        · subst h; rw [va_up_eq']
        · rw [va_up_ne' h]; exact h4 k (by omega))
  exact key 120 0 4000 M (by decide) (by decide) FdM.rf (fun k h => by omega)
theorem i_120 : ∀ g, g ≤ 120 → (120 : Int32) - nI g = nI (120 - g) := by decide +kernel
theorem m_spreadNow (p : PM M) (hi : Inv (M.1 1) n) : ∃ M2, fX7_spreadNow 0 M = some (if anS (M.1 1) n = true then nI (120 - grS (phS (M.1 1) n) 120) else -1, M2) ∧ FdM M M2 := by
  obtain ⟨M2, w1, w2, w3⟩ := m_findSteps (w := 0) p hi (by decide)
  unfold fX7_spreadNow
  rw [show nI 0 = (0 : Int32) from rfl] at w1
  rw [m_cV, w1]
  simp only [Option.bind_some]
  by_cases ha : anS (M.1 1) n = true
  · simp only [if_pos ha]
    rw [if_neg (by decide), m_g14, (w3 ha).1]
    simp only [Option.bind_some]
    rw [i_120 _ (grS_le _ _)]
    exact ⟨M2, rfl, w2⟩
  · simp only [if_neg ha, if_true]
    exact ⟨M2, rfl, w2⟩
theorem m_spread (p : PM M) (hi : Inv (M.1 1) n) : ∃ M2, fX7_spread 0 M = some (spS (M.1 1) n, M2) ∧ FdM M M2 := by
  obtain ⟨M2, w1, w2⟩ := m_spreadNow p hi
  unfold fX7_spread
  rw [m_cV, w1]
  simp only [Option.bind_some]
  refine ⟨M2, ?_, w2⟩
  unfold fX7_orNone spS
  by_cases ha : anS (M.1 1) n = true
  · simp only [if_pos ha]
    rw [if_pos (nI_pos' (by omega))]
    rfl
  · simp only [if_neg ha]
    rfl
theorem m_groups {w : Nat} (p : PM M) (hi : Inv (M.1 1) n) (hw : w < 120) : ∃ M2, fX7_groups 0 (nI w) M = some (gpsS (M.1 1) n w, M2) ∧ FdM M M2 := by
  obtain ⟨M2, w1, w2, w3⟩ := m_findSteps (w := w) p hi (by omega)
  unfold fX7_groups
  rw [m_isInL _ 0 119 0 119 (by decide) (by decide)]
  simp only [Option.bind_some]
  have hb : (0 : Int32) ≤ nI w ∧ nI w ≤ 119 := ⟨nI_pos' (by omega), nI_le (b := 119) (by omega) (by decide)⟩
  simp only [if_pos hb]
  rw [if_neg (by decide), m_cV, w1]
  simp only [Option.bind_some]
  refine ⟨M2, ?_, w2⟩
  unfold gpsS
  by_cases ha : anS (M.1 1) n = true
  · simp only [if_pos ha]
    rw [if_neg (by decide), m_g15, (w3 ha).2]
    simp only [Option.bind_some]
    have hab := abS_le (phS (M.1 1) n) w 120
    by_cases h0 : abS (phS (M.1 1) n) w 120 = 0
    · simp only [h0, nI_0, if_true]
    · rw [if_neg (nI_ne0 (by omega) (by omega)), if_neg h0]
  · simp only [if_neg ha, if_true]
end
