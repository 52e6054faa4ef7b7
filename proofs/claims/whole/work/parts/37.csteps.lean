/-! the class's steps -/
def lmS (K : Kv) : Nat → Nat
  | 0 => 0
  | j + 1 => lmS K j + (if fl K j 5 ≤ 0 then 0 else 1)
theorem lmS_le {K : Kv} : ∀ n, lmS K n ≤ n := by
  intro n
  induction n with
  | zero => exact Nat.le_refl _
  | succ j ih => simp only [lmS]; split <;> omega
theorem lmS_an {K : Kv} : ∀ n, anS K n = true ↔ 1 ≤ lmS K n := by
  intro n
  induction n with
  | zero => simp [anS, lmS]
  | succ j ih =>
    by_cases h : fl K j 5 ≤ 0
    · simp [anS, lmS, litS, h, ih]
    · simp [anS, lmS, litS, h]
theorem lmS_ag {A B : Kv} (h : Ag A B) : ∀ j, j ≤ 8 → lmS A j = lmS B j := by
  intro j
  induction j with
  | zero => intro _; rfl
  | succ j ih => intro hj; simp only [lmS, ih (by omega), h.fl (show j < 8 by omega) (show 5 < 7 by decide)]
def cbS (Q : Nat → Bool) : Nat → Nat
  | 0 => 0
  | k + 1 => if Q k = true then cbS Q k + 1 else cbS Q k
theorem cbS_congr {Q R : Nat → Bool} : ∀ N, (∀ k, k < N → Q k = R k) → cbS Q N = cbS R N := by
  intro N
  induction N with
  | zero => intro _; rfl
  | succ N ih => intro h; simp only [cbS, h N (by omega), ih (fun k hk => h k (by omega))]
theorem cbS_add {Q R : Nat → Bool} {q : Nat} (h0 : Q q = false) (h1 : R q = true) (h : ∀ k, k ≠ q → R k = Q k) : ∀ N, q < N → cbS R N = cbS Q N + 1 := by
  intro N
  induction N with
  | zero => intro h; omega
  | succ N ih =>
    intro hq
    simp only [cbS]
    by_cases e : N = q
    · subst e
      rw [cbS_congr N (fun k hk => h k (by omega))]
      simp [h0, h1]
    · rw [h N e, ih (by omega)]
      split <;> rfl
theorem cbS_ab (P : Nat → Bool) (w : Nat) : ∀ N, abS P w N = cbS (fun k => P k && decide (w < gpS P k)) N := by
  intro N
  induction N with
  | zero => rfl
  | succ N ih =>
    simp only [abS, cbS, ih, Bool.and_eq_true, decide_eq_true_eq]
set_option maxRecDepth 100000 in
theorem i_step : ∀ k, k < 120 → ∀ q, q < 120 → (if 0 ≤ nI q - nI k then nI q - nI k else nI q - nI k + 120) = nI ((q + 120 - k) % 120) := by decide +kernel
section
variable {M : ctM} {r n f : Nat}
theorem c_sf49 {k5 : Nat → Int32 → Int32 → Int32 → ctM → Option (Int32 × ctM)} {x1 : Int32} {L j d : Nat} (h : PC M) (hr : isRm r) (hj : j < 8) (hL : L ≤ 120) (hd : d < 120) : fX2_stepFrom_b49 k5 r x1 (nI L) (nI j) (nI d) M = k5 r x1 (nI (if ¬ fl (rK M r) j 5 ≤ 0 ∧ 0 < d ∧ d < L then d else L)) (nI (j + 1)) M := by
  unfold fX2_stepFrom_b49 fX2_stepFrom_b77
  rw [rm_f1 h hr, Option.bind_some, rm_fl h hr hj, Option.bind_some, fl_cV hr hj, c_isLit hr hj, Option.bind_some, nI_1]
  by_cases hl : fl (rK M r) j 5 ≤ 0
  · simp only [if_pos hl, if_true]
    rw [if_neg (fun z => z.1 hl)]
  · simp only [if_neg hl]
    rw [if_neg (by decide)]
    by_cases h0 : 0 < d
    · rw [if_neg (nI_nle h0 (by omega))]
      by_cases hc : d < L
      · rw [if_neg (nI_ge hc (by omega)), if_pos ⟨hl, h0, hc⟩]
      · rw [if_pos (nI_le (by omega) (by omega)), if_neg (fun z => hc z.2.2)]
    · have : d = 0 := by omega
      subst this
      rw [if_pos (by decide), if_neg (fun z => by omega)]
theorem c_stepFrom {k : Nat} (h : PC M) (hr : isRm r) (hi : Inv (rK M r) n) (hf : f < n) (hk : k < 120) (hfk : fl (rK M r) f 4 = nI k) : fX2_stepFrom r (nI f) M = some (nI (gpS (phS (rK M r) n) k), M) := by
  have hn := hi.1
  have key : ∀ (m j L N : Nat), m + j = n → m < N → 1 ≤ L → L ≤ 120 → (L = 120 ∨ ∃ g, g < j ∧ ¬ fl (rK M r) g 5 ≤ 0 ∧ fl (rK M r) g 4 = nI ((k + L) % 120)) → (∀ g, g < j → ¬ fl (rK M r) g 5 ≤ 0 → ∀ u, 1 ≤ u → u < L → fl (rK M r) g 4 ≠ nI ((k + u) % 120)) → ∃ L', fX2_stepFrom_h5 N r (nI f) (nI L) (nI j) M = some (nI L', M) ∧ IsG (phS (rK M r) n) k L' := by
    intro m
    induction m with
    | zero =>
      intro j L N h1 h2 h3 h4 h5 h6
      obtain ⟨N, rfl⟩ : ∃ k, N = k + 1 := ⟨N - 1, by omega⟩
      have : j = n := by omega
      subst this
      refine ⟨L, ?_, h3, h4, ?_, fun u u1 u2 => ?_⟩
      · rw [fX2_stepFrom_h5, rm_i5 hr, hi.2.1, Option.bind_some, if_pos (nI_le (Nat.le_refl _) (by omega))]
      · rcases h5 with e | e
        · exact Or.inl e
        · exact Or.inr ((thS_iff j).mpr e)
      · apply Bool.eq_false_iff.mpr
        intro hh
        obtain ⟨g, g1, g2, g3⟩ := (thS_iff j).mp hh
        exact h6 g g1 g2 u u1 u2 g3
    | succ m ih =>
      intro j L N h1 h2 h3 h4 h5 h6
      obtain ⟨N, rfl⟩ : ∃ k, N = k + 1 := ⟨N - 1, by omega⟩
      have hj8 : j < 8 := by omega
      obtain ⟨q, _, hq, hb⟩ := (hi.2.2.1 j (by omega)).2.2.2.2.1
      obtain ⟨d, hd⟩ : ∃ d, d = (q + 120 - k) % 120 := ⟨_, rfl⟩
      have hd2 : d < 120 := by omega
      have step : fX2_stepFrom_h5 (N + 1) r (nI f) (nI L) (nI j) M = fX2_stepFrom_h5 N r (nI f) (nI (if ¬ fl (rK M r) j 5 ≤ 0 ∧ 0 < d ∧ d < L then d else L)) (nI (j + 1)) M := by
        rw [fX2_stepFrom_h5, rm_i5 hr, hi.2.1, Option.bind_some, if_neg (nI_ge (show j < n by omega) (by omega)), rm_f1 h hr, Option.bind_some, rm_fl h hr hj8, Option.bind_some, fl_g hr hj8 (by decide), Option.bind_some, Option.bind_some, rm_fl h hr (show f < 8 by omega), Option.bind_some, fl_g hr (show f < 8 by omega) (by decide), Option.bind_some, hb, hfk]
        have e := i_step k hk q hq
        rw [← hd] at e
        by_cases hc : 0 ≤ nI q - nI k
        · rw [if_pos hc] at e ⊢
          rw [e]
          exact c_sf49 h hr hj8 h4 hd2
        · rw [if_neg hc] at e ⊢
          rw [e]
          exact c_sf49 h hr hj8 h4 hd2
      rw [step]
      have hne : ∀ u, 1 ≤ u → u < 120 → (nI q = nI ((k + u) % 120) ↔ u = d) := by
        intro u u1 u2
        rw [nI_eq (by omega) (by omega)]
        omega
      by_cases hc : ¬ fl (rK M r) j 5 ≤ 0 ∧ 0 < d ∧ d < L
      · rw [if_pos hc]
        refine ih (j + 1) d N (by omega) (by omega) (by omega) (by omega) (Or.inr ⟨j, by omega, hc.1, ?_⟩) (fun g hg hl u u1 u2 => ?_)
        · rw [hb]; exact (hne d (by omega) hd2).mpr rfl
        · rcases Nat.lt_or_ge g j with a | a
          · exact h6 g a hl u u1 (by omega)
          · have : g = j := by omega
            subst this
            rw [hb]
            exact fun z => by have := (hne u u1 (by omega)).mp z; omega
      · rw [if_neg hc]
        refine ih (j + 1) L N (by omega) (by omega) h3 h4 ?_ (fun g hg hl u u1 u2 => ?_)
        · rcases h5 with e | ⟨g, g1, g2⟩
          · exact Or.inl e
          · exact Or.inr ⟨g, by omega, g2⟩
        · rcases Nat.lt_or_ge g j with a | a
          · exact h6 g a hl u u1 u2
          · have : g = j := by omega
            subst this
            rw [hb]
            exact fun z => by
              have := (hne u u1 (by omega)).mp z
              exact hc ⟨hl, by omega, by omega⟩
  obtain ⟨L, w1, w2⟩ := key n 0 120 4000 (by omega) (by omega) (by decide) (by decide) (Or.inl rfl) (fun g hg => by omega)
  rw [(gpS_is _ k).uniq w2]
  exact w1
theorem c_arc (h : PC M) (hr : isRm r) (hi : Inv (rK M r) n) : fX2_arc r M = some (spS (rK M r) n, M) := by
  have hn := hi.1
  have key : ∀ (m j G N : Nat), m + j = n → m < N → G ≤ 120 → (∀ g k, g < j → ¬ fl (rK M r) g 5 ≤ 0 → k < 120 → fl (rK M r) g 4 = nI k → gpS (phS (rK M r) n) k ≤ G) → (G = 0 ∨ ∃ k, k < 120 ∧ phS (rK M r) n k = true ∧ gpS (phS (rK M r) n) k = G) → fX2_arc_h4 N r (nI G) (nI j) M = some (spS (rK M r) n, M) := by
    intro m
    induction m with
    | zero =>
      intro j G N h1 h2 hG h3 h4
      obtain ⟨N, rfl⟩ : ∃ k, N = k + 1 := ⟨N - 1, by omega⟩
      have : j = n := by omega
      subst this
      have hGe : G = grS (phS (rK M r) j) 120 := by
        obtain ⟨s1, s2⟩ := grS_spec (phS (rK M r) j) 120
        apply Nat.le_antisymm
        · rcases h4 with e | ⟨k, a, b, c⟩
          · omega
          · rw [← c]; exact s1 k a b
        · rcases s2 with e | ⟨k, a, b, c⟩
          · omega
          · rw [← c]
            obtain ⟨g, g1, g2, g3⟩ := (thS_iff j).mp b
            exact h3 g k g1 g2 a g3
      rw [fX2_arc_h4, rm_i5 hr, hi.2.1, Option.bind_some, if_pos (nI_le (Nat.le_refl _) (by omega))]
      unfold spS
      have hp := grS_pos (fun f hf => (hi.2.2.1 f hf).2.2.2.2.1)
      rw [← hGe] at hp ⊢
      by_cases h0 : G = 0
      · subst h0
        rw [if_pos (by decide), if_neg (fun z => by have := hp.mp z; omega)]
      · rw [if_neg (nI_ne0 (by omega) (by omega)), if_pos (hp.mpr (by omega)), i_120 _ hG]
    | succ m ih =>
      intro j G N h1 h2 hG h3 h4
      obtain ⟨N, rfl⟩ : ∃ k, N = k + 1 := ⟨N - 1, by omega⟩
      have hj8 : j < 8 := by omega
      rw [fX2_arc_h4, rm_i5 hr, hi.2.1, Option.bind_some, if_neg (nI_ge (show j < n by omega) (by omega)), rm_f1 h hr, Option.bind_some, rm_fl h hr hj8, Option.bind_some, fl_cV hr hj8, c_isLit hr hj8, Option.bind_some]
      by_cases hl : fl (rK M r) j 5 ≤ 0
      · simp only [if_pos hl, if_true]
        unfold fX2_arc_b34
        rw [nI_1]
        refine ih (j + 1) G N (by omega) (by omega) hG (fun g k g1 g2 g3 g4 => ?_) h4
        rcases Nat.lt_or_ge g j with a | a
        · exact h3 g k a g2 g3 g4
        · have : g = j := by omega
          subst this
          exact absurd hl g2
      · simp only [if_neg hl]
        obtain ⟨q, _, hq, hb⟩ := (hi.2.2.1 j (by omega)).2.2.2.2.1
        rw [if_neg (by decide), rm_cV hr, c_stepFrom h hr hi (show j < n by omega) hq hb, Option.bind_some]
        unfold fX2_arc_b34
        rw [nI_1]
        have hg := (gpS_is (phS (rK M r) n) q).2.1
        have hph : phS (rK M r) n q = true := (thS_iff n).mpr ⟨j, by omega, hl, hb⟩
        have main : ∀ G2, G ≤ G2 → gpS (phS (rK M r) n) q ≤ G2 → (G2 = G ∨ G2 = gpS (phS (rK M r) n) q) → fX2_arc_h4 N r (nI G2) (nI (j + 1)) M = some (spS (rK M r) n, M) := by
          intro G2 e1 e2 e3
          refine ih (j + 1) G2 N (by omega) (by omega) (by omega) (fun g k g1 g2 g3 g4 => ?_) ?_
          · rcases Nat.lt_or_ge g j with a | a
            · have := h3 g k a g2 g3 g4; omega
            · have : g = j := by omega
              subst this
              rw [hb, nI_eq (by omega) (by omega)] at g4
              subst g4
              exact e2
          · rcases e3 with e | e
            · rw [e]; exact h4
            · exact Or.inr ⟨q, hq, hph, e.symm⟩
        by_cases hc : G < gpS (phS (rK M r) n) q
        · have := main _ (by omega) (Nat.le_refl _) (Or.inr rfl)
          rw [show (if nI G < nI (gpS (phS (rK M r) n) q) then nI (gpS (phS (rK M r) n) q) else nI G) = nI (gpS (phS (rK M r) n) q) from if_pos (nI_lt hc (by omega))]
          exact this
        · have := main _ (Nat.le_refl _) (by omega) (Or.inl rfl)
          rw [show (if nI G < nI (gpS (phS (rK M r) n) q) then nI (gpS (phS (rK M r) n) q) else nI G) = nI G from if_neg (nI_nlt (by omega) (by omega))]
          exact this
  exact key n 0 0 4000 (by omega) (by omega) (by decide) (fun g k hg => by omega) (Or.inl rfl)
theorem c_litMany (h : PC M) (hr : isRm r) (hn : n ≤ 8) (h0 : rK M r 0 = nI n) : fX2_litMany r M = some (nI (lmS (rK M r) n), M) := by
  have key : ∀ (m j N : Nat), m + j = n → m < N → fX2_litMany_h4 N r (nI (lmS (rK M r) j)) (nI j) M = some (nI (lmS (rK M r) n), M) := by
    intro m
    induction m with
    | zero =>
      intro j N h1 h2
      obtain ⟨N, rfl⟩ : ∃ k, N = k + 1 := ⟨N - 1, by omega⟩
      have : j = n := by omega
      subst this
      rw [fX2_litMany_h4, rm_i5 hr, h0, Option.bind_some, if_pos (nI_le (Nat.le_refl _) (by omega))]
    | succ m ih =>
      intro j N h1 h2
      obtain ⟨N, rfl⟩ : ∃ k, N = k + 1 := ⟨N - 1, by omega⟩
      have hj8 : j < 8 := by omega
      rw [fX2_litMany_h4, rm_i5 hr, h0, Option.bind_some, if_neg (nI_ge (show j < n by omega) (by omega)), rm_f1 h hr, Option.bind_some, rm_fl h hr hj8, Option.bind_some, fl_cV hr hj8, c_isLit hr hj8, Option.bind_some]
      have e := ih (j + 1) N (by omega) (by omega)
      unfold fX2_litMany_b30
      rw [nI_1]
      by_cases hl : fl (rK M r) j 5 ≤ 0
      · simp only [lmS, if_pos hl] at e
        simp only [if_pos hl, if_true, Int32.add_zero]
        exact e
      · simp only [lmS, if_neg hl] at e
        simp only [if_neg hl]
        rw [if_neg (by decide), nI_1]
        exact e
  exact key n 0 4000 (by omega) (by omega)
theorem c_isFirst {k : Nat} (h : PC M) (hr : isRm r) (hn : n ≤ 8) (hf : f < n) (hfk : fl (rK M r) f 4 = nI k) : fX2_isFirstOfPhase r (nI f) M = some (if thS (rK M r) k f = true then 0 else 1, M) := by
  have hf8 : f < 8 := by omega
  have key : ∀ (m j N : Nat), m + j = f → m < N → thS (rK M r) k j = false → fX2_isFirstOfPhase_h2 N r (nI f) (nI j) M = some (if thS (rK M r) k f = true then 0 else 1, M) := by
    intro m
    induction m with
    | zero =>
      intro j N h1 h2 h3
      obtain ⟨N, rfl⟩ : ∃ k, N = k + 1 := ⟨N - 1, by omega⟩
      have : j = f := by omega
      subst this
      rw [fX2_isFirstOfPhase_h2, if_pos (nI_le (Nat.le_refl _) (by omega)), h3]
      rfl
    | succ m ih =>
      intro j N h1 h2 h3
      obtain ⟨N, rfl⟩ : ∃ k, N = k + 1 := ⟨N - 1, by omega⟩
      have hj8 : j < 8 := by omega
      rw [fX2_isFirstOfPhase_h2, if_neg (nI_ge (show j < f by omega) (by omega)), rm_f1 h hr, Option.bind_some, rm_fl h hr hj8, Option.bind_some, fl_cV hr hj8, c_isLit hr hj8, Option.bind_some]
      unfold fX2_isFirstOfPhase_b42
      rw [nI_1]
      by_cases hl : fl (rK M r) j 5 ≤ 0
      · simp only [if_pos hl, if_true]
        exact ih (j + 1) N (by omega) (by omega) (by simp [thS, litS, hl, h3])
      · simp only [if_neg hl]
        rw [if_neg (by decide), rm_f1 h hr, Option.bind_some, rm_fl h hr hj8, Option.bind_some, fl_g hr hj8 (by decide), Option.bind_some, Option.bind_some, rm_fl h hr hf8, Option.bind_some, fl_g hr hf8 (by decide), Option.bind_some]
        by_cases hc : fl (rK M r) j 4 = fl (rK M r) f 4
        · rw [if_pos hc, if_pos ((thS_iff f).mpr ⟨j, by omega, hl, hc.trans hfk⟩)]
        · rw [if_neg hc]
          refine ih (j + 1) N (by omega) (by omega) ?_
          rw [hfk] at hc
          simp [thS, litS, hl, h3, hc]
  exact key f 0 4000 (by omega) (by omega) rfl
theorem c_gapsAbove {w : Nat} (h : PC M) (hr : isRm r) (hi : Inv (rK M r) n) (hw : w < 120) : fX2_gapsAbove r (nI w) M = some (gpsS (rK M r) n w, M) := by
  have hn := hi.1
  have key : ∀ (m j N : Nat), m + j = n → m < N → fX2_gapsAbove_h4 N r (nI w) (nI (cbS (fun k => thS (rK M r) k j && decide (w < gpS (phS (rK M r) n) k)) 120)) (nI j) M = some (gpsS (rK M r) n w, M) := by
    intro m
    induction m with
    | zero =>
      intro j N h1 h2
      obtain ⟨N, rfl⟩ : ∃ k, N = k + 1 := ⟨N - 1, by omega⟩
      have : j = n := by omega
      subst this
      have e : cbS (fun k => thS (rK M r) k j && decide (w < gpS (phS (rK M r) j) k)) 120 = abS (phS (rK M r) j) w 120 := (cbS_ab _ w 120).symm
      rw [e, fX2_gapsAbove_h4, rm_i5 hr, hi.2.1, Option.bind_some, if_pos (nI_le (Nat.le_refl _) (by omega))]
      have hab := abS_le (phS (rK M r) j) w 120
      unfold gpsS
      by_cases h0 : abS (phS (rK M r) j) w 120 = 0
      · rw [h0, if_pos nI_0, if_pos rfl, rm_cV hr, c_litMany h hr hn hi.2.1, Option.bind_some]
        have hlm := lmS_an (K := rK M r) j
        have hle := lmS_le (K := rK M r) j
        by_cases ha : anS (rK M r) j = true
        · rw [if_neg (nI_nle (hlm.mp ha) (by omega)), if_pos ha]
        · have : lmS (rK M r) j = 0 := by
            rcases Nat.eq_zero_or_pos (lmS (rK M r) j) with z | z
            · exact z
            · exact absurd (hlm.mpr z) ha
          rw [this, if_pos (show nI 0 ≤ 0 by decide), if_neg ha, nI_0]
      · rw [if_neg (nI_ne0 (by omega) (by omega)), if_neg h0]
        have ha : anS (rK M r) j = true := by
          apply Classical.byContradiction
          intro ha
          apply h0
          have : ∀ N, abS (phS (rK M r) j) w N = 0 := by
            intro N
            induction N with
            | zero => rfl
            | succ N ihN =>
              have : phS (rK M r) j N ≠ true := fun z => by
                obtain ⟨g, g1, g2, g3⟩ := (thS_iff j).mp z
                exact ha ((anS_iff j).mpr ⟨g, g1, g2⟩)
              simp only [abS, this, false_and, if_false]
              exact ihN
          exact this 120
        rw [if_pos ha]
    | succ m ih =>
      intro j N h1 h2
      obtain ⟨N, rfl⟩ : ∃ k, N = k + 1 := ⟨N - 1, by omega⟩
      have hj8 : j < 8 := by omega
      have e := ih (j + 1) N (by omega) (by omega)
      rw [fX2_gapsAbove_h4, rm_i5 hr, hi.2.1, Option.bind_some, if_neg (nI_ge (show j < n by omega) (by omega)), rm_f1 h hr, Option.bind_some, rm_fl h hr hj8, Option.bind_some, fl_cV hr hj8, c_isLit hr hj8, Option.bind_some]
      unfold fX2_gapsAbove_b46 fX2_gapsAbove_b47
      rw [nI_1, Int32.add_zero]
      by_cases hl : fl (rK M r) j 5 ≤ 0
      · simp only [if_pos hl, if_true]
        have : (fun k => thS (rK M r) k (j + 1) && decide (w < gpS (phS (rK M r) n) k)) = (fun k => thS (rK M r) k j && decide (w < gpS (phS (rK M r) n) k)) := by
          funext k
          simp [thS, litS, hl]
        rw [this] at e
        exact e
      · simp only [if_neg hl]
        obtain ⟨q, _, hq, hb⟩ := (hi.2.2.1 j (by omega)).2.2.2.2.1
        rw [if_neg (by decide), rm_cV hr, c_isFirst h hr hn (show j < n by omega) hb, Option.bind_some]
        have eth : ∀ k, k < 120 → thS (rK M r) k (j + 1) = (thS (rK M r) k j || decide (q = k)) := by
          intro k hk
          simp only [thS, litS, hb, nI_eq (show q < 2 ^ 31 by omega) (show k < 2 ^ 31 by omega)]
          simp [hl]
        by_cases ht : thS (rK M r) q j = true
        · simp only [if_pos ht, if_true]
          rw [cbS_congr 120 (R := fun k => thS (rK M r) k j && decide (w < gpS (phS (rK M r) n) k)) (fun k hk => by
            rw [eth k hk]
            by_cases hqk : q = k
            · subst hqk; simp [ht]
            · simp [hqk])] at e
          exact e
        · simp only [if_neg ht]
          have ht' : thS (rK M r) q j = false := by simpa using ht
          rw [if_neg (by decide), rm_cV hr, c_stepFrom h hr hi (show j < n by omega) hq hb, Option.bind_some]
          have hg := (gpS_is (phS (rK M r) n) q).2.1
          by_cases hc : w < gpS (phS (rK M r) n) q
          · rw [if_neg (nI_ge hc (by omega)), nI_1]
            have ee : cbS (fun k => thS (rK M r) k (j + 1) && decide (w < gpS (phS (rK M r) n) k)) 120 = cbS (fun k => thS (rK M r) k j && decide (w < gpS (phS (rK M r) n) k)) 120 + 1 := by
              rw [cbS_congr 120 (R := fun k => (thS (rK M r) k j || decide (q = k)) && decide (w < gpS (phS (rK M r) n) k)) (fun k hk => by rw [eth k hk])]
              exact cbS_add (q := q) (by simp [ht']) (by simp [hc]) (fun k hk => by simp [Ne.symm hk]) 120 hq
            rw [ee] at e
            exact e
          · rw [if_pos (nI_le (by omega) (by omega))]
            rw [cbS_congr 120 (R := fun k => thS (rK M r) k j && decide (w < gpS (phS (rK M r) n) k)) (fun k hk => by
              rw [eth k hk]
              by_cases hqk : q = k
              · subst hqk; simp [hc]
              · simp [hqk])] at e
            exact e
  have e := key n 0 4000 (by omega) (by omega)
  have z : cbS (fun k => thS (rK M r) k 0 && decide (w < gpS (phS (rK M r) n) k)) 120 = 0 := by
    rw [cbS_congr 120 (R := fun _ => false) (fun k _ => by simp [thS])]
    have : ∀ N, cbS (fun _ => false) N = 0 := by
      intro N
      induction N with
      | zero => rfl
      | succ N ih => simp [cbS, ih]
    exact this 120
  rw [z, nI_0] at e
  exact e
end
