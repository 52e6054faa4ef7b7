/-! bits of masks -/
abbrev bitI (j : Nat) : Int32 := 1 <<< (nI j &&& 31)
set_option maxRecDepth 100000 in
theorem bt_or : ∀ m, m < 256 → ∀ j, j < 8 → (nI m ||| bitI j = nI (m ||| 2 ^ j) ∧ m ||| 2 ^ j < 256) ∧ ∀ f, f < 8 → gbS (nI m ||| bitI j) f = if f = j then 1 else gbS (nI m) f := by decide +kernel
set_option maxRecDepth 100000 in
theorem bt_gl : ∀ m, m < 256 → ∀ j, j < 8 → ((((nI m).toUInt32 >>> ((nI j).toUInt32 &&& Int32.toUInt32 31)).toInt32 &&& 1) = gbS (nI m) j) ∧ (gbS (nI m) j = 0 ∨ gbS (nI m) j = 1) ∧ (gbS (nI m) j = 0 → nI m ||| bitI j = nI m ^^^ bitI j ∧ nI m &&& (bitI j ^^^ (-1)) = nI m) ∧ (gbS (nI m) j = 1 → nI m &&& (bitI j ^^^ (-1)) = nI m ^^^ bitI j ∧ nI m ||| bitI j = nI m) ∧ nI m ^^^ bitI j = nI (m ^^^ 2 ^ j) ∧ m ^^^ 2 ^ j < 256 := by decide +kernel
theorem bt_0 : ∀ f, f < 8 → ¬ gbS 0 f = 1 := by decide +kernel
def maskS (K : Kv) : Nat → Int32
  | 0 => 0
  | j + 1 => if fl K j 5 ≤ 0 then maskS K j else maskS K j ||| bitI j
theorem maskS_spec (K : Kv) : ∀ j, j ≤ 8 → ∃ m, m < 256 ∧ maskS K j = nI m ∧ ∀ f, f < 8 → (gbS (nI m) f = 1 ↔ f < j ∧ ¬ fl K f 5 ≤ 0) := by
  intro j
  induction j with
  | zero =>
    intro _
    refine ⟨0, by decide, rfl, fun f hf => ⟨fun h => absurd h (bt_0 f hf), fun h => by omega⟩⟩
  | succ j ih =>
    intro hj
    obtain ⟨m, h1, h2, h3⟩ := ih (by omega)
    by_cases hl : fl K j 5 ≤ 0
    · refine ⟨m, h1, by simp only [maskS, if_pos hl]; exact h2, fun f hf => ?_⟩
      rw [h3 f hf]
      constructor
      · rintro ⟨a, b⟩; exact ⟨by omega, b⟩
      · rintro ⟨a, b⟩
        refine ⟨?_, b⟩
        rcases Nat.lt_or_ge f j with q | q
        · exact q
        · have : f = j := by omega
          subst this
          exact absurd hl b
    · obtain ⟨⟨b1, b2⟩, b3⟩ := bt_or m h1 j (by omega)
      refine ⟨m ||| 2 ^ j, b2, by simp only [maskS, if_neg hl]; rw [h2]; exact b1, fun f hf => ?_⟩
      rw [← b1, b3 f hf]
      by_cases hfj : f = j
      · subst hfj
        rw [if_pos rfl]
        exact ⟨fun _ => ⟨by omega, hl⟩, fun _ => rfl⟩
      · rw [if_neg hfj, h3 f hf]
        constructor
        · rintro ⟨a, b⟩; exact ⟨by omega, b⟩
        · rintro ⟨a, b⟩; exact ⟨by omega, b⟩
theorem maskS_bit {K : Kv} {n f : Nat} (hn : n ≤ 8) (hf : f < n) : (maskS K n >>> (nI f &&& 31) &&& 1 = 1) ↔ ¬ fl K f 5 ≤ 0 := by
  obtain ⟨m, h1, h2, h3⟩ := maskS_spec K n hn
  rw [h2]
  have := h3 f (by omega)
  unfold gbS at this
  rw [this]
  exact ⟨fun h => h.2, fun h => ⟨hf, h⟩⟩
section
variable {M : ctM} {E : Ev} {n nt : Nat}
theorem burnt_0 {K : Kv} : burntS E K n 0 = zK K (zS E K n) := by
  funext i
  unfold burntS zK va_up
  by_cases h : i = 5
  · subst h
    simp
  · have : ¬ (14 ≤ i ∧ i < 14 + 7 * 0) := by omega
    simp only [if_neg this, if_neg h]
theorem burnt_fl {K : Kv} {j k : Nat} (hk : k < 7) : burntS E K n j (14 + 7 * j + k) = fl K j k := by
  unfold burntS fl
  rw [if_neg (by omega), if_neg (by omega)]
theorem burnt_unlit {K : Kv} {j : Nat} (h : fl K j 5 ≤ 0) : burntS E K n (j + 1) = burntS E K n j := by
  funext i
  unfold burntS
  by_cases h1 : 14 ≤ i ∧ i < 14 + 7 * j
  · rw [if_pos (show 14 ≤ i ∧ i < 14 + 7 * (j + 1) by omega), if_pos h1]
  · by_cases h2 : 14 ≤ i ∧ i < 14 + 7 * (j + 1)
    · rw [if_pos h2, if_neg h1, if_neg (by omega)]
      have e1 : (i - 14) / 7 = j := by omega
      rw [e1]
      unfold burnS
      rw [if_pos h]
      unfold fl
      congr 1
      omega
    · rw [if_neg h2, if_neg h1]
theorem burnt_lit {K : Kv} {j : Nat} (h : ¬ fl K j 5 ≤ 0) : burntS E K n (j + 1) = va_up (va_up (va_up (burntS E K n j) (14 + 7 * j + 4) (wrapS (nextS E K n j))) (14 + 7 * j + 5) (clS (fl K j 5 - fl K j 3) 0 999)) (14 + 7 * j + 6) (fl K j 6 + flashS E K n j) := by
  funext i
  unfold va_up
  by_cases h6 : i = 14 + 7 * j + 6
  · subst h6
    rw [if_pos rfl]
    unfold burntS
    rw [if_pos (by omega), show (14 + 7 * j + 6 - 14) / 7 = j by omega, show (14 + 7 * j + 6 - 14) % 7 = 6 by omega]
    unfold burnS
    rw [if_neg h, if_neg (by decide), if_neg (by decide), if_pos rfl]
  rw [if_neg h6]
  by_cases h5 : i = 14 + 7 * j + 5
  · subst h5
    rw [if_pos rfl]
    unfold burntS
    rw [if_pos (by omega), show (14 + 7 * j + 5 - 14) / 7 = j by omega, show (14 + 7 * j + 5 - 14) % 7 = 5 by omega]
    unfold burnS
    rw [if_neg h, if_neg (by decide), if_pos rfl]
  rw [if_neg h5]
  by_cases h4 : i = 14 + 7 * j + 4
  · subst h4
    rw [if_pos rfl]
    unfold burntS
    rw [if_pos (by omega), show (14 + 7 * j + 4 - 14) / 7 = j by omega, show (14 + 7 * j + 4 - 14) % 7 = 4 by omega]
    unfold burnS
    rw [if_neg h, if_pos rfl]
  rw [if_neg h4]
  unfold burntS
  by_cases h1 : 14 ≤ i ∧ i < 14 + 7 * j
  · rw [if_pos (show 14 ≤ i ∧ i < 14 + 7 * (j + 1) by omega), if_pos h1]
  · by_cases h2 : 14 ≤ i ∧ i < 14 + 7 * (j + 1)
    · rw [if_pos h2, if_neg h1, if_neg (by omega)]
      have e1 : (i - 14) / 7 = j := by omega
      rw [e1]
      unfold burnS
      rw [if_neg h, if_neg (by omega), if_neg (by omega), if_neg (by omega)]
      unfold fl
      congr 1
      omega
    · rw [if_neg h2, if_neg h1]
theorem m_nx {j : Nat} {v : Int32} (hj : j < 8) : sI kdM lnM 9 12 (nI j) v M = some (ctI M 12 j v) := sI_at (n := 8) rfl rfl hj (by decide)
theorem m_nxr {j : Nat} (hj : j < 8) : aI kdM lnM 9 12 (nI j) M = some (M.1 12 j) := aI_at (n := 8) rfl rfl hj (by decide)
theorem m_tick1 (p : PM M) (hi : Inv (M.1 1) n) (he : EvM (M.1 1) nt E) : ∀ (m j N : Nat) (M1 : ctM), j + m = n → m < N → TkM M (zK (M.1 1) (zS E (M.1 1) j)) M1 → (∀ i, i < j → ¬ fl (M.1 1) i 5 ≤ 0 → M1.1 12 i = nextS E (M.1 1) n i) →
    ∃ M2, fX7_ticks_h4 N 0 (maskS (M.1 1) j) (nI j) M1 = fX7_ticks_h62 4000 0 (maskS (M.1 1) n) 0 0 M2 ∧ TkM M (zK (M.1 1) (zS E (M.1 1) n)) M2 ∧ ∀ i, i < n → ¬ fl (M.1 1) i 5 ≤ 0 → M2.1 12 i = nextS E (M.1 1) n i := by
  have hn := hi.1
  intro m
  induction m with
  | zero =>
    intro j N M1 hj hN h hx
    obtain ⟨N, rfl⟩ : ∃ k, N = k + 1 := ⟨N - 1, by omega⟩
    have : j = n := by omega
    subst this
    refine ⟨M1, ?_, h, hx⟩
    rw [fX7_ticks_h4]
    simp only [gM0 (h.pm p), Option.bind_some, m_s0, h.2.1]
    rw [K_z (by decide), hi.2.1, if_pos (nI_le (Nat.le_refl _) (by omega))]
  | succ m ih =>
    intro j N M1 hj hN h hx
    obtain ⟨N, rfl⟩ : ∃ k, N = k + 1 := ⟨N - 1, by omega⟩
    have hj8 : j < 8 := by omega
    have q := h.pm p
    rw [fX7_ticks_h4]
    simp only [gM0 q, Option.bind_some, m_s0, m_cV]
    rw [h.2.1, K_z (by decide), hi.2.1, if_neg (nI_ge (show j < n by omega) (by omega)), m_isLit q j hj8, h.2.1, fl_z]
    simp only [Option.bind_some]
    by_cases hl : fl (M.1 1) j 5 ≤ 0
    · simp only [if_pos hl, if_true]
      unfold fX7_ticks_b52
      rw [nI_1]
      have h' : TkM M (zK (M.1 1) (zS E (M.1 1) (j + 1))) M1 := by simp only [zS, if_pos hl]; exact h
      have := ih (j + 1) N M1 (by omega) (by omega) h' (fun i hi2 hl2 => by
        rcases Nat.lt_or_ge i j with q | q
        · exact hx i q hl2
        · have : i = j := by omega
          subst this
          exact absurd hl hl2)
      simp only [maskS, if_pos hl] at this
      exact this
    · simp only [if_neg hl]
      rw [if_neg (by decide), gM12 q]
      simp only [Option.bind_some]
      rw [m_of4 q hj8, h.2.1, fl_z]
      simp only [Option.bind_some]
      obtain ⟨M2, w1, w2⟩ := m_pace q (by rw [h.2.1]; exact Inv_z hi) (by rw [h.2.1]; exact EvM_z he) (show j < n by omega)
      rw [w1, h.2.1, paceS_z]
      simp only [Option.bind_some]
      have h2 := h.scr w2
      obtain ⟨M3, v1, v2, v3⟩ := m_turned p h2 hi he (show j < n by omega)
      rw [v1]
      simp only [Option.bind_some]
      rw [m_nx hj8]
      simp only [Option.bind_some]
      unfold fX7_ticks_b52
      rw [nI_1]
      have e12 : M3.1 12 = M1.1 12 := v3.trans (w2.2 12 (by decide) (by decide))
      have h' : TkM M (zK (M.1 1) (zS E (M.1 1) (j + 1))) (ctI M3 12 j (fl (M.1 1) j 4 + paceS E (M.1 1) j + kTurn (fl (M.1 1) j 0) (psumS E (M.1 1) j n) (windV E (M.1 1) (zS E (M.1 1) j) j))) := by
        simp only [zS, if_neg hl]
        exact ⟨v2.1, (ctI_ne (by decide)).trans v2.2.1, fun b h1 h2 h3 h4 => (ctI_ne h2).trans (v2.2.2 b h1 h2 h3 h4)⟩
      have := ih (j + 1) N _ (by omega) (by omega) h' (fun i hi2 hl2 => by
        rw [ctI_1]
        rcases Nat.lt_or_ge i j with q | q
        · rw [va_up_ne' (by omega), e12]
          exact hx i q hl2
        · have : i = j := by omega
          subst this
          rw [va_up_eq']
          rfl)
      simp only [maskS, if_neg hl] at this
      exact this
theorem m_tick2 (p : PM M) (hi : Inv (M.1 1) n) : ∀ (m j N : Nat) (M1 : ctM), j + m = n → m < N → TkM M (burntS E (M.1 1) n j) M1 → (∀ i, i < n → ¬ fl (M.1 1) i 5 ≤ 0 → M1.1 12 i = nextS E (M.1 1) n i) →
    ∃ M2, fX7_ticks_h62 N 0 (maskS (M.1 1) n) (fsumS E (M.1 1) n j) (nI j) M1 = some (fsumS E (M.1 1) n n, M2) ∧ TkM M (tickS E (M.1 1) n) M2 := by
  have hn := hi.1
  intro m
  induction m with
  | zero =>
    intro j N M1 hj hN h hx
    obtain ⟨N, rfl⟩ : ∃ k, N = k + 1 := ⟨N - 1, by omega⟩
    have : j = n := by omega
    subst this
    have q := h.pm p
    rw [fX7_ticks_h62]
    simp only [gM0 q, Option.bind_some, m_s0, m_s2, m_ss2, h.2.1]
    have e0 : burntS E (M.1 1) j j 0 = M.1 1 0 := by unfold burntS; rw [if_neg (by omega), if_neg (by decide)]
    have e2 : burntS E (M.1 1) j j 2 = M.1 1 2 := by unfold burntS; rw [if_neg (by omega), if_neg (by decide)]
    rw [e0, e2, hi.2.1, if_pos (nI_le (Nat.le_refl _) (by omega))]
    exact ⟨_, rfl, h.put 2 _⟩
  | succ m ih =>
    intro j N M1 hj hN h hx
    obtain ⟨N, rfl⟩ : ∃ k, N = k + 1 := ⟨N - 1, by omega⟩
    have hj8 : j < 8 := by omega
    have q := h.pm p
    have e0 : burntS E (M.1 1) n j 0 = M.1 1 0 := by unfold burntS; rw [if_neg (by omega), if_neg (by decide)]
    rw [fX7_ticks_h62]
    simp only [gM0 q, Option.bind_some, m_s0, m_cV]
    rw [h.2.1, e0, hi.2.1, if_neg (nI_ge (show j < n by omega) (by omega))]
    by_cases hl : fl (M.1 1) j 5 ≤ 0
    · rw [if_neg (by rw [maskS_bit hn (by omega)]; exact fun z => z hl)]
      unfold fX7_ticks_b190
      rw [nI_1]
      have := ih (j + 1) N M1 (by omega) (by omega) (by rw [burnt_unlit hl]; exact h) hx
      simp only [fsumS, if_pos hl, Int32.add_zero] at this
      exact this
    · rw [if_pos (by rw [maskS_bit hn (by omega)]; exact hl), m_flameAt]
      simp only [Option.bind_some]
      rw [gM12 q]
      simp only [Option.bind_some]
      rw [m_nxr hj8, hx j (by omega) hl]
      simp only [Option.bind_some]
      have key : ∀ (fv : Int32), fv = flashS E (M.1 1) n j → ∃ M2, fX7_ticks_b104 (fX7_ticks_h62 N) 0 (maskS (M.1 1) n) (fsumS E (M.1 1) n j) (nI j) (nI (14 + 7 * j)) fv M1 = some (fsumS E (M.1 1) n n, M2) ∧ TkM M (tickS E (M.1 1) n) M2 := by
        intro fv hfv
        have key2 : ∀ wv : Int32, wv = wrapS (nextS E (M.1 1) n j) → ∃ M2, fX7_ticks_b140 (fX7_ticks_h62 N) 0 (maskS (M.1 1) n) (fsumS E (M.1 1) n j) (nI j) (nI (14 + 7 * j)) fv 1 (nI (14 + 7 * j) + 4) wv M1 = some (fsumS E (M.1 1) n n, M2) ∧ TkM M (tickS E (M.1 1) n) M2 := by
          intro wv hwv
          unfold fX7_ticks_b140
          rw [show nI (14 + 7 * j) + 4 = nI (14 + 7 * j + 4) from nI_add _ 4, m_ss (by omega)]
          simp only [Option.bind_some]
          have a1 := h.put (14 + 7 * j + 4) wv
          have q1 := a1.pm p
          have f5 : fl (va_up (burntS E (M.1 1) n j) (14 + 7 * j + 4) wv) j 5 = fl (M.1 1) j 5 := by
            show va_up _ _ _ (14 + 7 * j + 5) = _
            rw [va_up_ne' (by omega)]
            exact burnt_fl (by decide)
          have f3 : fl (va_up (burntS E (M.1 1) n j) (14 + 7 * j + 4) wv) j 3 = fl (M.1 1) j 3 := by
            show va_up _ _ _ (14 + 7 * j + 3) = _
            rw [va_up_ne' (by omega)]
            exact burnt_fl (by decide)
          rw [gM0 q1]
          simp only [Option.bind_some, m_cV]
          rw [m_of5 q1 hj8]
          simp only [Option.bind_some]
          rw [m_of3 q1 hj8]
          simp only [Option.bind_some, m_within]
          rw [a1.2.1, f5, f3, show nI (14 + 7 * j) + 5 = nI (14 + 7 * j + 5) from nI_add _ 5, m_ss (by omega)]
          simp only [Option.bind_some]
          have a2 := a1.put (14 + 7 * j + 5) (clS (fl (M.1 1) j 5 - fl (M.1 1) j 3) 0 999)
          have q2 := a2.pm p
          rw [gM0 q2]
          simp only [Option.bind_some]
          rw [show nI (14 + 7 * j) + 6 = nI (14 + 7 * j + 6) from nI_add _ 6, m_s (by omega), a2.2.1]
          simp only [Option.bind_some]
          rw [va_up_ne' (by omega), va_up_ne' (by omega), burnt_fl (k := 6) (by decide), m_ss (by omega)]
          simp only [Option.bind_some]
          have a3 := a2.put (14 + 7 * j + 6) (fl (M.1 1) j 6 + fv)
          unfold fX7_ticks_b190
          rw [nI_1]
          subst hfv; subst hwv
          rw [← burnt_lit hl] at a3
          have := ih (j + 1) N _ (by omega) (by omega) a3 (fun i h1 h2 => by
            rw [ctI_ne (by decide), ctI_ne (by decide), ctI_ne (by decide)]
            exact hx i h1 h2)
          simp only [fsumS, if_neg hl] at this
          exact this
        unfold fX7_ticks_b104
        rw [gM12 q]
        simp only [Option.bind_some]
        rw [m_nxr hj8, hx j (by omega) hl]
        simp only [Option.bind_some]
        rw [gM0 q]
        simp only [Option.bind_some]
        by_cases hm : 0 ≤ nextS E (M.1 1) n j % 120
        · rw [if_pos hm]
          exact key2 _ (by unfold wrapS; rw [if_pos hm])
        · rw [if_neg hm]
          exact key2 _ (by unfold wrapS; rw [if_neg hm])
      by_cases hfl : nextS E (M.1 1) n j < 120
      · rw [if_pos hfl]
        exact key 0 (by unfold flashS; rw [if_pos hfl])
      · rw [if_neg hfl]
        exact key 1 (by unfold flashS; rw [if_neg hfl])
theorem m_ticks (p : PM M) (hi : Inv (M.1 1) n) (he : EvM (M.1 1) nt E) : ∃ M2, fX7_ticks 0 M = some (fsumS E (M.1 1) n n, M2) ∧ TkM M (tickS E (M.1 1) n) M2 := by
  have hn := hi.1
  have h0 : TkM M (zK (M.1 1) (zS E (M.1 1) 0)) M := by
    refine ⟨rfl, ?_, fun _ _ _ _ _ => rfl⟩
    funext i
    unfold zK va_up
    by_cases h : i = 5
    · subst h; rw [if_pos rfl]; rfl
    · rw [if_neg h]
  obtain ⟨M1, a1, a2, a3⟩ := m_tick1 (E := E) p hi he n 0 4000 M (by omega) (by omega) h0 (fun i h => by omega)
  obtain ⟨M2, b1, b2⟩ := m_tick2 (E := E) p hi n 0 4000 M1 (by omega) (by omega) (by rw [burnt_0]; exact a2) a3
  exact ⟨M2, a1.trans b1, b2⟩
end
