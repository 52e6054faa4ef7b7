/-! a room becomes as another one -/
section
variable {M : ctM} {r s n : Nat}
theorem c_flBecome {a b : Nat} (ha : kdC a = 0) (hb : kdC b = 0) (hab : b ≠ a) : ∃ M2, fX0_become a b M = some M2 ∧ M2.2 = M.2 ∧ (∀ c, c ≠ a → M2.1 c = M.1 c) ∧ ∀ k, k < 7 → M2.1 a k = M.1 b k := by
  refine ⟨ctI (ctI (ctI (ctI (ctI (ctI (ctI M a 0 (M.1 b 0)) a 1 (M.1 b 1)) a 2 (M.1 b 2)) a 3 (M.1 b 3)) a 4 (M.1 b 4)) a 5 (M.1 b 5)) a 6 (M.1 b 6), ?_, rfl, fun c hc => ?_, fun k hk => ?_⟩
  · simp only [fX0_become, gI_at hb, pI_at ha, bS, ctI_ne hab]
  · rw [ctI_ne hc, ctI_ne hc, ctI_ne hc, ctI_ne hc, ctI_ne hc, ctI_ne hc, ctI_ne hc]
  · simp only [ctI_1]
    rcases (by omega : k = 0 ∨ k = 1 ∨ k = 2 ∨ k = 3 ∨ k = 4 ∨ k = 5 ∨ k = 6) with rfl | rfl | rfl | rfl | rfl | rfl | rfl
    · rw [va_up_ne' (by decide), va_up_ne' (by decide), va_up_ne' (by decide), va_up_ne' (by decide), va_up_ne' (by decide), va_up_ne' (by decide), va_up_eq']
    · rw [va_up_ne' (by decide), va_up_ne' (by decide), va_up_ne' (by decide), va_up_ne' (by decide), va_up_ne' (by decide), va_up_eq']
    · rw [va_up_ne' (by decide), va_up_ne' (by decide), va_up_ne' (by decide), va_up_ne' (by decide), va_up_eq']
    · rw [va_up_ne' (by decide), va_up_ne' (by decide), va_up_ne' (by decide), va_up_eq']
    · rw [va_up_ne' (by decide), va_up_ne' (by decide), va_up_eq']
    · rw [va_up_ne' (by decide), va_up_eq']
    · rw [va_up_eq']
/-- what becoming leaves behind -/
def BcC (r s : Nat) (M M' : ctM) : Prop := M'.2 = M.2 ∧ rK M' r = rK M s ∧ (∀ k, k < 3 → M'.1 (r + 4) k = M.1 (s + 4) k) ∧ ∀ b, b < r ∨ r + 13 ≤ b → M'.1 b = M.1 b
theorem rm_ne {r s : Nat} (hr : isRm r) (hs : isRm s) (h : r ≠ s) : r + 13 ≤ s ∨ s + 13 ≤ r := by rcases hr with rfl | rfl | rfl <;> rcases hs with rfl | rfl | rfl <;> omega
theorem c_bec43 (pc : PC M) (hr : isRm r) (hs : isRm s) (hrs : r ≠ s) : ∀ (d j N : Nat) (M1 : ctM), j + d = 3 → d < N → M1.2 = M.2 → (∀ b, b < r ∨ r + 13 ≤ b → M1.1 b = M.1 b) → (∀ i, i < 8 → M1.1 (r + 2) i = M.1 (s + 2) i) → (∀ f k, f < 8 → k < 7 → M1.1 (r + 5 + f) k = M.1 (s + 5 + f) k) → (∀ k, k < j → M1.1 (r + 4) k = M.1 (s + 4) k) → ∃ M2, fX2_become_h43 N r s (nI j) M1 = some M2 ∧ BcC r s M M2 := by
  have hne := rm_ne hr hs hrs
  intro d
  induction d with
  | zero =>
    intro j N M1 hj hN h2 hb hg hf hc
    obtain ⟨N, rfl⟩ : ∃ k, N = k + 1 := ⟨N - 1, by omega⟩
    have : j = 3 := by omega
    subst this
    have e : ∀ k, M1.1 s k = M.1 s k := fun k => by rw [hb s (by omega)]
    refine ⟨ctI (ctI (ctI (ctI (ctI (ctI M1 r 5 (M1.1 s 5)) r 6 (M1.1 s 6)) r 7 (M1.1 s 7)) r 8 (M1.1 s 8)) r 9 (M1.1 s 9)) r 10 (M1.1 s 10), ?_, h2, ?_, fun k hk => ?_, fun b h => ?_⟩
    · rw [fX2_become_h43, if_pos (by decide)]
      simp only [gI_at (kC_rm hs).1, pI_at (kC_rm hr).1, bS, ctI_ne (show s ≠ r by omega)]
    · refine rK_congr (fun k h5 h10 => ?_) (fun i hi => ?_) (fun f k hf8 hk7 => ?_)
      · simp only [ctI_1]
        rcases (by omega : k = 5 ∨ k = 6 ∨ k = 7 ∨ k = 8 ∨ k = 9 ∨ k = 10) with rfl | rfl | rfl | rfl | rfl | rfl
        · rw [va_up_ne' (by decide), va_up_ne' (by decide), va_up_ne' (by decide), va_up_ne' (by decide), va_up_ne' (by decide), va_up_eq', e]
        · rw [va_up_ne' (by decide), va_up_ne' (by decide), va_up_ne' (by decide), va_up_ne' (by decide), va_up_eq', e]
        · rw [va_up_ne' (by decide), va_up_ne' (by decide), va_up_ne' (by decide), va_up_eq', e]
        · rw [va_up_ne' (by decide), va_up_ne' (by decide), va_up_eq', e]
        · rw [va_up_ne' (by decide), va_up_eq', e]
        · rw [va_up_eq', e]
      · rw [ctI_ne (by omega), ctI_ne (by omega), ctI_ne (by omega), ctI_ne (by omega), ctI_ne (by omega), ctI_ne (by omega)]
        exact hg i hi
      · rw [ctI_ne (by omega), ctI_ne (by omega), ctI_ne (by omega), ctI_ne (by omega), ctI_ne (by omega), ctI_ne (by omega)]
        exact hf f k hf8 hk7
    · rw [ctI_ne (by omega), ctI_ne (by omega), ctI_ne (by omega), ctI_ne (by omega), ctI_ne (by omega), ctI_ne (by omega)]
      exact hc k hk
    · rw [ctI_ne (by omega), ctI_ne (by omega), ctI_ne (by omega), ctI_ne (by omega), ctI_ne (by omega), ctI_ne (by omega)]
      exact hb b h
  | succ d ih =>
    intro j N M1 hj hN h2 hb hg hf hc
    obtain ⟨N, rfl⟩ : ∃ k, N = k + 1 := ⟨N - 1, by omega⟩
    have q := pc.of2 h2
    obtain ⟨M2, w1, w2⟩ := ih (j + 1) N (ctI M1 (r + 4) j (M1.1 (s + 4) j)) (by omega) (by omega) h2 (fun b h => by rw [ctI_ne (by omega)]; exact hb b h) (fun i hi => by rw [ctI_ne (by omega)]; exact hg i hi) (fun f k h1 h3 => by rw [ctI_ne (by omega)]; exact hf f k h1 h3) (fun k hk => by
      rw [ctI_1]
      by_cases e : k = j
      · subst e; rw [va_up_eq', hb (s + 4) (by omega)]
      · rw [va_up_ne' e]; exact hc k (by omega))
    refine ⟨M2, ?_, w2⟩
    rw [fX2_become_h43, if_neg (show ¬ (3 : Int32) ≤ nI j from nI_ge (b := 3) (by omega) (by decide)), rm_f4 q hr, bS, rm_f4 q hs, bS, rm_ct hs (by omega), bS, rm_cts hr (by omega), bS, nI_1]
    exact w1
theorem c_become (pc : PC M) (hr : isRm r) (hs : isRm s) (hrs : r ≠ s) : ∃ M2, fX2_become r s M = some M2 ∧ BcC r s M M2 := by
  have hne := rm_ne hr hs hrs
  have key : ∀ (d j N : Nat) (M1 : ctM), j + d = 8 → d < N → M1.2 = M.2 → (∀ b, b < r ∨ r + 13 ≤ b → M1.1 b = M.1 b) → (∀ i, i < j → M1.1 (r + 2) i = M.1 (s + 2) i) → (∀ f k, f < j → k < 7 → M1.1 (r + 5 + f) k = M.1 (s + 5 + f) k) → ∃ M2, fX2_become_h2 N r s (nI j) M1 = some M2 ∧ BcC r s M M2 := by
    intro d
    induction d with
    | zero =>
      intro j N M1 hj hN h2 hb hg hf
      obtain ⟨N, rfl⟩ : ∃ k, N = k + 1 := ⟨N - 1, by omega⟩
      have : j = 8 := by omega
      subst this
      obtain ⟨M2, w1, w2⟩ := c_bec43 pc hr hs hrs 3 0 4000 M1 (by decide) (by decide) h2 hb hg hf (fun k hk => by omega)
      rw [nI_0] at w1
      refine ⟨M2, ?_, w2⟩
      rw [fX2_become_h2, if_pos (by decide)]
      exact w1
    | succ d ih =>
      intro j N M1 hj hN h2 hb hg hf
      obtain ⟨N, rfl⟩ : ∃ k, N = k + 1 := ⟨N - 1, by omega⟩
      have hj8 : j < 8 := by omega
      have q := pc.of2 h2
      obtain ⟨M3, u1, u2, u3, u4⟩ := c_flBecome (M := M1) (kC_fl hr hj8) (kC_fl hs hj8) (show s + 5 + j ≠ r + 5 + j by omega)
      have q3 := pc.of2 (u2.trans h2)
      have e3 : aI kdC lnC 9 (s + 2) (nI j) M3 = some (M.1 (s + 2) j) := by
        rw [rm_gl hs hj8, rK_gl hj8, u3 _ (by omega), hb _ (by omega)]
      obtain ⟨M2, w1, w2⟩ := ih (j + 1) N (ctI M3 (r + 2) j (M.1 (s + 2) j)) (by omega) (by omega) (u2.trans h2) (fun b h => by rw [ctI_ne (by omega), u3 _ (by omega)]; exact hb b h) (fun i hi => by
        rw [ctI_1]
        by_cases e : i = j
        · subst e; rw [va_up_eq']
        · rw [va_up_ne' e, u3 _ (by omega)]; exact hg i (by omega)) (fun f k h1 h3 => by
        rw [ctI_ne (by omega)]
        by_cases e : f = j
        · subst e; rw [u4 k h3, hb _ (by omega)]
        · rw [u3 _ (by omega)]; exact hf f k (by omega) h3)
      refine ⟨M2, ?_, w2⟩
      rw [fX2_become_h2, if_neg (show ¬ (8 : Int32) ≤ nI j from nI_ge (b := 8) hj8 (by decide)), rm_f1 q hr, bS, rm_fl q hr hj8, bS, rm_f1 q hs, bS, rm_fl q hs hj8, bS, fl_cV hr hj8, u1, bS, rm_f2 q3 hr, bS, rm_f2 q3 hs, bS, e3, bS, rm_gls hr hj8, bS, nI_1]
      exact w1
  obtain ⟨M2, w1, w2⟩ := key 8 0 4000 M (by decide) (by decide) rfl (fun _ _ => rfl) (fun i hi => by omega) (fun f k hf => by omega)
  rw [nI_0] at w1
  exact ⟨M2, w1, w2⟩
end
