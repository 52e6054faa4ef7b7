theorem ctP_2 {M : ctM} {a k x y : Nat} {r : Option Nat} (h : x ≠ a ∨ y ≠ k) : (ctP M a k r).2 x y = M.2 x y := by
  unfold ctP
  by_cases e : x = a
  · subst e
    have hy : y ≠ k := by omega
    show va_up M.2 x (va_up (M.2 x) k r) x y = M.2 x y
    rw [va_up_eq', va_up_ne' hy]
  · show va_up M.2 a (va_up (M.2 a) k r) x y = M.2 x y
    rw [va_up_ne' e]
theorem ctP_22 {M : ctM} {a k : Nat} {r : Option Nat} : (ctP M a k r).2 a k = r := by
  show va_up M.2 a (va_up (M.2 a) k r) a k = r
  rw [va_up_eq', va_up_eq']
theorem PC_P {M : ctM} {a k : Nat} {r : Option Nat} (p : PC M) (h : (a = 4 ∧ k = 6) ∨ a = 11) : PC (ctP M a k r) := by
  have e : ∀ x y, (x ≠ 4 ∨ y ≠ 6) → x ≠ 11 → (ctP M a k r).2 x y = M.2 x y := fun x y h1 h2 => ctP_2 (by omega)
  obtain ⟨⟨a1, a2, a3, a4, a5, a6, a7, a8, a9⟩, b, c, d, f⟩ := p
  refine ⟨⟨(e _ _ (by omega) (by omega)).trans a1, (e _ _ (by omega) (by omega)).trans a2, (e _ _ (by omega) (by omega)).trans a3, (e _ _ (by omega) (by omega)).trans a4, (e _ _ (by omega) (by omega)).trans a5, (e _ _ (by omega) (by omega)).trans a6, (e _ _ (by omega) (by omega)).trans a7, (e _ _ (by omega) (by omega)).trans a8, (e _ _ (by omega) (by omega)).trans a9⟩, fun s hs => ?_, fun i hi => ?_, fun i hi => ?_, fun s hs => ?_⟩
  · obtain ⟨b1, b2, b3, b4, b5, b6⟩ := b s hs
    have hs2 : 82 ≤ s := by rcases hs with rfl | rfl | rfl <;> omega
    exact ⟨(e _ _ (by omega) (by omega)).trans b1, (e _ _ (by omega) (by omega)).trans b2, (e _ _ (by omega) (by omega)).trans b3, (e _ _ (by omega) (by omega)).trans b4, (e _ _ (by omega) (by omega)).trans b5, fun f hf => (e _ _ (by omega) (by omega)).trans (b6 f hf)⟩
  · exact ⟨(e _ _ (by omega) (by omega)).trans (c i hi).1, (e _ _ (by omega) (by omega)).trans (c i hi).2⟩
  · exact ⟨(e _ _ (by omega) (by omega)).trans (d i hi).1, (e _ _ (by omega) (by omega)).trans (d i hi).2.1, (e _ _ (by omega) (by omega)).trans (d i hi).2.2.1, (e _ _ (by omega) (by omega)).trans (d i hi).2.2.2⟩
  · have hs2 := law_ne4 hs
    have hs3 : s ≠ 11 := by rcases hs with h | h <;> omega
    exact ⟨(e _ _ (by omega) hs3).trans (f s hs).1, (e _ _ (by omega) hs3).trans (f s hs).2.1, (e _ _ (by omega) hs3).trans (f s hs).2.2.1, (e _ _ (by omega) hs3).trans (f s hs).2.2.2⟩
theorem Inv.of {A B : Kv} {n : Nat} (h : ∀ j, j < 70 → j ≠ 1 → B j = A j) (hi : Inv A n) : Inv B n := by
  obtain ⟨h1, h2, h3, h4, h5⟩ := hi
  refine ⟨h1, by rw [h 0 (by decide) (by decide)]; exact h2, fun f hf => ?_, fun i hi => by rw [h (6 + i) (by omega) (by omega)]; exact h4 i hi, fun i a b => by rw [h (6 + i) (by omega) (by omega)]; exact h5 i a b⟩
  have := h3 f hf
  unfold fl at this ⊢
  rw [h _ (by omega) (by omega), h _ (by omega) (by omega), h _ (by omega) (by omega), h _ (by omega) (by omega), h _ (by omega) (by omega), h _ (by omega) (by omega)]
  exact this
theorem law_far {a c b : Nat} (ha : isLaw a) (hc : isLaw c) (hne : a ≠ c) (h1 : a ≤ b) (h2 : b < a + 4) : b ≠ 4 ∧ ¬ (c ≤ b ∧ b < c + 4) := by
  rcases ha with h | h <;> rcases hc with q | q <;> omega
section
variable {Mc Mm Mc' Mm' : ctM}
/-- what stays when the tape was only read -/
theorem TxS.par {S S' : Kv} {c nt : Nat} (tx : TxS Mc S nt) (hc : isLaw c) (hne : ∀ t, t < nt → ∀ a, Mc.2 11 t = some a → a ≠ c) (f : ∀ b, b < 82 → b ≠ 4 → ¬ (c ≤ b ∧ b < c + 4) → Mc'.1 b = Mc.1 b) (f2 : ∀ t, t < nt → Mc'.2 11 t = Mc.2 11 t) (hs : ∀ j, 70 ≤ j → j < 70 + 200 * nt → S' j = S j) : ∀ t, t < nt → ∃ (key : Nat) (g : Int32 → Int32 → Int32 → Int32) (a : Nat), key < 3 ∧ S' (70 + 200 * t) = nI key ∧ Mc'.2 11 t = some a ∧ isLaw a ∧ Mc'.1 a 0 = nI key ∧ Mc'.1 a 1 = S' (71 + 200 * t) ∧ LawOk Mc' a g ∧ TextOk key t S' g := by
  intro t ht
  obtain ⟨key, g, a, q1, q2, q3, q4, q5, q6, q7, q8⟩ := tx.2.2 t ht
  have ne := hne t ht a q3
  have fa : ∀ b, a ≤ b → b < a + 4 → Mc'.1 b = Mc.1 b := fun b b1 b2 => f b (by rcases q4 with h | h <;> omega) (law_far q4 hc ne b1 b2).1 (law_far q4 hc ne b1 b2).2
  have nt14 := tx.1
  exact ⟨key, g, a, q1, (hs _ (by omega) (by omega)).trans q2, (f2 t ht).trans q3, q4, by rw [fa a (by omega) (by omega)]; exact q5, by rw [fa a (by omega) (by omega), hs _ (by omega) (by omega)]; exact q6, q7.congr fa, q8.congr (fun j j1 j2 => hs j (by omega) (by omega))⟩
theorem ImS.par {nt nt' : Nat} (im : ImS Mc Mm nt) (hn : nt ≤ nt') (f0 : Mc'.1 0 4 = Mc.1 0 4) (fb : ∀ b, 108 ≤ b → b < 121 → Mc'.1 b = Mc.1 b) (g3 : Mm'.1 0 3 = Mm.1 0 3) (g2 : Mm'.1 2 = Mm.1 2) (hs : ∀ j, 70 ≤ j → j < 70 + 200 * nt → Mm'.1 1 j = Mm.1 1 j) : ImS Mc' Mm' nt' := by
  unfold ImS at im ⊢
  have e : rK Mc' 108 = rK Mc 108 := rK_congr (fun k _ _ => by rw [fb 108 (by omega) (by omega)]) (fun i _ => by rw [fb (108 + 2) (by omega) (by omega)]) (fun f k _ _ => by rw [fb (108 + 5 + f) (by omega) (by omega)])
  rw [f0, g3, g2, e]
  rcases im with z | ⟨e1, e2, e3, e4, ni, e5, e6, e7, e8⟩
  · exact Or.inl z
  · exact Or.inr ⟨e1, e2, e3, e4, ni, by omega, e6, e7.congr (fun k _ => by rw [fb (108 + 4) (by omega) (by omega)]) (fun _ _ => rfl), fun t ht j j1 j2 => (e8 t ht j j1 j2).trans (hs j (by omega) (by omega)).symm⟩
theorem Sim.par (h : Sim Mc Mm) {c nt base : Nat} (hc : isLaw c) (h46 : Mc.2 4 6 = some c) (hnt : Mm.1 1 1 = nI nt) (hnt14 : nt ≤ 14) (hb : 74 + 200 * nt ≤ base ∨ 2870 ≤ base) (fc : FRc c Mc Mc') (fm : FRm base Mm Mm') (l1 : Mc'.1 4 1 = 0) (l2 : Mm'.1 0 18 = 0) : Sim Mc' Mm' := by
  obtain ⟨pc, pm, lw, ag, ⟨n, hi⟩, ⟨nt', tx, ct, im⟩, sh, sl, tp, wt, sy⟩ := id h
  have l4 := law_ne4 hc
  have ntt : nt' = nt := (nI_eq (by have := tx.1; omega) (by omega)).mp (tx.2.1.symm.trans hnt)
  subst ntt
  have nt14 := tx.1
  have hi0 : ∀ j, j < 70 + 200 * nt' → Mm'.1 1 j = Mm.1 1 j := fun j hj => fm.2.2.1 j (by omega)
  have hC : ∀ b, 82 ≤ b → Mc'.1 b = Mc.1 b := fun b hb => fc.2 b (by omega) (by omega)
  have hC0 : ∀ b, b < 4 → Mc'.1 b = Mc.1 b := fun b hb => fc.2 b (by omega) (by omega)
  have ag1 : Ag (Mm.1 1) (Mm'.1 1) := fun j hj => (hi0 j (by omega)).symm
  have e82 : rK Mc' 82 = rK Mc 82 := rK_congr (fun k _ _ => by rw [hC 82 (by omega)]) (fun i _ => by rw [hC (82 + 2) (by omega)]) (fun f k _ _ => by rw [hC (82 + 5 + f) (by omega)])
  obtain ⟨lwf, w1, w2, w3, w4⟩ := id lw
  have hne : ∀ t, t < nt' → ∀ a, Mc.2 11 t = some a → a ≠ c := fun t ht a e ec => by
    have e1 := (w1 t (by omega)).symm.trans e
    have e2 := w2.symm.trans h46
    injection e1 with e1
    injection e2 with e2
    have := w4 t 14 (by omega) (by omega) (by rw [e1, e2, ec])
    omega
  refine ⟨fc.pc pc, fm.pm pm, by unfold LW; rw [fc.1]; exact lw, fun j hj => by rw [hi0 j (by omega), e82]; exact ag j hj, ⟨n, hi.ag ag1⟩, ⟨nt', ⟨tx.1, (hi0 1 (by omega)).trans hnt, tx.par hc hne (fun b b1 b2 b3 => fc.2 b b2 b3) (fun t _ => by rw [fc.1]) (fun j _ j2 => hi0 j j2)⟩, ct.congr (fun k _ => by rw [hC (82 + 4) (by omega)]) (fun t ht => hi0 _ (by omega)), im.par (Nat.le_refl _) (by rw [hC0 0 (by omega)]) (fun b b1 _ => hC b (by omega)) (fm.2.2.2 3 (by omega)) (fm.2.1 2 (by decide) (by decide)) (fun j _ j2 => hi0 j j2)⟩, sh.congr (fun b _ _ => hC b (by omega)) (fm.2.1 4 (by decide) (by decide)) (fm.2.1 5 (by decide) (by decide)) (fm.2.1 6 (by decide) (by decide)), sl.congr (fun b _ _ => hC b (by omega)) (fun b _ _ => fm.2.1 b (by omega) (by omega)), ⟨0, by omega, by rw [l1, nI_0], by rw [l2, nI_0], fun i hi => by omega⟩, wt.congr (by rw [hC0 0 (by omega)]) (hC0 3 (by omega)) (fm.2.2.2 33 (by omega)) (fm.2.1 19 (by decide) (by decide)), sy.1.of (fun i hi => hi0 _ (by omega)), ?_⟩
  rw [fm.2.2.2 3 (by omega), fm.2.1 2 (by decide) (by decide)]
  exact sy.2
end
