/-! both memories side by side -/
def LW (M : ctM) : Prop := ∃ lw : Nat → Nat, (∀ t, t < 14 → M.2 11 t = some (lw t)) ∧ M.2 4 6 = some (lw 14) ∧ (∀ t, t < 15 → isLaw (lw t)) ∧ ∀ s t, s < 15 → t < 15 → lw s = lw t → s = t
/-- the texts of a row of numbers S are the laws of the class -/
def TxS (Mc : ctM) (S : Kv) (nt : Nat) : Prop := nt ≤ 14 ∧ S 1 = nI nt ∧ ∀ t, t < nt → ∃ (key : Nat) (g : Int32 → Int32 → Int32 → Int32) (a : Nat), key < 3 ∧ S (70 + 200 * t) = nI key ∧ Mc.2 11 t = some a ∧ isLaw a ∧ Mc.1 a 0 = nI key ∧ Mc.1 a 1 = S (71 + 200 * t) ∧ LawOk Mc a g ∧ TextOk key t S g
def CtS (Mc : ctM) (r : Nat) (S : Kv) (nt : Nat) : Prop := ∀ key, key < 3 → Mc.1 (r + 4) key = cntS (kfS S) (nI key) nt
def ImS (Mc Mm : ctM) (nt : Nat) : Prop := (Mc.1 0 4 = 0 ∧ Mm.1 0 3 = 0) ∨ (Mc.1 0 4 = 1 ∧ Mm.1 0 3 = 1 ∧ Ag (Mm.1 2) (rK Mc 108) ∧ (∃ n, Inv (Mm.1 2) n) ∧ ∃ ni, ni ≤ nt ∧ Mm.1 2 1 = nI ni ∧ CtS Mc 108 (Mm.1 2) ni ∧ ∀ t, t < ni → ∀ j, 70 + 200 * t ≤ j → j < 270 + 200 * t → Mm.1 2 j = Mm.1 1 j)
def ShS (Mc Mm : ctM) : Prop := ∀ i, i < 4 → Mc.1 (121 + 2 * i) 0 = Mm.1 4 i ∧ Mc.1 (121 + 2 * i) 1 = Mm.1 5 i ∧ (Mm.1 4 i = -1 ∨ Mm.1 4 i = 0 ∨ Mm.1 4 i = 1) ∧ rg (Mm.1 5 i) 0 25 ∧ ∀ k, k < 24 → Mc.1 (122 + 2 * i) k = Mm.1 6 (24 * i + k)
def SlS (Mc Mm : ctM) : Prop := ∀ i, i < 5 → Mc.1 (129 + 4 * i) 0 = Mm.1 7 i ∧ rg (Mm.1 7 i) 0 4 ∧ (Mm.1 7 i = 1 → Mc.1 (130 + 4 * i) 0 = Mm.1 8 i ∧ Mm.1 9 i = kWorth (Mc.1 (130 + 4 * i) 0) (Mc.1 (130 + 4 * i) 3)) ∧ (Mm.1 7 i = 2 → Mc.1 (131 + 4 * i) 1 = Mm.1 10 i ∧ rg (Mm.1 10 i) 0 25 ∧ ∀ k, k < 24 → Mc.1 (132 + 4 * i) k = Mm.1 11 (24 * i + k)) ∧ (Mm.1 7 i = 3 → Mc.1 (129 + 4 * i) 3 = Mm.1 8 i)
/-- a byte as the class holds it -/
def sxB (b : Nat) : Int32 := if b < 128 then nI b else nI b - 256
def TpS (Mc Mm : ctM) : Prop := ∃ len, len ≤ 96 ∧ Mc.1 4 1 = nI len ∧ Mm.1 0 18 = nI len ∧ ∀ i, i < len → ∃ b, b < 256 ∧ Mm.1 15 i = nI b ∧ Mc.1 5 i = sxB b
def WtS (Mc Mm : ctM) : Prop := ∃ w, w ≤ 60 ∧ Mc.1 0 8 = nI w ∧ Mm.1 0 33 = nI w ∧ ∀ i, i < w → Mc.1 3 i = Mm.1 19 i
/-- glass stands between two -/
def Sy (K : Kv) : Prop := ∀ f g, f < 8 → g < 8 → gbS (K (6 + f)) g = gbS (K (6 + g)) f
theorem Sy.of {A B : Kv} (h : Sy A) (e : ∀ i, i < 8 → B (6 + i) = A (6 + i)) : Sy B := fun f g hf hg => by rw [e f hf, e g hg]; exact h f g hf hg
theorem Sy.up {A : Kv} {j : Nat} {v : Int32} (h : Sy A) (hj : j < 6 ∨ 14 ≤ j) : Sy (va_up A j v) := h.of (fun i hi => va_up_ne' (by omega))
def SyS (Mm : ctM) : Prop := Sy (Mm.1 1) ∧ (Mm.1 0 3 = 1 → Sy (Mm.1 2))
def Sim (Mc Mm : ctM) : Prop := PC Mc ∧ PM Mm ∧ LW Mc ∧ Ag (Mm.1 1) (rK Mc 82) ∧ (∃ n, Inv (Mm.1 1) n) ∧ (∃ nt, TxS Mc (Mm.1 1) nt ∧ CtS Mc 82 (Mm.1 1) nt ∧ ImS Mc Mm nt) ∧ ShS Mc Mm ∧ SlS Mc Mm ∧ TpS Mc Mm ∧ WtS Mc Mm ∧ SyS Mm
section
variable {Mc Mm Mc' Mm' : ctM}
theorem LawOk.congr {a : Nat} {g : Int32 → Int32 → Int32 → Int32} (h : LawOk Mc a g) (hc : ∀ b, a ≤ b → b < a + 4 → Mc'.1 b = Mc.1 b) : LawOk Mc' a g := fun N p q => h N p (fun b b1 b2 => (q b b1 b2).trans (hc b b1 b2))
theorem TextOk.congr {key t : Nat} {S S' : Kv} {g : Int32 → Int32 → Int32 → Int32} (h : TextOk key t S g) (hc : ∀ j, 70 + 200 * t ≤ j → j < 270 + 200 * t → S' j = S j) : TextOk key t S' g := fun N p q => h N p (fun j a b => (q j a b).trans (hc j a b))
theorem law_low {a b : Nat} (ha : isLaw a) (h1 : a ≤ b) (h2 : b < a + 4) : ¬ isGv b ∧ b < 82 ∧ 6 ≤ b ∧ b ≠ 11 := by rcases ha with h | h <;> omega
theorem TxS.congr {S S' : Kv} {nt : Nat} (h : TxS Mc S nt) (h2 : Mc'.2 = Mc.2) (hc : ∀ b, 6 ≤ b → b < 82 → ¬ isGv b → Mc'.1 b = Mc.1 b) (hs : ∀ j, j = 1 ∨ 70 ≤ j → S' j = S j) : TxS Mc' S' nt := by
  obtain ⟨h1, h3, h4⟩ := h
  refine ⟨h1, (hs 1 (Or.inl rfl)).trans h3, fun t ht => ?_⟩
  obtain ⟨key, g, a, a1, a2, a3, a4, a5, a6, a7, a8⟩ := h4 t ht
  have hl := law_low a4 (Nat.le_refl a) (by omega)
  refine ⟨key, g, a, a1, (hs _ (Or.inr (by omega))).trans a2, by rw [h2]; exact a3, a4, ?_, ?_, a7.congr (fun b b1 b2 => ?_), a8.congr (fun j b1 b2 => hs j (Or.inr (by omega)))⟩
  · rw [hc a hl.2.2.1 hl.2.1 hl.1]; exact a5
  · rw [hc a hl.2.2.1 hl.2.1 hl.1, hs _ (Or.inr (by omega))]; exact a6
  · have hl := law_low a4 b1 b2
    exact hc b hl.2.2.1 hl.2.1 hl.1
theorem CtS.congr {r r' nt : Nat} {S S' : Kv} (h : CtS Mc r S nt) (hc : ∀ k, k < 3 → Mc'.1 (r' + 4) k = Mc.1 (r + 4) k) (hs : ∀ t, t < nt → S' (70 + 200 * t) = S (70 + 200 * t)) : CtS Mc' r' S' nt := fun key hk => by
  rw [hc key hk, h key hk]
  exact (cntS_congr nt (fun t ht => hs t ht)).symm
/-- the frame of what works on the flames and in thought -/
theorem Sim.upd (h : Sim Mc Mm) (c2 : Mc'.2 = Mc.2) (m2 : Mm'.2 = Mm.2) (cc : ∀ b, ¬ isGv b → b < 82 ∨ 108 ≤ b ∨ b = 86 → Mc'.1 b = Mc.1 b) (mm : ∀ b, 2 ≤ b → b ≠ 3 → b ≠ 12 → b ≠ 13 → b ≠ 14 → b ≠ 16 → b ≠ 17 → b ≠ 18 → b ≠ 20 → Mm'.1 b = Mm.1 b) (m0 : ∀ k, k ≠ 14 → k ≠ 15 → Mm'.1 0 k = Mm.1 0 k) (ag : Ag (Mm'.1 1) (rK Mc' 82)) (inv : ∃ n, Inv (Mm'.1 1) n) (tx : ∀ j, j = 1 ∨ 70 ≤ j → Mm'.1 1 j = Mm.1 1 j) (sy : Sy (Mm'.1 1)) : Sim Mc' Mm' := by
  obtain ⟨a1, a2, a3, _, _, ⟨nt, b1, b2, b3⟩, b4, b5, b6, b7, b8⟩ := h
  have hc : ∀ b, b < 10 ∨ 108 ≤ b → Mc'.1 b = Mc.1 b := fun b hb => cc b (by omega) (by omega)
  refine ⟨a1.of2 c2, fun k hk => by rw [m2]; exact a2 k hk, ?_, ag, inv, ⟨nt, b1.congr c2 (fun b _ x y => cc b y (Or.inl x)) tx, b2.congr (fun k _ => by rw [cc 86 (by decide) (Or.inr (Or.inr rfl))]) (fun t _ => tx _ (Or.inr (by omega))), ?_⟩, ?_, ?_, ?_, ?_, sy, ?_⟩
  · unfold LW; rw [c2]; exact a3
  · unfold ImS at b3 ⊢
    rw [hc 0 (by omega), m0 3 (by decide) (by decide), mm 2 (by decide) (by decide) (by decide) (by decide) (by decide) (by decide) (by decide) (by decide) (by decide), show rK Mc' 108 = rK Mc 108 from rK_congr (fun k _ _ => by rw [hc 108 (by omega)]) (fun i _ => by rw [hc (108 + 2) (by omega)]) (fun f k _ _ => by rw [hc (108 + 5 + f) (by omega)])]
    rcases b3 with e | ⟨e1, e2, e3, e4, ni, e5, e6, e7, e8⟩
    · exact Or.inl e
    · refine Or.inr ⟨e1, e2, e3, e4, ni, e5, e6, e7.congr (fun k _ => by rw [hc (108 + 4) (by omega)]) (fun _ _ => rfl), fun t ht j j1 j2 => ?_⟩
      rw [tx j (Or.inr (by omega))]
      exact e8 t ht j j1 j2
  · intro i hi
    rw [hc (121 + 2 * i) (by omega), hc (122 + 2 * i) (by omega), mm 4 (by decide) (by decide) (by decide) (by decide) (by decide) (by decide) (by decide) (by decide) (by decide), mm 5 (by decide) (by decide) (by decide) (by decide) (by decide) (by decide) (by decide) (by decide) (by decide), mm 6 (by decide) (by decide) (by decide) (by decide) (by decide) (by decide) (by decide) (by decide) (by decide)]
    exact b4 i hi
  · intro i hi
    rw [hc (129 + 4 * i) (by omega), hc (130 + 4 * i) (by omega), hc (131 + 4 * i) (by omega), hc (132 + 4 * i) (by omega), mm 7 (by decide) (by decide) (by decide) (by decide) (by decide) (by decide) (by decide) (by decide) (by decide), mm 8 (by decide) (by decide) (by decide) (by decide) (by decide) (by decide) (by decide) (by decide) (by decide), mm 9 (by decide) (by decide) (by decide) (by decide) (by decide) (by decide) (by decide) (by decide) (by decide), mm 10 (by decide) (by decide) (by decide) (by decide) (by decide) (by decide) (by decide) (by decide) (by decide), mm 11 (by decide) (by decide) (by decide) (by decide) (by decide) (by decide) (by decide) (by decide) (by decide)]
    exact b5 i hi
  · obtain ⟨len, l1, l2, l3, l4⟩ := b6
    refine ⟨len, l1, by rw [hc 4 (by omega)]; exact l2, by rw [m0 18 (by decide) (by decide)]; exact l3, fun i hi => ?_⟩
    rw [hc 5 (by omega), mm 15 (by decide) (by decide) (by decide) (by decide) (by decide) (by decide) (by decide) (by decide) (by decide)]
    exact l4 i hi
  · obtain ⟨w, l1, l2, l3, l4⟩ := b7
    refine ⟨w, l1, by rw [hc 0 (by omega)]; exact l2, by rw [m0 33 (by decide) (by decide)]; exact l3, fun i hi => ?_⟩
    rw [hc 3 (by omega), mm 19 (by decide) (by decide) (by decide) (by decide) (by decide) (by decide) (by decide) (by decide) (by decide)]
    exact l4 i hi
  · rw [m0 3 (by decide) (by decide), mm 2 (by decide) (by decide) (by decide) (by decide) (by decide) (by decide) (by decide) (by decide) (by decide)]
    exact b8.2
theorem Sim.sy (h : Sim Mc Mm) : Sy (Mm.1 1) := h.2.2.2.2.2.2.2.2.2.2.1
theorem cntS_cases {kf : Nat → Int32} {key : Int32} : ∀ nt, cntS kf key nt = -1 ∨ ∃ t, t < nt ∧ cntS kf key nt = nI t ∧ kf t = key := by
  intro nt
  induction nt with
  | zero => exact Or.inl rfl
  | succ t ih =>
    by_cases h : kf t = key
    · exact Or.inr ⟨t, by omega, by simp only [cntS, if_pos h], h⟩
    · simp only [cntS, if_neg h]
      rcases ih with e | ⟨u, u1, u2, u3⟩
      · exact Or.inl e
      · exact Or.inr ⟨u, by omega, u2, u3⟩
/-- texts that count, on both sides -/
theorem ev_of {S : Kv} {r nt : Nat} (ht : TxS Mc S nt) (hc : CtS Mc r S nt) : ∃ E, EvM S nt E ∧ EvC Mc r E := by
  obtain ⟨h1, h2, h3⟩ := ht
  have key : ∀ key, key < 3 → ∃ o : Option (Int32 → Int32 → Int32 → Int32), ((cntS (kfS S) (nI key) nt = -1 ∧ o = none) ∨ ∃ (t : Nat) (g : Int32 → Int32 → Int32 → Int32), t < nt ∧ cntS (kfS S) (nI key) nt = nI t ∧ o = some g ∧ TextOk key t S g) ∧ ((Mc.1 (r + 4) key = -1 ∧ o = none) ∨ ∃ (t : Nat) (g : Int32 → Int32 → Int32 → Int32) (a : Nat), t < 14 ∧ Mc.1 (r + 4) key = nI t ∧ o = some g ∧ Mc.2 11 t = some a ∧ isLaw a ∧ LawOk Mc a g) := by
    intro key hk
    rw [hc key hk]
    rcases cntS_cases (kf := kfS S) (key := nI key) nt with e | ⟨t, t1, t2, t3⟩
    · exact ⟨none, Or.inl ⟨e, rfl⟩, Or.inl ⟨e, rfl⟩⟩
    · obtain ⟨k2, g, a, a1, a2, a3, a4, a5, a6, a7, a8⟩ := h3 t t1
      have : k2 = key := by
        have := a2.symm.trans t3
        rw [nI_eq (by omega) (by omega)] at this
        exact this
      subst this
      exact ⟨some g, Or.inr ⟨t, g, t1, t2, rfl, a8⟩, Or.inr ⟨t, g, a, by omega, t2, rfl, a3, a4, a7⟩⟩
  obtain ⟨o0, p0⟩ := key 0 (by decide)
  obtain ⟨o1, p1⟩ := key 1 (by decide)
  obtain ⟨o2, p2⟩ := key 2 (by decide)
  refine ⟨fun k => if k = 0 then o0 else if k = 1 then o1 else o2, ⟨h1, h2, fun k hk => ?_⟩, fun k hk => ?_⟩
  · rcases (by omega : k = 0 ∨ k = 1 ∨ k = 2) with rfl | rfl | rfl
    · exact p0.1
    · exact p1.1
    · exact p2.1
  · rcases (by omega : k = 0 ∨ k = 1 ∨ k = 2) with rfl | rfl | rfl
    · exact p0.2
    · exact p1.2
    · exact p2.2
theorem Sim.ev (h : Sim Mc Mm) : ∃ nt E, EvM (Mm.1 1) nt E ∧ EvC Mc 82 E := by
  obtain ⟨_, _, _, _, _, ⟨nt, b1, b2, _⟩, _⟩ := h
  obtain ⟨E, e1, e2⟩ := ev_of b1 b2
  exact ⟨nt, E, e1, e2⟩
theorem EvC.room {r r' : Nat} {E : Ev} (h : EvC Mc r E) (h2 : Mc'.2 = Mc.2) (hc : ∀ k, k < 3 → Mc'.1 (r' + 4) k = Mc.1 (r + 4) k) (hl : ∀ b, b < 82 → ¬ isGv b → 6 ≤ b → Mc'.1 b = Mc.1 b) : EvC Mc' r' E := by
  intro key hk
  rw [hc key hk, h2]
  rcases h key hk with h | ⟨t, g, a, h1, h3, h4, h5, h6, h7⟩
  · exact Or.inl h
  · refine Or.inr ⟨t, g, a, h1, h3, h4, h5, h6, h7.congr (fun b b1 b2 => ?_)⟩
    have := law_low h6 b1 b2
    exact hl b this.2.1 this.1 this.2.2.1
end
