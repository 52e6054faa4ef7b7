/-! the steps that both lay -/
abbrev wM (base : Nat) (M : ctM) : Nat → Int32 := fun k => M.1 1 (base + 2 * k)
abbrev vM (base : Nat) (M : ctM) : Nat → Int32 := fun k => M.1 1 (base + 2 * k + 1)
def Cst (B : Nat → Nat) (len key c base : Nat) (Mc0 Mm0 : ctM) : Prop := PC Mc0 ∧ PM Mm0 ∧ isLaw c ∧ Mc0.2 4 6 = some c ∧ base + 192 ≤ 3070 ∧ 70 ≤ base ∧ key < 3 ∧ len ≤ 96
def FRc (c : Nat) (Mc0 Mc : ctM) : Prop := Mc.2 = Mc0.2 ∧ ∀ b, b ≠ 4 → ¬ (c ≤ b ∧ b < c + 4) → Mc.1 b = Mc0.1 b
def FRm (base : Nat) (Mm0 Mm : ctM) : Prop := Mm.2 = Mm0.2 ∧ (∀ b, b ≠ 0 → b ≠ 1 → Mm.1 b = Mm0.1 b) ∧ (∀ j, j < base ∨ base + 192 ≤ j → Mm.1 1 j = Mm0.1 1 j) ∧ ∀ k, k < 18 ∨ 29 ≤ k → Mm.1 0 k = Mm0.1 0 k
def CL (key c : Nat) (Mc0 Mc : ctM) (m : Nat) (le : Int32) : Prop := FRc c Mc0 Mc ∧ Mc.1 4 5 = -1 ∧ Mc.1 c 0 = nI key ∧ Mc.1 c 1 = le ∧ Mc.1 c 2 = nI m
def ML (base : Nat) (Mm0 Mm : ctM) (m : Nat) (le : Int32) (o t : Nat) : Prop := FRm base Mm0 Mm ∧ Mm.1 0 24 = nI o ∧ Mm.1 0 25 = nI t ∧ Mm.1 0 26 = nI m ∧ Mm.1 0 27 = nI base ∧ Mm.1 0 28 = le
def PG (key c base : Nat) (Mc Mm : ctM) (m : Nat) : Prop := PrOk key (wM base Mm) (vM base Mm) (Mc.1 (c + 1)) (Mc.1 (c + 2)) (Mc.1 (c + 3)) m
def PS (B : Nat → Nat) (len key c base : Nat) (Mc0 Mm0 Mc Mm : ctM) (st en m o t : Nat) : Prop := TB B len Mc Mm ∧ TS B len Mc Mm st en ∧ (∃ le, CL key c Mc0 Mc m le ∧ ML base Mm0 Mm m le o t) ∧ PG key c base Mc Mm m ∧ m ≤ st
theorem stk_congr {w v w' v' : Nat → Int32} : ∀ m, (∀ k, k < m → w' k = w k ∧ v' k = v k) → stkS w' v' m = stkS w v m := by
  intro m
  induction m with
  | zero => intro _; rfl
  | succ m ih =>
    intro h
    obtain ⟨h1, h2⟩ := h m (by omega)
    simp only [stkS, h1, h2, ih (fun k hk => h k (by omega))]
theorem PrOk.congr {key m : Nat} {w v a l r w' v' a' l' r' : Nat → Int32} (p : PrOk key w v a l r m) (h : ∀ k, k < m → w' k = w k ∧ v' k = v k) (h2 : ∀ k, k < m → a' k = a k ∧ l' k = l k ∧ r' k = r k) : PrOk key w' v' a' l' r' m := by
  intro k hk
  have := p k hk
  unfold StOk at this ⊢
  rw [(h k hk).1, (h k hk).2, (h2 k hk).1, (h2 k hk).2.1, (h2 k hk).2.2, stk_congr k (fun j hj => h j (by omega))]
  exact this
theorem PrOk.snoc {key m : Nat} {w v a l r : Nat → Int32} (p : PrOk key w v a l r m) (h : StOk key w v a l r m (stkS w v m)) : PrOk key w v a l r (m + 1) := by
  intro k hk
  by_cases e : k = m
  · subst e; exact h
  · exact p k (by omega)
section
variable {B : Nat → Nat} {len key c base : Nat} {Mc0 Mm0 Mc Mm Mc' Mm' : ctM} {st en m o t : Nat} {le : Int32}
theorem FRc.pc (h : FRc c Mc0 Mc) (p : PC Mc0) : PC Mc := p.of2 h.1
theorem FRm.pm (h : FRm base Mm0 Mm) (p : PM Mm0) : PM Mm := fun k hk => by rw [h.1]; exact p k hk
theorem FRc.tf (h : FRc c Mc0 Mc) (f : TF Mc Mc') : FRc c Mc0 Mc' := ⟨f.1.trans h.1, fun b h4 hb => (f.2.1 b h4).trans (h.2 b h4 hb)⟩
theorem FRm.tg (h : FRm base Mm0 Mm) (f : TG Mm Mm') : FRm base Mm0 Mm' := ⟨f.1.trans h.1, fun b h0 h1 => (f.2.1 b h0).trans (h.2.1 b h0 h1), fun j hj => by rw [f.2.1 1 (by decide)]; exact h.2.2.1 j hj, fun k hk => (f.2.2 k (by omega)).trans (h.2.2.2 k hk)⟩
theorem law_ne4 (h : isLaw c) : 6 ≤ c ∧ c < 82 := by rcases h with h | h <;> omega
theorem CL.tf (hc : isLaw c) (h : CL key c Mc0 Mc m le) (f : TF Mc Mc') : CL key c Mc0 Mc' m le := by
  have := law_ne4 hc
  exact ⟨h.1.tf f, (f.2.2 5 (by omega)).trans h.2.1, by rw [f.2.1 c (by omega)]; exact h.2.2.1, by rw [f.2.1 c (by omega)]; exact h.2.2.2.1, by rw [f.2.1 c (by omega)]; exact h.2.2.2.2⟩
theorem ML.tg (h : ML base Mm0 Mm m le o t) (f : TG Mm Mm') : ML base Mm0 Mm' m le o t := ⟨h.1.tg f, (f.2.2 24 (by omega)).trans h.2.1, (f.2.2 25 (by omega)).trans h.2.2.1, (f.2.2 26 (by omega)).trans h.2.2.2.1, (f.2.2 27 (by omega)).trans h.2.2.2.2.1, (f.2.2 28 (by omega)).trans h.2.2.2.2.2⟩
theorem PG.of (h : PG key c base Mc Mm m) (h1 : ∀ j, j < 2 * m → Mm'.1 1 (base + j) = Mm.1 1 (base + j)) (h2 : ∀ k, k < m → Mc'.1 (c + 1) k = Mc.1 (c + 1) k ∧ Mc'.1 (c + 2) k = Mc.1 (c + 2) k ∧ Mc'.1 (c + 3) k = Mc.1 (c + 3) k) : PG key c base Mc' Mm' m := PrOk.congr h (fun k hk => ⟨h1 (2 * k) (by omega), h1 (2 * k + 1) (by omega)⟩) h2
theorem stk_of (h1 : ∀ j, j < 2 * m → Mm'.1 1 (base + j) = Mm.1 1 (base + j)) : stkS (wM base Mm') (vM base Mm') m = stkS (wM base Mm) (vM base Mm) m := stk_congr m (fun k hk => ⟨h1 (2 * k) (by omega), h1 (2 * k + 1) (by omega)⟩)
/-- the class lays a step -/
def cLay (c : Nat) (M : ctM) (m : Nat) (act lf rt : Int32) : ctM := ctI (ctI (ctI (ctI M (c + 1) m act) (c + 2) m lf) (c + 3) m rt) c 2 (nI (m + 1))
def mLay (base : Nat) (M : ctM) (m : Nat) (wh v : Int32) : ctM := ctI (ctI (ctI M 1 (base + 2 * m) wh) 1 (base + 2 * m + 1) v) 0 26 (nI (m + 1))
theorem c_put (p : PC Mc) (hc : isLaw c) (h2 : Mc.1 c 2 = nI m) (hm : m < 96) (act lf rt : Int32) : fX1_put c act lf rt Mc = some (nI m, cLay c Mc m act lf rt) := by
  have kc := kC_law hc
  obtain ⟨p3, p4, p5, _⟩ := p.2.2.2.2 c hc
  have g3 : gP kdC 1 3 c Mc = some (c + 1) := (gP_at kc.1).trans p3
  have g4 : ∀ M : ctM, M.2 = Mc.2 → gP kdC 1 4 c M = some (c + 2) := fun M e => (gP_at kc.1).trans (by rw [e]; exact p4)
  have g5 : ∀ M : ctM, M.2 = Mc.2 → gP kdC 1 5 c M = some (c + 3) := fun M e => (gP_at kc.1).trans (by rw [e]; exact p5)
  have gg : ∀ M : ctM, gI kdC 1 2 c M = some (M.1 c 2) := fun M => gI_at kc.1
  have pp : ∀ (M : ctM) (v : Int32), pI kdC 1 2 c v M = some (ctI M c 2 v) := fun M v => pI_at kc.1
  have s3 : ∀ (M : ctM) (v : Int32), sI kdC lnC 9 (c + 1) (nI m) v M = some (ctI M (c + 1) m v) := fun M v => sI_at (n := 96) kc.2.1 kc.2.2.1 hm (by decide)
  have s4 : ∀ (M : ctM) (v : Int32), sI kdC lnC 9 (c + 2) (nI m) v M = some (ctI M (c + 2) m v) := fun M v => sI_at (n := 96) kc.2.2.2.1 kc.2.2.2.2.1 hm (by decide)
  have s5 : ∀ (M : ctM) (v : Int32), sI kdC lnC 9 (c + 3) (nI m) v M = some (ctI M (c + 3) m v) := fun M v => sI_at (n := 96) kc.2.2.2.2.2.1 kc.2.2.2.2.2.2.1 hm (by decide)
  unfold fX1_put cLay
  rw [g3, bS, gg, bS, h2, s3, bS, g4 (ctI Mc (c + 1) m act) rfl, bS, gg, bS, ctI_ne (by omega), h2, s4, bS, g5 (ctI (ctI Mc (c + 1) m act) (c + 2) m lf) rfl, bS, gg, bS, ctI_ne (by omega), ctI_ne (by omega), h2, s5, bS, gg, bS, ctI_ne (by omega), ctI_ne (by omega), ctI_ne (by omega), h2, pp, bS, gg, bS, ctI_1, va_up_eq', nI_1, nI_pred]
theorem cLay_fr (hc : isLaw c) {act lf rt : Int32} (h : CL key c Mc0 Mc m le) : CL key c Mc0 (cLay c Mc m act lf rt) (m + 1) le := by
  have l4 := law_ne4 hc
  unfold cLay
  refine ⟨⟨h.1.1, fun b h4 hb => ?_⟩, ?_, ?_, ?_, ?_⟩
  · rw [ctI_ne (by omega), ctI_ne (by omega), ctI_ne (by omega), ctI_ne (by omega)]; exact h.1.2 b h4 hb
  · rw [ctI_ne (by omega), ctI_ne (by omega), ctI_ne (by omega), ctI_ne (by omega)]; exact h.2.1
  · rw [ctI_1, va_up_ne' (by decide), ctI_ne (by omega), ctI_ne (by omega), ctI_ne (by omega)]; exact h.2.2.1
  · rw [ctI_1, va_up_ne' (by decide), ctI_ne (by omega), ctI_ne (by omega), ctI_ne (by omega)]; exact h.2.2.2.1
  · rw [ctI_1, va_up_eq']
theorem cLay_at {act lf rt : Int32} : (cLay c Mc m act lf rt).1 (c + 1) = va_up (Mc.1 (c + 1)) m act ∧ (cLay c Mc m act lf rt).1 (c + 2) = va_up (Mc.1 (c + 2)) m lf ∧ (cLay c Mc m act lf rt).1 (c + 3) = va_up (Mc.1 (c + 3)) m rt := by
  unfold cLay
  refine ⟨?_, ?_, ?_⟩
  · rw [ctI_ne (by omega), ctI_ne (by omega), ctI_ne (by omega), ctI_1]
  · rw [ctI_ne (by omega), ctI_ne (by omega), ctI_1, ctI_ne (by omega)]
  · rw [ctI_ne (by omega), ctI_1, ctI_ne (by omega), ctI_ne (by omega)]
theorem cLay_lo (hc : isLaw c) {act lf rt : Int32} {b : Nat} (hb : b < 6) : (cLay c Mc m act lf rt).1 b = Mc.1 b := by
  have l4 := law_ne4 hc
  unfold cLay
  rw [ctI_ne (by omega), ctI_ne (by omega), ctI_ne (by omega), ctI_ne (by omega)]
theorem m_lay (p : PM Mm) (h26 : Mm.1 0 26 = nI m) (h27 : Mm.1 0 27 = nI base) (hb : base + 192 ≤ 3070) (hm : m < 96) (wh v : Int32) : fX7_step 0 wh v Mm = some (mLay base Mm m wh v) := by
  have e1 : nI base + 2 * nI m = nI (base + 2 * m) := by rw [nI_two, nI_add]
  have p2 : ∀ (j : Nat) (v : Int32), PM (ctI Mm 1 j v) := fun _ _ => p
  unfold fX7_step mLay
  rw [gM0 p, bS, m_g0, bS, h27, m_g0, bS, h26, e1, m_ss (by omega), bS, gM0 (p2 _ _), bS, m_g0, bS, ctI_ne (by decide), h27, m_g0, bS, ctI_ne (by decide), h26, e1, nI_1, m_ss (by omega), bS, m_g0, bS, ctI_ne (by decide), ctI_ne (by decide), h26, m_p0, bS, nI_1]
theorem mLay_fr {wh v : Int32} (hm : m < 96) (h : ML base Mm0 Mm m le o t) : ML base Mm0 (mLay base Mm m wh v) (m + 1) le o t := by
  unfold mLay
  refine ⟨⟨h.1.1, fun b h0 h1 => ?_, fun j hj => ?_, fun k hk => ?_⟩, ?_, ?_, ?_, ?_, ?_⟩
  · rw [ctI_ne h0, ctI_ne h1, ctI_ne h1]; exact h.1.2.1 b h0 h1
  · rw [ctI_ne (by decide), ctI_1, va_up_ne' (by omega), ctI_1, va_up_ne' (by omega)]; exact h.1.2.2.1 j hj
  · rw [ctI_1, va_up_ne' (by omega), ctI_ne (by decide), ctI_ne (by decide)]; exact h.1.2.2.2 k hk
  · rw [ctI_1, va_up_ne' (by decide), ctI_ne (by decide), ctI_ne (by decide)]; exact h.2.1
  · rw [ctI_1, va_up_ne' (by decide), ctI_ne (by decide), ctI_ne (by decide)]; exact h.2.2.1
  · rw [ctI_1, va_up_eq']
  · rw [ctI_1, va_up_ne' (by decide), ctI_ne (by decide), ctI_ne (by decide)]; exact h.2.2.2.2.1
  · rw [ctI_1, va_up_ne' (by decide), ctI_ne (by decide), ctI_ne (by decide)]; exact h.2.2.2.2.2
theorem mLay_at {wh v : Int32} : (∀ j, j < 2 * m → (mLay base Mm m wh v).1 1 (base + j) = Mm.1 1 (base + j)) ∧ wM base (mLay base Mm m wh v) m = wh ∧ vM base (mLay base Mm m wh v) m = v := by
  unfold mLay
  refine ⟨fun j hj => ?_, ?_, ?_⟩
  · rw [ctI_ne (by decide), ctI_1, va_up_ne' (by omega), ctI_1, va_up_ne' (by omega)]
  · show (ctI _ 0 26 _).1 1 (base + 2 * m) = wh
    rw [ctI_ne (by decide), ctI_1, va_up_ne' (by omega), ctI_1, va_up_eq']
  · show (ctI _ 0 26 _).1 1 (base + 2 * m + 1) = v
    rw [ctI_ne (by decide), ctI_1, va_up_eq']
theorem mLay_tk {wh v : Int32} : (∀ b, b ≠ 0 → b ≠ 1 → (mLay base Mm m wh v).1 b = Mm.1 b) ∧ ∀ k, k ≠ 26 → (mLay base Mm m wh v).1 0 k = Mm.1 0 k := by
  unfold mLay
  exact ⟨fun b h0 h1 => by rw [ctI_ne h0, ctI_ne h1, ctI_ne h1], fun k hk => by rw [ctI_1, va_up_ne' hk, ctI_ne (by decide), ctI_ne (by decide)]⟩
/-- the step that both laid is one -/
theorem lay_pg {wh v act lf rt : Int32} (h : PG key c base Mc Mm m) (ok : ∀ w' v' a' l' r' : Nat → Int32, w' m = wh → v' m = v → a' m = act → l' m = lf → r' m = rt → StOk key w' v' a' l' r' m (stkS (wM base Mm) (vM base Mm) m)) : PG key c base (cLay c Mc m act lf rt) (mLay base Mm m wh v) (m + 1) := by
  obtain ⟨a1, a2, a3⟩ := cLay_at (c := c) (Mc := Mc) (m := m) (act := act) (lf := lf) (rt := rt)
  obtain ⟨b1, b2, b3⟩ := mLay_at (base := base) (Mm := Mm) (m := m) (wh := wh) (v := v)
  have h2 : PG key c base (cLay c Mc m act lf rt) (mLay base Mm m wh v) m := h.of b1 (fun k hk => by rw [a1, a2, a3, va_up_ne' (by omega), va_up_ne' (by omega), va_up_ne' (by omega)]; exact ⟨rfl, rfl, rfl⟩)
  refine PrOk.snoc h2 ?_
  rw [stk_of b1]
  exact ok _ _ _ _ _ b2 b3 (by rw [a1, va_up_eq']) (by rw [a2, va_up_eq']) (by rw [a3, va_up_eq'])
end
