/-! a piece of a text -/
def Res (B : Nat → Nat) (len key c base : Nat) (Mc0 Mm0 Mm : ctM) (st m o t : Nat) (F G : Option (Int32 × ctM)) : Prop :=
  (∃ (Mc' Mm' : ctM) (st' en' m' : Nat), F = some (nI (m' - 1), Mc') ∧ G = some (1, Mm') ∧ PS B len key c base Mc0 Mm0 Mc' Mm' st' en' m' o t ∧ m < m' ∧ m' + st ≤ m + st' ∧ stkS (wM base Mm') (vM base Mm') m' = (m' - 1) :: stkS (wM base Mm) (vM base Mm) m ∧ ∀ j, j < 2 * m → Mm'.1 1 (base + j) = Mm.1 1 (base + j)) ∨
  (∃ (Mc' Mm' : ctM) (st' : Nat), F = some (-1, Mc') ∧ G = some (0, Mm') ∧ FRc c Mc0 Mc' ∧ FRm base Mm0 Mm' ∧ Mc'.1 4 5 = nI st' ∧ Mm'.1 0 19 = nI st' ∧ st' ≤ 96)
theorem nb_ne : ∀ b, b < 256 → ¬ nI b = -1 ∧ ¬ nI b = -2 ∧ ¬ nI b = -3 ∧ ¬ nI b = -4 := by decide +kernel
def isNa (key b : Nat) : Bool := (key == 0 && (b == 115 || b == 110)) || (key == 1 && (b == 100 || b == 112 || b == 115)) || (key == 2 && (b == 116 || b == 110))
section
variable {B : Nat → Nat} {len key c base : Nat} {Mc0 Mm0 Mc Mm Mc' Mm' M : ctM} {st en m o t : Nat} {le : Int32}
theorem tk_flag {so tk nu le : Int32} (hb : ∀ i, i < len → B i < 256) (h : Tk B len st en so tk nu le) (h1 : so = -3 → tk = 2) (h2 : ¬ so = -4) : (so = -2 ∨ so = -3) ↔ (0 < en ∧ (tk = 1 ∨ tk = 2)) := by
  rcases h with ⟨_, _, e1, e2⟩ | ⟨a1, _, e1, e2, _⟩ | ⟨a1, _, e1, _, e2, _⟩ | ⟨a1, _, e1, _, e2⟩ | ⟨_, _, e1, e2⟩ | ⟨a1, _, e1, e2, _, n1, n2⟩
  · rw [e1, e2]; exact ⟨fun z => absurd z (by decide), fun z => absurd z.2 (by decide)⟩
  · rw [e1, e2]; exact ⟨fun _ => ⟨by omega, Or.inl rfl⟩, fun _ => Or.inl rfl⟩
  · rw [e1, e2]; exact ⟨fun _ => ⟨by omega, Or.inr rfl⟩, fun _ => Or.inr rfl⟩
  · have := h1 e1; rw [e2] at this; exact absurd this (by decide)
  · exact absurd e1 h2
  · rw [e2]
    refine ⟨fun z => ?_, fun z => absurd z.2 (by decide)⟩
    rw [e1] at z
    have := nb_ne (B st) (hb st a1)
    rcases z with z | z
    · exact absurd z this.2.1
    · exact absurd z this.2.2.1
theorem tk_le {so tk nu le : Int32} (h : Tk B len st en so tk nu le) : st ≤ en ∧ en ≤ len ∧ st ≤ len := by
  rcases h with ⟨_, _, e1, e2⟩ | ⟨a1, _, e1, e2, _⟩ | ⟨a1, _, e1, _, e2, _⟩ | ⟨a1, _, e1, _, e2⟩ | ⟨_, _, e1, e2⟩ | ⟨a1, _, e1, e2, _, n1, n2⟩ <;> omega
/-- both go on, where the token is none that ends all -/
theorem ps_adv (cs : Cst B len key c base Mc0 Mm0) (h : PS B len key c base Mc0 Mm0 Mc Mm st en m o t) (h1 : Mc.1 4 4 = -3 → Mm.1 0 21 = 2) (h2 : ¬ Mc.1 4 4 = -4) : ∃ Mc' Mm' st' en', fX5_advance 4 Mc = some Mc' ∧ fX7_nextToken 0 Mm = some Mm' ∧ TF Mc Mc' ∧ TG Mm Mm' ∧ en ≤ st' ∧ PS B len key c base Mc0 Mm0 Mc' Mm' st' en' m o t := by
  obtain ⟨c1, c2, c3, _⟩ := cs
  obtain ⟨tb, ts, ⟨le, cl, ml⟩, pg, hm⟩ := h
  have hl := tk_le ts.2.2.2.2
  obtain ⟨Mc', Mm', st', en', a1, a2, a3, a4, a5, a6⟩ := adv tb (cl.1.pc c1) (ml.1.pm c2) hl.2.1 ts.2.1 ts.2.2.2.1 (tk_flag (fun i hi => (tb.2.2.2 i hi).1) ts.2.2.2.2 h1 h2)
  have l4 := law_ne4 c3
  exact ⟨Mc', Mm', st', en', a1, a2, a3, a4, a5, (tb.c a3).m a4, a6, ⟨le, cl.tf c3 a3, ml.tg a4⟩, pg.of (fun j _ => by rw [a4.2.1 1 (by decide)]) (fun k _ => by rw [a3.2.1 (c + 1) (by omega), a3.2.1 (c + 2) (by omega), a3.2.1 (c + 3) (by omega)]; exact ⟨rfl, rfl, rfl⟩), by omega⟩
theorem PS.f24 (o' : Nat) (h : PS B len key c base Mc0 Mm0 Mc Mm st en m o t) : PS B len key c base Mc0 Mm0 Mc (ctI Mm 0 24 (nI o')) st en m o' t := by
  obtain ⟨tb, ts, ⟨le, cl, ml⟩, pg, hm⟩ := h
  have e : ∀ k, k ≠ 24 → (ctI Mm 0 24 (nI o')).1 0 k = Mm.1 0 k := fun k hk => by rw [ctI_1, va_up_ne' hk]
  have e1 : ∀ b, b ≠ 0 → (ctI Mm 0 24 (nI o')).1 b = Mm.1 b := fun b hb => ctI_ne hb
  refine ⟨⟨tb.1, tb.2.1, (e 18 (by decide)).trans tb.2.2.1, fun i hi => by rw [e1 15 (by decide)]; exact tb.2.2.2 i hi⟩, ⟨ts.1, ts.2.1, (e 19 (by decide)).trans ts.2.2.1, (e 20 (by decide)).trans ts.2.2.2.1, by rw [e 21 (by decide), e 22 (by decide), e 23 (by decide)]; exact ts.2.2.2.2⟩, ⟨le, cl, ⟨ml.1.1, fun b h0 h1 => (e1 b h0).trans (ml.1.2.1 b h0 h1), fun j hj => by rw [e1 1 (by decide)]; exact ml.1.2.2.1 j hj, fun k hk => (e k (by omega)).trans (ml.1.2.2.2 k hk)⟩, by rw [ctI_1, va_up_eq'], (e 25 (by decide)).trans ml.2.2.1, (e 26 (by decide)).trans ml.2.2.2.1, (e 27 (by decide)).trans ml.2.2.2.2.1, (e 28 (by decide)).trans ml.2.2.2.2.2⟩, pg.of (fun j _ => by rw [e1 1 (by decide)]) (fun k _ => ⟨rfl, rfl, rfl⟩), hm⟩
theorem PS.f25 (t' : Nat) (h : PS B len key c base Mc0 Mm0 Mc Mm st en m o t) : PS B len key c base Mc0 Mm0 Mc (ctI Mm 0 25 (nI t')) st en m o t' := by
  obtain ⟨tb, ts, ⟨le, cl, ml⟩, pg, hm⟩ := h
  have e : ∀ k, k ≠ 25 → (ctI Mm 0 25 (nI t')).1 0 k = Mm.1 0 k := fun k hk => by rw [ctI_1, va_up_ne' hk]
  have e1 : ∀ b, b ≠ 0 → (ctI Mm 0 25 (nI t')).1 b = Mm.1 b := fun b hb => ctI_ne hb
  refine ⟨⟨tb.1, tb.2.1, (e 18 (by decide)).trans tb.2.2.1, fun i hi => by rw [e1 15 (by decide)]; exact tb.2.2.2 i hi⟩, ⟨ts.1, ts.2.1, (e 19 (by decide)).trans ts.2.2.1, (e 20 (by decide)).trans ts.2.2.2.1, by rw [e 21 (by decide), e 22 (by decide), e 23 (by decide)]; exact ts.2.2.2.2⟩, ⟨le, cl, ⟨ml.1.1, fun b h0 h1 => (e1 b h0).trans (ml.1.2.1 b h0 h1), fun j hj => by rw [e1 1 (by decide)]; exact ml.1.2.2.1 j hj, fun k hk => (e k (by omega)).trans (ml.1.2.2.2 k hk)⟩, (e 24 (by decide)).trans ml.2.1, by rw [ctI_1, va_up_eq'], (e 26 (by decide)).trans ml.2.2.2.1, (e 27 (by decide)).trans ml.2.2.2.2.1, (e 28 (by decide)).trans ml.2.2.2.2.2⟩, pg.of (fun j _ => by rw [e1 1 (by decide)]) (fun k _ => ⟨rfl, rfl, rfl⟩), hm⟩
/-- both lay one more step -/
theorem ps_lay (cs : Cst B len key c base Mc0 Mm0) (h : PS B len key c base Mc0 Mm0 Mc Mm st en m o t) (hm : m < st) (wh v act lf rt : Int32) (ok : ∀ w' v' a' l' r' : Nat → Int32, w' m = wh → v' m = v → a' m = act → l' m = lf → r' m = rt → StOk key w' v' a' l' r' m (stkS (wM base Mm) (vM base Mm) m)) : fX1_put c act lf rt Mc = some (nI m, cLay c Mc m act lf rt) ∧ fX7_step 0 wh v Mm = some (mLay base Mm m wh v) ∧ PS B len key c base Mc0 Mm0 (cLay c Mc m act lf rt) (mLay base Mm m wh v) st en (m + 1) o t := by
  obtain ⟨c1, c2, c3, _, c5, _, _, c8⟩ := cs
  obtain ⟨tb, ts, ⟨le, cl, ml⟩, pg, _⟩ := h
  have hl := tk_le ts.2.2.2.2
  have hm96 : m < 96 := by omega
  obtain ⟨e1, e⟩ := mLay_tk (base := base) (Mm := Mm) (m := m) (wh := wh) (v := v)
  refine ⟨c_put (cl.1.pc c1) c3 cl.2.2.2.2 hm96 _ _ _, m_lay (ml.1.pm c2) ml.2.2.2.1 ml.2.2.2.2.1 c5 hm96 _ _, ?_, ?_, ⟨le, cLay_fr c3 cl, mLay_fr hm96 ml⟩, lay_pg pg ok, by omega⟩
  · exact ⟨tb.1, by rw [cLay_lo c3 (by decide)]; exact tb.2.1, (e 18 (by decide)).trans tb.2.2.1, fun i hi => by rw [e1 15 (by decide) (by decide), cLay_lo c3 (by decide)]; exact tb.2.2.2 i hi⟩
  · exact ⟨by rw [cLay_lo c3 (by decide)]; exact ts.1, by rw [cLay_lo c3 (by decide)]; exact ts.2.1, (e 19 (by decide)).trans ts.2.2.1, (e 20 (by decide)).trans ts.2.2.2.1, by rw [e 21 (by decide), e 22 (by decide), e 23 (by decide), cLay_lo c3 (by decide)]; exact ts.2.2.2.2⟩
theorem stk_leaf {wh v : Int32} (hw : ¬ wh = 2) : stkS (wM base (mLay base Mm m wh v)) (vM base (mLay base Mm m wh v)) (m + 1) = m :: stkS (wM base Mm) (vM base Mm) m := by
  obtain ⟨b1, b2, b3⟩ := mLay_at (base := base) (Mm := Mm) (m := m) (wh := wh) (v := v)
  rw [stkS, b2, if_neg hw, stk_of b1]
theorem stk_not {τ : List Nat} {p : Nat} (hs : stkS (wM base Mm) (vM base Mm) m = p :: τ) : stkS (wM base (mLay base Mm m 2 33)) (vM base (mLay base Mm m 2 33)) (m + 1) = m :: τ := by
  obtain ⟨b1, b2, b3⟩ := mLay_at (base := base) (Mm := Mm) (m := m) (wh := 2) (v := 33)
  rw [stkS, b2, b3, if_pos rfl, if_pos rfl, stk_of b1, hs]
  rfl
theorem stk_op {τ : List Nat} {p q : Nat} {v : Int32} (hv : ¬ v = 33) (hs : stkS (wM base Mm) (vM base Mm) m = q :: p :: τ) : stkS (wM base (mLay base Mm m 2 v)) (vM base (mLay base Mm m 2 v)) (m + 1) = m :: τ := by
  obtain ⟨b1, b2, b3⟩ := mLay_at (base := base) (Mm := Mm) (m := m) (wh := 2) (v := v)
  rw [stkS, b2, b3, if_pos rfl, if_neg hv, stk_of b1, hs]
  rfl
/-- a leaf: the class goes on first, the model lays first -/
theorem ps_leaf (cs : Cst B len key c base Mc0 Mm0) (h : PS B len key c base Mc0 Mm0 Mc Mm st en m o t) (h1 : Mc.1 4 4 = -3 → Mm.1 0 21 = 2) (h2 : ¬ Mc.1 4 4 = -4) (hse : st < en) (wh v act lf : Int32) (hw : ¬ wh = 2) (ok : ∀ w' v' a' l' r' : Nat → Int32, w' m = wh → v' m = v → a' m = act → l' m = lf → r' m = 0 → StOk key w' v' a' l' r' m (stkS (wM base Mm) (vM base Mm) m)) : ∃ A Mc' A1 Mm' st' en', fX5_advance 4 Mc = some A ∧ A.2 4 6 = some c ∧ fX1_addLeaf c act lf A = some (nI m, Mc') ∧ fX7_step 0 wh v Mm = some A1 ∧ fX7_nextToken 0 (ctI A1 0 28 (A1.1 0 28 + 1)) = some Mm' ∧ PS B len key c base Mc0 Mm0 Mc' Mm' st' en' (m + 1) o t ∧ en ≤ st' ∧ stkS (wM base Mm') (vM base Mm') (m + 1) = m :: stkS (wM base Mm) (vM base Mm) m ∧ ∀ j, j < 2 * m → Mm'.1 1 (base + j) = Mm.1 1 (base + j) := by
  obtain ⟨c1, c2, c3, c4, c5, c6, c7, c8⟩ := id cs
  obtain ⟨tb, ts, ⟨le, cl, ml⟩, pg, hm⟩ := id h
  have hl := tk_le ts.2.2.2.2
  have hm96 : m < 96 := by omega
  have l4 := law_ne4 c3
  have kc := kC_law c3
  -- the model
  have stp := m_lay (ml.1.pm c2) ml.2.2.2.1 ml.2.2.2.2.1 c5 hm96 wh v
  have mlL := mLay_fr (wh := wh) (v := v) hm96 ml
  obtain ⟨e1, e⟩ := mLay_tk (base := base) (Mm := Mm) (m := m) (wh := wh) (v := v)
  obtain ⟨b1, b2, b3⟩ := mLay_at (base := base) (Mm := Mm) (m := m) (wh := wh) (v := v)
  have sl := stk_leaf (base := base) (Mm := Mm) (m := m) (v := v) hw
  generalize hA1 : mLay base Mm m wh v = A1 at *
  have f28 : ∀ k, k ≠ 28 → (ctI A1 0 28 (A1.1 0 28 + 1)).1 0 k = A1.1 0 k := fun k hk => by rw [ctI_1, va_up_ne' hk]
  have fb : ∀ b, b ≠ 0 → (ctI A1 0 28 (A1.1 0 28 + 1)).1 b = A1.1 b := fun b hb => ctI_ne hb
  have ml2 : ML base Mm0 (ctI A1 0 28 (A1.1 0 28 + 1)) (m + 1) (le + 1) o t := ⟨⟨mlL.1.1, fun b h0 h1 => (fb b h0).trans (mlL.1.2.1 b h0 h1), fun j hj => by rw [fb 1 (by decide)]; exact mlL.1.2.2.1 j hj, fun k hk => (f28 k (by omega)).trans (mlL.1.2.2.2 k hk)⟩, (f28 24 (by decide)).trans mlL.2.1, (f28 25 (by decide)).trans mlL.2.2.1, (f28 26 (by decide)).trans mlL.2.2.2.1, (f28 27 (by decide)).trans mlL.2.2.2.2.1, by rw [ctI_1, va_up_eq', mlL.2.2.2.2.2]⟩
  have tb2 : TB B len Mc (ctI A1 0 28 (A1.1 0 28 + 1)) := ⟨tb.1, tb.2.1, (f28 18 (by decide)).trans ((e 18 (by decide)).trans tb.2.2.1), fun i hi => by rw [fb 15 (by decide), e1 15 (by decide) (by decide)]; exact tb.2.2.2 i hi⟩
  obtain ⟨A, Mm', st', en', a1, a2, a3, a4, a5, a6⟩ := adv tb2 (cl.1.pc c1) (ml2.1.pm c2) hl.2.1 ts.2.1 ((f28 20 (by decide)).trans ((e 20 (by decide)).trans ts.2.2.2.1)) (by
    rw [f28 21 (by decide), e 21 (by decide)]
    exact tk_flag (fun i hi => (tb.2.2.2 i hi).1) ts.2.2.2.2 h1 h2)
  have clA := cl.tf c3 a3
  -- the class
  have clA2 : CL key c Mc0 (ctI A c 1 (le + 1)) m (le + 1) := ⟨⟨clA.1.1, fun b h4 hb => by rw [ctI_ne (by omega)]; exact clA.1.2 b h4 hb⟩, by rw [ctI_ne (by omega)]; exact clA.2.1, by rw [ctI_1, va_up_ne' (by decide)]; exact clA.2.2.1, by rw [ctI_1, va_up_eq'], by rw [ctI_1, va_up_ne' (by decide)]; exact clA.2.2.2.2⟩
  have put := c_put (Mc := ctI A c 1 (le + 1)) (clA2.1.pc c1) c3 clA2.2.2.2.2 hm96 act lf 0
  refine ⟨A, cLay c (ctI A c 1 (le + 1)) m act lf 0, A1, Mm', st', en', a1, by rw [clA.1.1]; exact c4, ?_, stp, a2, ⟨?_, ?_, ⟨le + 1, cLay_fr c3 clA2, ml2.tg a4⟩, ?_, by omega⟩, a5, ?_, fun j hj => by rw [a4.2.1 1 (by decide), fb 1 (by decide)]; exact b1 j hj⟩
  · unfold fX1_addLeaf
    rw [gI_at kc.1, bS, clA.2.2.2.2, if_pos (show nI m < 96 from nI_lt (b := 96) hm96 (by decide)), gI_at kc.1, bS, clA.2.2.2.1, pI_at kc.1, bS, lw_cV c3, put, bS]
  · have tb3 := (tb2.c a3).m a4
    exact ⟨tb3.1, by rw [cLay_lo c3 (by decide), ctI_ne (by omega)]; exact tb3.2.1, tb3.2.2.1, fun i hi => by rw [cLay_lo c3 (by decide), ctI_ne (by omega)]; exact tb3.2.2.2 i hi⟩
  · exact ⟨by rw [cLay_lo c3 (by decide), ctI_ne (by omega)]; exact a6.1, by rw [cLay_lo c3 (by decide), ctI_ne (by omega)]; exact a6.2.1, a6.2.2.1, a6.2.2.2.1, by rw [cLay_lo c3 (by decide), ctI_ne (by omega)]; exact a6.2.2.2.2⟩
  · have pgA : PG key c base (ctI A c 1 (le + 1)) Mm m := pg.of (fun _ _ => rfl) (fun k _ => by rw [ctI_ne (by omega), ctI_ne (by omega), ctI_ne (by omega), a3.2.1 (c + 1) (by omega), a3.2.1 (c + 2) (by omega), a3.2.1 (c + 3) (by omega)]; exact ⟨rfl, rfl, rfl⟩)
    have := lay_pg (wh := wh) (v := v) (act := act) (lf := lf) (rt := 0) pgA ok
    rw [hA1] at this
    exact this.of (fun j _ => by rw [a4.2.1 1 (by decide), fb 1 (by decide)]) (fun k _ => ⟨rfl, rfl, rfl⟩)
  · rw [← sl]
    exact stk_of (fun j _ => by rw [a4.2.1 1 (by decide), fb 1 (by decide)])
theorem c_fail : fX5_fail 4 M = some (-1, ctI M 4 5 (M.1 4 2)) := by
  unfold fX5_fail
  rw [t_g, bS, t_p, bS]
theorem ps_fail (cs : Cst B len key c base Mc0 Mm0) (h : PS B len key c base Mc0 Mm0 Mc Mm st en m o t) {F G : Option (Int32 × ctM)} {o' t' st0 m0 : Nat} {Mx : ctM} (hF : F = some (-1, ctI Mc 4 5 (Mc.1 4 2))) (hG : G = some (0, Mm)) : Res B len key c base Mc0 Mm0 Mx st0 m0 o' t' F G := by
  obtain ⟨tb, ts, ⟨le, cl, ml⟩, pg, hm⟩ := h
  have hl := tk_le ts.2.2.2.2
  exact Or.inr ⟨_, _, st, hF, hG, ⟨cl.1.1, fun b h4 hb => by rw [ctI_ne h4]; exact cl.1.2 b h4 hb⟩, ml.1, by rw [ctI_1, va_up_eq']; exact ts.1, ts.2.2.1, by have := tb.1; omega⟩
/-- what sign stands there, on both sides -/
theorem m_isSign (h : PS B len key c base Mc0 Mm0 Mc Mm st en m o t) (x : Int32) (hx : 0 ≤ x) : fX7_isSign 0 x Mm = some (if Mc.1 4 4 = x then 1 else 0, Mm) := by
  obtain ⟨tb, ts, _⟩ := h
  have key : (Mm.1 0 21 = 3 ∧ Mm.1 0 23 = x) ↔ Mc.1 4 4 = x := by
    rcases ts.2.2.2.2 with ⟨_, _, e1, e2⟩ | ⟨a1, _, e1, e2, _⟩ | ⟨a1, _, e1, _, e2, _⟩ | ⟨a1, _, e1, _, e2⟩ | ⟨_, _, e1, e2⟩ | ⟨a1, _, e1, e2, e3, n1, n2⟩
    · rw [e1, e2]; exact ⟨fun z => absurd z.1 (by decide), fun z => absurd hx (by rw [← z]; decide)⟩
    · rw [e1, e2]; exact ⟨fun z => absurd z.1 (by decide), fun z => absurd hx (by rw [← z]; decide)⟩
    · rw [e1, e2]; exact ⟨fun z => absurd z.1 (by decide), fun z => absurd hx (by rw [← z]; decide)⟩
    · rw [e1, e2]; exact ⟨fun z => absurd z.1 (by decide), fun z => absurd hx (by rw [← z]; decide)⟩
    · rw [e1, e2]; exact ⟨fun z => absurd z.1 (by decide), fun z => absurd hx (by rw [← z]; decide)⟩
    · rw [e1, e2, e3]; exact ⟨fun z => z.2, fun z => ⟨rfl, z⟩⟩
  unfold fX7_isSign
  rw [m_g0, bS]
  by_cases c1 : Mm.1 0 21 = 3
  · rw [if_pos c1, m_g0, bS]
    by_cases c2 : Mm.1 0 23 = x
    · rw [if_pos c2, if_pos (key.mp ⟨c1, c2⟩)]
    · rw [if_neg c2, if_neg (fun z => c2 (key.mpr z).2)]
  · rw [if_neg c1, if_neg (fun z => c1 (key.mpr z).1)]
theorem c_addStep (cs : Cst B len key c base Mc0 Mm0) (h : PS B len key c base Mc0 Mm0 Mc Mm st en m o t) (hm : m < st) {p q : Nat} (hp : p < m) (hq : q < m) (act : Int32) : fX1_addStep c act (nI p) (nI q) Mc = fX1_put c act (nI p) (nI q) Mc := by
  obtain ⟨c1, c2, c3, c4, c5, c6, c7, c8⟩ := id cs
  obtain ⟨tb, ts, ⟨le, cl, ml⟩, pg, _⟩ := id h
  have hl := tk_le ts.2.2.2.2
  have kc := kC_law c3
  have w : ∀ x, x < m → 0 ≤ nI x ∧ nI x ≤ nI m - 1 := fun x hx => by
    obtain ⟨k, rfl⟩ : ∃ k, m = k + 1 := ⟨m - 1, by omega⟩
    rw [nI_pred]
    exact ⟨nI_pos' (by omega), nI_le (by omega) (by omega)⟩
  unfold fX1_addStep
  rw [gI_at kc.1, bS, cl.2.2.2.2, if_neg (show ¬ (96 : Int32) ≤ nI m from nI_ge (b := 96) (by omega) (by decide)), bS, c_within, bS, if_pos (w p hp), if_neg i_10, gI_at kc.1, bS, cl.2.2.2.2, c_within, bS, if_pos (w q hq), if_neg i_10, lw_cV c3]
  cases fX1_put c act (nI p) (nI q) Mc with
  | none => rfl
  | some r => rfl
end
