/-! the class's tick -/
def ScrC (M M' : ctM) : Prop := M'.2 = M.2 ∧ ∀ b, ¬ isGv b → M'.1 b = M.1 b
theorem ScrC.rf {M : ctM} : ScrC M M := ⟨rfl, fun _ _ => rfl⟩
theorem ScrC.tr {A B C : ctM} (h1 : ScrC A B) (h2 : ScrC B C) : ScrC A C := ⟨h2.1.trans h1.1, fun b x => (h2.2 b x).trans (h1.2 b x)⟩
theorem PC.of2 {A B : ctM} (p : PC A) (h : B.2 = A.2) : PC B := by unfold PC; rw [h]; exact p
theorem ScrC.pc {A B : ctM} (h : ScrC A B) (p : PC A) : PC B := p.of2 h.1
theorem gv_rm {r b : Nat} (hr : isRm r) (h : r ≤ b) : ¬ isGv b := by rcases hr with rfl | rfl | rfl <;> omega
theorem ScrC.k {A B : ctM} {r : Nat} (h : ScrC A B) (hr : isRm r) : rK B r = rK A r :=
  rK_congr (fun k _ _ => by rw [h.2 _ (gv_rm hr (by omega))]) (fun i _ => by rw [h.2 _ (gv_rm hr (by omega))]) (fun f k _ _ => by rw [h.2 _ (gv_rm hr (by omega))])
def LawOk (M : ctM) (a : Nat) (g : Int32 → Int32 → Int32 → Int32) : Prop := ∀ M' : ctM, PC M' → (∀ b, a ≤ b → b < a + 4 → M'.1 b = M.1 b) → ∀ x y z, ∃ M'', fX1_gives a x y z M' = some (g x y z, M'') ∧ ScrC M' M''
def EvC (M : ctM) (r : Nat) (E : Ev) : Prop := ∀ key, key < 3 → (M.1 (r + 4) key = -1 ∧ E key = none) ∨ ∃ (t : Nat) (g : Int32 → Int32 → Int32 → Int32) (a : Nat), t < 14 ∧ M.1 (r + 4) key = nI t ∧ E key = some g ∧ M.2 11 t = some a ∧ isLaw a ∧ LawOk M a g
theorem EvC.congr {M M' : ctM} {r : Nat} {E : Ev} (h : EvC M r E) (h2 : M'.2 = M.2) (hc : M'.1 (r + 4) = M.1 (r + 4)) (hl : ∀ b, b < 82 → ¬ isGv b → 6 ≤ b → M'.1 b = M.1 b) : EvC M' r E := by
  intro key hk
  rw [hc, h2]
  rcases h key hk with h | ⟨t, g, a, h1, h3, h4, h5, h6, h7⟩
  · exact Or.inl h
  · refine Or.inr ⟨t, g, a, h1, h3, h4, h5, h6, fun N p q => h7 N p (fun b b1 b2 => ?_)⟩
    rw [q b b1 b2]
    exact hl b (by rcases h6 with h | h <;> omega) (by rcases h6 with h | h <;> omega) (by rcases h6 with h | h <;> omega)
theorem EvC.scr {M M' : ctM} {r : Nat} {E : Ev} (h : EvC M r E) (hr : isRm r) (s : ScrC M M') : EvC M' r E := h.congr s.1 (s.2 _ (gv_rm hr (by omega))) (fun b _ h _ => s.2 b h)
section
variable {M : ctM} {E : Ev} {r f g n : Nat}
theorem c_lawNone {key : Nat} (h : PC M) (hr : isRm r) (hk : key < 3) (h0 : M.1 (r + 4) key = -1) : fX2_lawFor r (nI key) M = some (none, M) := by
  unfold fX2_lawFor
  rw [rm_f4 h hr]
  simp only [Option.bind_some]
  rw [rm_ct hr hk, h0]
  simp only [Option.bind_some, c_within]
  simp only [show ¬ ((0 : Int32) ≤ -1 ∧ (-1 : Int32) ≤ 13) by decide, if_false, if_true]
theorem i_13 : ∀ t, t < 14 → (0 : Int32) ≤ nI t ∧ nI t ≤ 13 := by decide +kernel
theorem c_lawSome {key t a : Nat} (h : PC M) (hr : isRm r) (hk : key < 3) (ht : t < 14) (h0 : M.1 (r + 4) key = nI t) (ha : M.2 11 t = some a) : fX2_lawFor r (nI key) M = some (some a, M) := by
  unfold fX2_lawFor
  rw [rm_f4 h hr]
  simp only [Option.bind_some]
  rw [rm_ct hr hk, h0]
  simp only [Option.bind_some, c_within]
  simp only [if_pos (i_13 t ht)]
  rw [if_neg (by decide), rm_f0 h hr]
  simp only [Option.bind_some]
  rw [aP_at (n := 14) (by decide) (by decide) ht (by decide), ha]
  rfl
theorem c_paceOf (h : PC M) (hr : isRm r) (hi : Inv (rK M r) n) (he : EvC M r E) (hf : f < n) : ∃ M', fX2_paceOf r (nI f) M = some (paceS E (rK M r) f, M') ∧ ScrC M M' := by
  have hf8 : f < 8 := by have := hi.1; omega
  have key : ∀ (M' : ctM) (v : Int32), ScrC M M' → fX2_paceOf_b43 (r + 5 + f) v M' = some (kPace (fl (rK M r) f 0) v, M') := by
    intro M' v hs
    unfold fX2_paceOf_b43
    rw [fl_cV hr hf8, c_paceFrom hr hf8, hs.k hr]
    rfl
  unfold fX2_paceOf
  rw [rm_f1 h hr]
  simp only [Option.bind_some]
  rw [rm_fl h hr hf8]
  simp only [Option.bind_some, rm_cV hr]
  rcases he 0 (by decide) with ⟨c1, c2⟩ | ⟨t, e, a, g1, g2, g3, g4, g5, g6⟩
  · have := c_lawNone h hr (by decide) c1
    rw [show nI 0 = (0 : Int32) from rfl] at this
    rw [this]
    simp only [Option.bind_some, Option.elim_none]
    rw [fl_g hr hf8 (by decide)]
    simp only [Option.bind_some]
    rw [key M _ ScrC.rf]
    refine ⟨M, ?_, ScrC.rf⟩
    simp only [paceS, c2]
  · have := c_lawSome h hr (by decide) g1 g2 g4
    rw [show nI 0 = (0 : Int32) from rfl] at this
    rw [this]
    simp only [Option.bind_some, Option.elim_some]
    rw [fl_g hr hf8 (by decide)]
    simp only [Option.bind_some]
    obtain ⟨M2, w1, w2⟩ := g6 M h (fun _ _ _ => rfl) (fl (rK M r) f 3) (nI f) 0
    rw [lw_cV g5, w1]
    simp only [Option.bind_some, c_held]
    rw [key M2 _ w2]
    refine ⟨M2, ?_, w2⟩
    simp only [paceS, g3]
theorem c_pushBy (h : PC M) (hr : isRm r) (hi : Inv (rK M r) n) (he : EvC M r E) (hf : f < n) (hg : g < n) : ∃ M', fX2_pushBy r (nI f) (nI g) M = some (pushS E (rK M r) f g, M') ∧ ScrC M M' := by
  have hf8 : f < 8 := by have := hi.1; omega
  have hg8 : g < 8 := by have := hi.1; omega
  obtain ⟨_, _, hF, hG, _⟩ := hi
  unfold fX2_pushBy pushS
  rw [rm_f1 h hr]
  simp only [Option.bind_some]
  rw [rm_fl h hr hf8, rm_fl h hr hg8]
  simp only [Option.bind_some]
  rw [fl_cV hr hf8, c_isLit hr hf8]
  simp only [Option.bind_some]
  by_cases l1 : fl (rK M r) f 5 ≤ 0
  · refine ⟨M, ?_, ScrC.rf⟩
    simp only [if_pos l1, if_true]
  simp only [if_neg l1]
  rw [if_neg (by decide), fl_cV hr hg8, c_isLit hr hg8]
  simp only [Option.bind_some]
  by_cases l2 : fl (rK M r) g 5 ≤ 0
  · refine ⟨M, ?_, ScrC.rf⟩
    simp only [if_pos l2, if_true]
  simp only [if_neg l2]
  rw [if_neg (by decide), rm_cV hr, c_hasGlass h hr hf8 hg8 (hG f hf8)]
  simp only [Option.bind_some]
  by_cases l3 : gbS (rK M r (6 + f)) g = 1
  · refine ⟨M, ?_, ScrC.rf⟩
    simp only [if_pos l3]
    rw [if_neg (by decide)]
  simp only [if_neg l3]
  rw [if_pos trivial, fl_g hr hg8 (show 1 < 7 by decide), fl_g hr hg8 (show 2 < 7 by decide)]
  simp only [Option.bind_some]
  rw [fl_cV hr hf8]
  unfold fX0_wayTo
  rw [fl_g hr hf8 (show 1 < 7 by decide), fl_g hr hf8 (show 2 < 7 by decide)]
  simp only [Option.bind_some]
  rw [ab_offr (hF f hf).2.1 (hF g hg).2.1, ab_offr (hF f hf).2.2.1 (hF g hg).2.2.1]
  rw [fl_g hr hg8 (show 4 < 7 by decide), fl_g hr hf8 (show 4 < 7 by decide)]
  simp only [Option.bind_some, c_ahead, rm_cV hr]
  rcases he 1 (by decide) with ⟨c1, c2⟩ | ⟨t, e, a, g1, g2, g3, g4, g5, g6⟩
  · have := c_lawNone h hr (by decide) c1
    rw [show nI 1 = (1 : Int32) from rfl] at this
    rw [this]
    simp only [Option.bind_some, Option.elim_none]
    rw [rm_i6 hr, rm_i7 hr]
    refine ⟨M, ?_, ScrC.rf⟩
    simp only [Option.bind_some, c2, distS, if_sp]
    rfl
  · have := c_lawSome h hr (by decide) g1 g2 g4
    rw [show nI 1 = (1 : Int32) from rfl] at this
    rw [this]
    simp only [Option.bind_some, Option.elim_some]
    rw [fl_g hr hg8 (show 3 < 7 by decide)]
    simp only [Option.bind_some]
    obtain ⟨M2, w1, w2⟩ := g6 M h (fun _ _ _ => rfl) (distS (rK M r) f g) (ahS (fl (rK M r) g 4) (fl (rK M r) f 4)) (fl (rK M r) g 3)
    unfold distS at w1
    rw [lw_cV g5, w1]
    simp only [Option.bind_some, c_held]
    refine ⟨M2, ?_, w2⟩
    simp only [g3, distS]
theorem c_pushes_l (h : PC M) (hr : isRm r) (hi : Inv (rK M r) n) (he : EvC M r E) (hf : f < n) : ∀ (m j N : Nat) (M1 : ctM), ScrC M M1 → j + m = n → m < N → ∃ M', fX2_pushesOn_h4 N r (nI f) (psumS E (rK M r) f j) (nI j) M1 = some (psumS E (rK M r) f n, M') ∧ ScrC M M' := by
  have hn := hi.1
  intro m
  induction m with
  | zero =>
    intro j N M1 hs hj hN
    obtain ⟨N, rfl⟩ : ∃ k, N = k + 1 := ⟨N - 1, by omega⟩
    have : j = n := by omega
    subst this
    rw [fX2_pushesOn_h4, rm_i5 hr, hs.k hr, hi.2.1]
    simp only [Option.bind_some]
    rw [if_pos (nI_le (Nat.le_refl _) (by omega))]
    exact ⟨M1, rfl, hs⟩
  | succ m ih =>
    intro j N M1 hs hj hN
    obtain ⟨N, rfl⟩ : ∃ k, N = k + 1 := ⟨N - 1, by omega⟩
    rw [fX2_pushesOn_h4, rm_i5 hr, hs.k hr, hi.2.1]
    simp only [Option.bind_some]
    rw [if_neg (nI_ge (show j < n by omega) (by omega))]
    by_cases hjf : j = f
    · subst hjf
      rw [if_pos rfl]
      unfold fX2_pushesOn_b28
      obtain ⟨M', q1, q2⟩ := ih (j + 1) N M1 hs (by omega) (by omega)
      refine ⟨M', ?_, q2⟩
      rw [← q1, ← nI_1]
      simp only [psumS, if_true]
    · rw [if_neg (by rw [nI_eq (by omega) (by omega)]; exact hjf), rm_cV hr]
      obtain ⟨M2, w1, w2⟩ := c_pushBy (hs.pc h) hr (by rw [hs.k hr]; exact hi) (he.scr hr hs) hf (show j < n by omega)
      rw [w1]
      simp only [Option.bind_some]
      unfold fX2_pushesOn_b28
      obtain ⟨M', q1, q2⟩ := ih (j + 1) N M2 (hs.tr w2) (by omega) (by omega)
      refine ⟨M', ?_, q2⟩
      rw [← q1, ← nI_1, hs.k hr]
      simp only [psumS, if_neg hjf]
theorem c_pushesOn (h : PC M) (hr : isRm r) (hi : Inv (rK M r) n) (he : EvC M r E) (hf : f < n) : ∃ M', fX2_pushesOn r (nI f) M = some (psumS E (rK M r) f n, M') ∧ ScrC M M' := c_pushes_l h hr hi he hf n 0 4000 M ScrC.rf (by omega) (by have := hi.1; omega)
/-- behind a piece of a tick of a room -/
def TkC (r : Nat) (M : ctM) (K : Kv) (M' : ctM) : Prop := M'.2 = M.2 ∧ rK M' r = K ∧ M'.1 (r + 4) = M.1 (r + 4) ∧ ∀ b, ¬ isGv b → b < r ∨ r + 13 ≤ b → M'.1 b = M.1 b
theorem TkC.rf : TkC r M (rK M r) M := ⟨rfl, rfl, rfl, fun _ _ _ => rfl⟩
theorem TkC.scr {K : Kv} {M1 M2 : ctM} (hr : isRm r) (h : TkC r M K M1) (s : ScrC M1 M2) : TkC r M K M2 := ⟨s.1.trans h.1, (s.k hr).trans h.2.1, (s.2 _ (gv_rm hr (by omega))).trans h.2.2.1, fun b h1 h2 => (s.2 b h1).trans (h.2.2.2 b h1 h2)⟩
theorem TkC.pc {K : Kv} {M1 : ctM} (h : TkC r M K M1) (p : PC M) : PC M1 := p.of2 h.1
theorem TkC.ev {K : Kv} {M1 : ctM} (h : TkC r M K M1) (hr : isRm r) (e : EvC M r E) : EvC M1 r E := e.congr h.1 h.2.2.1 (fun b h1 h2 _ => h.2.2.2 b h2 (by rcases hr with rfl | rfl | rfl <;> omega))
theorem TkC.tr {K K2 : Kv} {M1 M2 : ctM} (h : TkC r M K M1) (h2 : TkC r M1 K2 M2) : TkC r M K2 M2 := ⟨h2.1.trans h.1, h2.2.1, h2.2.2.1.trans h.2.2.1, fun b a c => (h2.2.2.2 b a c).trans (h.2.2.2 b a c)⟩
theorem TkC.pf {K : Kv} {M1 : ctM} {k : Nat} {v : Int32} (h : TkC r M K M1) (hf : f < 8) (hk : k < 7) : TkC r M (va_up K (14 + 7 * f + k) v) (ctI M1 (r + 5 + f) k v) := ⟨h.1, by rw [rK_pf hf hk, h.2.1], (ctI_ne (by omega)).trans h.2.2.1, fun b h1 h2 => (ctI_ne (by omega)).trans (h.2.2.2 b h1 h2)⟩
theorem TkC.pg {K : Kv} {M1 : ctM} {v : Int32} (h : TkC r M K M1) (hf : f < 8) : TkC r M (va_up K (6 + f) v) (ctI M1 (r + 2) f v) := ⟨h.1, by rw [rK_pg hf, h.2.1], (ctI_ne (by omega)).trans h.2.2.1, fun b h1 h2 => (ctI_ne (by omega)).trans (h.2.2.2 b h1 h2)⟩
theorem TkC.pr {K : Kv} {M1 : ctM} {j : Nat} {v : Int32} (h : TkC r M K M1) (hj : j < 6) : TkC r M (va_up K j v) (ctI M1 r (rF j) v) := ⟨h.1, by rw [rK_pr_ hj, h.2.1], (ctI_ne (by omega)).trans h.2.2.1, fun b h1 h2 => (ctI_ne (by omega)).trans (h.2.2.2 b h1 h2)⟩
theorem TkC.pn {K : Kv} {M1 : ctM} {k : Nat} {v : Int32} (h : TkC r M K M1) : TkC r M K (ctI M1 (r + 3) k v) := ⟨h.1, by rw [rK_ne (by omega) (by omega) (by omega), h.2.1], (ctI_ne (by omega)).trans h.2.2.1, fun b h1 h2 => (ctI_ne (by omega)).trans (h.2.2.2 b h1 h2)⟩
theorem c_draw {K : Kv} {M1 : ctM} (hr : isRm r) (h : TkC r M K M1) : fX2_draw r M1 = some (drV (drZ (K 5)), ctI M1 r 9 (drZ (K 5))) := by
  unfold fX2_draw
  rw [rm_i9 hr, h.2.1]
  simp only [Option.bind_some]
  rw [rm_p hr]
  simp only [Option.bind_some]
  rw [rm_i9 hr, rK_p5, va_up_eq']
  rfl
theorem c_windOn {K : Kv} {z : Int32} {M1 : ctM} (p : PC M) (hr : isRm r) (h : TkC r M (zK K z) M1) (he : EvC M r E) (f : Nat) : ∃ M2, fX2_windOn r (nI f) M1 = some (windV E K z f, M2) ∧ TkC r M (zK K (windZ E z)) M2 ∧ M2.1 (r + 3) = M1.1 (r + 3) := by
  have q := h.pc p
  have he1 := h.ev hr he
  unfold fX2_windOn
  rw [rm_cV hr]
  rcases he1 2 (by decide) with ⟨c1, c2⟩ | ⟨t, e, a, g1, g2, g3, g4, g5, g6⟩
  · have := c_lawNone q hr (by decide) c1
    rw [show nI 2 = (2 : Int32) from rfl] at this
    rw [this]
    simp only [Option.bind_some, Option.elim_none]
    rw [rm_cV hr, c_draw hr h]
    simp only [Option.bind_some]
    refine ⟨ctI M1 r 9 (drZ (zK K z 5)), ?_, ?_, ctI_ne (by omega)⟩
    · rw [windV, c2]
      simp only [zK, va_up_eq']
    · have := h.pr (j := 5) (v := drZ (zK K z 5)) (by decide)
      simp only [zK, va_up_eq', bx_uu] at this ⊢
      simp only [windZ, c2]
      exact this
  · have := c_lawSome q hr (by decide) g1 g2 g4
    rw [show nI 2 = (2 : Int32) from rfl] at this
    rw [this]
    simp only [Option.bind_some, Option.elim_some]
    rw [rm_i8 hr, h.2.1, K_z (by decide)]
    simp only [Option.bind_some]
    obtain ⟨M2, w1, w2⟩ := g6 M1 q (fun _ _ _ => rfl) (K 2) (nI f) 0
    rw [lw_cV g5, w1]
    simp only [Option.bind_some, c_held]
    refine ⟨M2, ?_, ?_, w2.2 _ (gv_rm hr (by omega))⟩
    · simp only [windV, g3]
    · simp only [windZ, g3]
      exact h.scr hr w2
theorem c_nextOf {K : Kv} {z : Int32} {M1 : ctM} (p : PC M) (hr : isRm r) (h : TkC r M (zK K z) M1) (hi : Inv K n) (he : EvC M r E) (hf : f < n) : ∃ M2, fX2_nextOf r (nI f) M1 = some (fl K f 4 + paceS E K f + kTurn (fl K f 0) (psumS E K f n) (windV E K z f), M2) ∧ TkC r M (zK K (if fl K f 0 = 5 then windZ E z else z)) M2 ∧ M2.1 (r + 3) = M1.1 (r + 3) := by
  have hf8 : f < 8 := by have := hi.1; omega
  have key : ∀ (z2 w : Int32) (M2 : ctM), TkC r M (zK K z2) M2 → ∃ M3, fX2_nextOf_b24 r (nI f) (r + 5 + f) w M2 = some (fl K f 4 + paceS E K f + kTurn (fl K f 0) (psumS E K f n) w, M3) ∧ TkC r M (zK K z2) M3 ∧ M3.1 (r + 3) = M2.1 (r + 3) := by
    intro z2 w M2 h2
    unfold fX2_nextOf_b24
    rw [fl_g hr hf8 (by decide), h2.2.1, fl_z]
    simp only [Option.bind_some]
    obtain ⟨M3, w1, w2⟩ := c_paceOf (h2.pc p) hr (by rw [h2.2.1]; exact Inv_z hi) (h2.ev hr he) hf
    rw [rm_cV hr, w1, h2.2.1, paceS_z]
    simp only [Option.bind_some]
    have h3 := h2.scr hr w2
    obtain ⟨M4, v1, v2⟩ := c_pushesOn (h3.pc p) hr (by rw [h3.2.1]; exact Inv_z hi) (h3.ev hr he) hf
    rw [rm_cV hr, v1, h3.2.1, psumS_z]
    simp only [Option.bind_some]
    have h4 := h3.scr hr v2
    rw [fl_cV hr hf8, c_turnedFrom hr hf8, h4.2.1, fl_z]
    exact ⟨M4, rfl, h4, ((w2.tr v2).2 _ (gv_rm hr (by omega)))⟩
  unfold fX2_nextOf
  rw [rm_f1 (h.pc p) hr]
  simp only [Option.bind_some]
  rw [rm_fl (h.pc p) hr hf8]
  simp only [Option.bind_some]
  rw [fl_g hr hf8 (by decide), h.2.1, fl_z]
  simp only [Option.bind_some]
  by_cases k5 : fl K f 0 = 5
  · simp only [if_pos k5]
    obtain ⟨M2, w1, w2, w3⟩ := c_windOn p hr h he f
    rw [rm_cV hr, w1]
    simp only [Option.bind_some]
    obtain ⟨M3, v1, v2, v3⟩ := key _ (windV E K z f) M2 w2
    exact ⟨M3, v1, v2, v3.trans w3⟩
  · simp only [if_neg k5]
    obtain ⟨M3, v1, v2, v3⟩ := key _ 0 M1 h
    refine ⟨M3, ?_, v2, v3⟩
    rw [v1]
    have : kTurn (fl K f 0) (psumS E K f n) 0 = kTurn (fl K f 0) (psumS E K f n) (windV E K z f) := by simp only [kTurn, if_neg k5]
    rw [this]
theorem c_go1 (p : PC M) (hr : isRm r) (hi : Inv (rK M r) n) (he : EvC M r E) : ∀ (m j N : Nat) (M1 : ctM), j + m = n → m < N → TkC r M (zK (rK M r) (zS E (rK M r) j)) M1 → (∀ i, i < j → ¬ fl (rK M r) i 5 ≤ 0 → M1.1 (r + 3) i = nextS E (rK M r) n i) →
    ∃ M2, fX2_goBy_h2 N r (nI j) M1 = fX2_goBy_h47 4000 r 0 0 M2 ∧ TkC r M (zK (rK M r) (zS E (rK M r) n)) M2 ∧ ∀ i, i < n → ¬ fl (rK M r) i 5 ≤ 0 → M2.1 (r + 3) i = nextS E (rK M r) n i := by
  have hn := hi.1
  intro m
  induction m with
  | zero =>
    intro j N M1 hj hN h hx
    obtain ⟨N, rfl⟩ : ∃ k, N = k + 1 := ⟨N - 1, by omega⟩
    have : j = n := by omega
    subst this
    refine ⟨M1, ?_, h, hx⟩
    rw [fX2_goBy_h2, rm_i5 hr, h.2.1, K_z (by decide), hi.2.1]
    simp only [Option.bind_some]
    rw [if_pos (nI_le (Nat.le_refl _) (by omega))]
  | succ m ih =>
    intro j N M1 hj hN h hx
    obtain ⟨N, rfl⟩ : ∃ k, N = k + 1 := ⟨N - 1, by omega⟩
    have hj8 : j < 8 := by omega
    have q := h.pc p
    rw [fX2_goBy_h2, rm_i5 hr, h.2.1, K_z (by decide), hi.2.1]
    simp only [Option.bind_some]
    rw [if_neg (nI_ge (show j < n by omega) (by omega)), rm_f3 q hr, rm_f1 q hr]
    simp only [Option.bind_some]
    rw [rm_fl q hr hj8]
    simp only [Option.bind_some]
    rw [fl_cV hr hj8, c_isLit hr hj8, h.2.1, fl_z]
    simp only [Option.bind_some]
    by_cases hl : fl (rK M r) j 5 ≤ 0
    · simp only [if_pos hl, if_true]
      unfold fX2_goBy_b36
      rw [rm_nxs hr hj8]
      simp only [Option.bind_some]
      rw [nI_1]
      have h' : TkC r M (zK (rK M r) (zS E (rK M r) (j + 1))) (ctI M1 (r + 3) j 0) := by simp only [zS, if_pos hl]; exact h.pn
      exact ih (j + 1) N _ (by omega) (by omega) h' (fun i hi2 hl2 => by
        rw [ctI_1]
        rcases Nat.lt_or_ge i j with q | q
        · rw [va_up_ne' (by omega)]
          exact hx i q hl2
        · have : i = j := by omega
          subst this
          exact absurd hl hl2)
    · simp only [if_neg hl]
      rw [if_neg (by decide)]
      obtain ⟨M2, w1, w2, w3⟩ := c_nextOf p hr h hi he (show j < n by omega)
      rw [rm_cV hr, w1]
      simp only [Option.bind_some]
      unfold fX2_goBy_b36
      rw [rm_nxs hr hj8]
      simp only [Option.bind_some]
      rw [nI_1]
      have h' : TkC r M (zK (rK M r) (zS E (rK M r) (j + 1))) (ctI M2 (r + 3) j (nextS E (rK M r) n j)) := by simp only [zS, if_neg hl]; exact w2.pn
      exact ih (j + 1) N _ (by omega) (by omega) h' (fun i hi2 hl2 => by
        rw [ctI_1]
        rcases Nat.lt_or_ge i j with q | q
        · rw [va_up_ne' (by omega), w3]
          exact hx i q hl2
        · have : i = j := by omega
          subst this
          rw [va_up_eq']
          rfl)
set_option maxRecDepth 100000 in
theorem gs_cl : ∀ j, j < 10 → ∀ i, i < 1000 → (if 0 < nI i - nI j then nI i - nI j else 0) = clS (nI i - nI j) 0 999 := by decide +kernel
theorem gs_clr {x y : Int32} (hx : rg x 0 1000) (hy : rg y 1 10) : (if 0 < x - y then x - y else 0) = clS (x - y) 0 999 := by
  obtain ⟨i, _, h1, rfl⟩ := hx
  obtain ⟨j, _, h2, rfl⟩ := hy
  exact gs_cl j h2 i h1
theorem c_burnTo {K : Kv} {M1 : ctM} {nx : Int32} (hr : isRm r) (h : TkC r M K M1) (hf : f < 8) (h3 : rg (fl K f 3) 1 10) (h5 : rg (fl K f 5) 0 1000) : ∃ M2, fX0_burnTo (r + 5 + f) nx M1 = some (if nx < 120 then 0 else 1, M2) ∧ TkC r M (va_up (va_up (va_up K (14 + 7 * f + 4) (wrapS nx)) (14 + 7 * f + 5) (clS (fl K f 5 - fl K f 3) 0 999)) (14 + 7 * f + 6) (fl K f 6 + (if nx < 120 then 0 else 1))) M2 ∧ M2.1 (r + 3) = M1.1 (r + 3) := by
  have key : ∀ (b : Int32) (v : Int32), b = (if nx < 120 then 0 else 1) → v = wrapS nx → ∃ M2, fX0_burnTo_b30 (r + 5 + f) b (r + 5 + f) v M1 = some (if nx < 120 then 0 else 1, M2) ∧ TkC r M (va_up (va_up (va_up K (14 + 7 * f + 4) (wrapS nx)) (14 + 7 * f + 5) (clS (fl K f 5 - fl K f 3) 0 999)) (14 + 7 * f + 6) (fl K f 6 + (if nx < 120 then 0 else 1))) M2 ∧ M2.1 (r + 3) = M1.1 (r + 3) := by
    intro b v hb hv
    have hb2 : b = 0 ∨ b = 1 := by rw [hb]; split <;> simp
    have a1 := h.pf (v := v) hf (show 4 < 7 by decide)
    have e5 : fl (va_up K (14 + 7 * f + 4) v) f 5 = fl K f 5 := va_up_ne' (by omega)
    have e3 : fl (va_up K (14 + 7 * f + 4) v) f 3 = fl K f 3 := va_up_ne' (by omega)
    have a2 := a1.pf (v := clS (fl K f 5 - fl K f 3) 0 999) hf (show 5 < 7 by decide)
    have e6 : fl (va_up (va_up K (14 + 7 * f + 4) v) (14 + 7 * f + 5) (clS (fl K f 5 - fl K f 3) 0 999)) f 6 = fl K f 6 := (va_up_ne' (by omega)).trans (va_up_ne' (by omega))
    have a3 := a2.pf (v := fl K f 6 + b) hf (show 6 < 7 by decide)
    unfold fX0_burnTo_b30
    rw [fl_p hr hf]
    simp only [Option.bind_some]
    rw [fl_g hr hf (by decide), fl_g hr hf (by decide), a1.2.1, e5, e3]
    simp only [Option.bind_some]
    rw [gs_clr h5 h3, fl_p hr hf]
    simp only [Option.bind_some]
    rw [fl_g hr hf (by decide), a2.2.1, e6]
    simp only [Option.bind_some]
    have fin : fX0_burnTo_b64 b (r + 5 + f) (fl K f 6) b (ctI (ctI M1 (r + 5 + f) 4 v) (r + 5 + f) 5 (clS (fl K f 5 - fl K f 3) 0 999)) = some (b, ctI (ctI (ctI M1 (r + 5 + f) 4 v) (r + 5 + f) 5 (clS (fl K f 5 - fl K f 3) 0 999)) (r + 5 + f) 6 (fl K f 6 + b)) := by
      unfold fX0_burnTo_b64
      rw [fl_p hr hf]
      simp only [Option.bind_some]
      rw [if_pos hb2]
    refine ⟨ctI (ctI (ctI M1 (r + 5 + f) 4 v) (r + 5 + f) 5 (clS (fl K f 5 - fl K f 3) 0 999)) (r + 5 + f) 6 (fl K f 6 + b), ?_, ?_, ?_⟩
    · rw [← hb, ← fin]
      rcases hb2 with e | e
      · rw [e, if_pos rfl]
      · rw [e, if_neg (by decide)]
    · rw [← hb, ← hv]
      exact a3
    · rw [ctI_ne (by omega), ctI_ne (by omega), ctI_ne (by omega)]
  unfold fX0_burnTo
  have key2 : ∀ b : Int32, b = (if nx < 120 then 0 else 1) → ∃ M2, fX0_burnTo_b11 (r + 5 + f) nx b M1 = some (if nx < 120 then 0 else 1, M2) ∧ TkC r M (va_up (va_up (va_up K (14 + 7 * f + 4) (wrapS nx)) (14 + 7 * f + 5) (clS (fl K f 5 - fl K f 3) 0 999)) (14 + 7 * f + 6) (fl K f 6 + (if nx < 120 then 0 else 1))) M2 ∧ M2.1 (r + 3) = M1.1 (r + 3) := by
    intro b hb
    unfold fX0_burnTo_b11
    by_cases hm : 0 ≤ nx % 120
    · rw [if_pos hm]
      exact key b _ hb (by unfold wrapS; rw [if_pos hm])
    · rw [if_neg hm]
      exact key b _ hb (by unfold wrapS; rw [if_neg hm])
  by_cases hc : nx < 120
  · rw [if_pos hc]
    exact key2 0 (by rw [if_pos hc])
  · rw [if_neg hc]
    exact key2 1 (by rw [if_neg hc])
theorem c_go2 (p : PC M) (hr : isRm r) (hi : Inv (rK M r) n) : ∀ (m j N : Nat) (M1 : ctM), j + m = n → m < N → TkC r M (burntS E (rK M r) n j) M1 → (∀ i, i < n → ¬ fl (rK M r) i 5 ≤ 0 → M1.1 (r + 3) i = nextS E (rK M r) n i) →
    ∃ M2, fX2_goBy_h47 N r (fsumS E (rK M r) n j) (nI j) M1 = some (fsumS E (rK M r) n n, M2) ∧ TkC r M (tickS E (rK M r) n) M2 := by
  have hn := hi.1
  intro m
  induction m with
  | zero =>
    intro j N M1 hj hN h hx
    obtain ⟨N, rfl⟩ : ∃ k, N = k + 1 := ⟨N - 1, by omega⟩
    have : j = n := by omega
    subst this
    have e0 : burntS E (rK M r) j j 0 = rK M r 0 := by unfold burntS; rw [if_neg (by omega), if_neg (by decide)]
    have e2 : burntS E (rK M r) j j 2 = rK M r 2 := by unfold burntS; rw [if_neg (by omega), if_neg (by decide)]
    rw [fX2_goBy_h47, rm_i5 hr, h.2.1, e0, hi.2.1]
    simp only [Option.bind_some]
    rw [if_pos (nI_le (Nat.le_refl _) (by omega)), rm_i8 hr, h.2.1, e2]
    simp only [Option.bind_some]
    rw [rm_p hr]
    exact ⟨_, rfl, h.pr (j := 2) (by decide)⟩
  | succ m ih =>
    intro j N M1 hj hN h hx
    obtain ⟨N, rfl⟩ : ∃ k, N = k + 1 := ⟨N - 1, by omega⟩
    have hj8 : j < 8 := by omega
    have q := h.pc p
    have e0 : burntS E (rK M r) n j 0 = rK M r 0 := by unfold burntS; rw [if_neg (by omega), if_neg (by decide)]
    have ef : ∀ k, k < 7 → fl (burntS E (rK M r) n j) j k = fl (rK M r) j k := fun k hk => burnt_fl hk
    rw [fX2_goBy_h47, rm_i5 hr, h.2.1, e0, hi.2.1]
    simp only [Option.bind_some]
    rw [if_neg (nI_ge (show j < n by omega) (by omega)), rm_f1 q hr]
    simp only [Option.bind_some]
    rw [rm_fl q hr hj8]
    simp only [Option.bind_some]
    rw [fl_cV hr hj8, c_isLit hr hj8, h.2.1, ef 5 (by decide)]
    simp only [Option.bind_some]
    by_cases hl : fl (rK M r) j 5 ≤ 0
    · simp only [if_pos hl, if_true]
      unfold fX2_goBy_b90 fX2_goBy_b91
      rw [nI_1]
      have := ih (j + 1) N M1 (by omega) (by omega) (by rw [burnt_unlit hl]; exact h) hx
      simp only [fsumS, if_pos hl] at this
      exact this
    · simp only [if_neg hl]
      rw [if_neg (by decide), rm_f1 q hr, rm_f3 q hr]
      simp only [Option.bind_some]
      rw [rm_fl q hr hj8, rm_nx hr hj8, hx j (by omega) hl]
      simp only [Option.bind_some]
      obtain ⟨M2, w1, w2, w3⟩ := c_burnTo (nx := nextS E (rK M r) n j) hr h hj8 (by rw [ef 3 (by decide)]; exact (hi.2.2.1 j (by omega)).2.2.2.1) (by rw [ef 5 (by decide)]; exact (hi.2.2.1 j (by omega)).2.2.2.2.2)
      rw [ef 5 (by decide), ef 3 (by decide), ef 6 (by decide)] at w2
      have b1 := burnt_lit (E := E) (n := n) (K := rK M r) hl
      unfold flashS at b1
      rw [← b1] at w2
      rw [fl_cV hr hj8, w1]
      simp only [Option.bind_some]
      have := ih (j + 1) N M2 (by omega) (by omega) w2 (by rw [w3]; exact hx)
      simp only [fsumS, if_neg hl, flashS] at this
      by_cases hc : nextS E (rK M r) n j < 120
      · simp only [if_pos hc, if_true] at this ⊢
        unfold fX2_goBy_b90 fX2_goBy_b91
        rw [nI_1]
        exact this
      · simp only [if_neg hc] at this ⊢
        rw [if_neg (by decide)]
        unfold fX2_goBy_b91
        rw [nI_1]
        exact this
theorem c_goBy (p : PC M) (hr : isRm r) (hi : Inv (rK M r) n) (he : EvC M r E) : ∃ M2, fX2_goBy r M = some (fsumS E (rK M r) n n, M2) ∧ TkC r M (tickS E (rK M r) n) M2 := by
  have hn := hi.1
  have h0 : TkC r M (zK (rK M r) (zS E (rK M r) 0)) M := by
    refine ⟨rfl, ?_, rfl, fun _ _ _ => rfl⟩
    funext i
    unfold zK va_up
    by_cases h : i = 5
    · subst h; rw [if_pos rfl]; rfl
    · rw [if_neg h]
  obtain ⟨M1, a1, a2, a3⟩ := c_go1 (E := E) p hr hi he n 0 4000 M (by omega) (by omega) h0 (fun i h => by omega)
  obtain ⟨M2, b1, b2⟩ := c_go2 (E := E) p hr hi n 0 4000 M1 (by omega) (by omega) (by rw [burnt_0]; exact a2) a3
  exact ⟨M2, a1.trans b1, b2⟩
end
