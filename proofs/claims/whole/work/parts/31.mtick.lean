/-! the model's tick -/
def cntS (kf : Nat → Int32) (key : Int32) : Nat → Int32
  | 0 => -1
  | t + 1 => if kf t = key then nI t else cntS kf key t
abbrev kfS (S : Kv) : Nat → Int32 := fun t => S (70 + 200 * t)
def ScrM (M M' : ctM) : Prop := M'.2 = M.2 ∧ ∀ b, b ≠ 16 → b ≠ 17 → M'.1 b = M.1 b
theorem ScrM.rf {M : ctM} : ScrM M M := ⟨rfl, fun _ _ _ => rfl⟩
theorem ScrM.tr {A B C : ctM} (h1 : ScrM A B) (h2 : ScrM B C) : ScrM A C := ⟨h2.1.trans h1.1, fun b x y => (h2.2 b x y).trans (h1.2 b x y)⟩
theorem ScrM.pm {A B : ctM} (h : ScrM A B) (p : PM A) : PM B := fun k hk => by rw [h.1]; exact p k hk
theorem ScrM.s {A B : ctM} (h : ScrM A B) : B.1 1 = A.1 1 := h.2 1 (by decide) (by decide)
theorem ScrM.nm {A : ctM} {k : Nat} {v : Int32} : ScrM A (ctI A 16 k v) := ⟨rfl, fun b h _ => ctI_ne h⟩
def nm0 (key : Nat) (N : Kv) : Int32 := if key = 0 then N 115 else if key = 1 then N 100 else N 116
def nm1 (key : Nat) (N : Kv) : Int32 := if key = 0 then N 110 else if key = 1 then N 112 else N 110
def nm2 (key : Nat) (N : Kv) : Int32 := if key = 1 then N 115 else 0
def TextOk (key t : Nat) (S : Kv) (g : Int32 → Int32 → Int32 → Int32) : Prop := ∀ M : ctM, PM M → (∀ j, 70 + 200 * t ≤ j → j < 270 + 200 * t → M.1 1 j = S j) → ∃ M' : ctM, fX7_worked 0 (nI t) M = some (g (nm0 key (M.1 16)) (nm1 key (M.1 16)) (nm2 key (M.1 16)), M') ∧ ScrM M M'
def EvM (S : Kv) (nt : Nat) (E : Ev) : Prop := nt ≤ 14 ∧ S 1 = nI nt ∧ ∀ key, key < 3 → (cntS (kfS S) (nI key) nt = -1 ∧ E key = none) ∨ ∃ (t : Nat) (g : Int32 → Int32 → Int32 → Int32), t < nt ∧ cntS (kfS S) (nI key) nt = nI t ∧ E key = some g ∧ TextOk key t S g
theorem cntS_congr {k1 k2 : Nat → Int32} {key : Int32} : ∀ nt, (∀ t, t < nt → k1 t = k2 t) → cntS k1 key nt = cntS k2 key nt := by
  intro nt
  induction nt with
  | zero => intro _; rfl
  | succ t ih =>
    intro h
    simp only [cntS, h t (by omega), ih (fun u hu => h u (by omega))]
theorem EvM.congr {S S' : Kv} {nt : Nat} {E : Ev} (h : EvM S nt E) (hs : ∀ j, j = 1 ∨ 70 ≤ j → S' j = S j) : EvM S' nt E := by
  obtain ⟨h1, h2, h3⟩ := h
  refine ⟨h1, (hs 1 (Or.inl rfl)).trans h2, fun key hk => ?_⟩
  have e : cntS (kfS S') (nI key) nt = cntS (kfS S) (nI key) nt := cntS_congr nt (fun t _ => hs _ (Or.inr (by omega)))
  rw [e]
  rcases h3 key hk with h | ⟨t, g, g1, g2, g3, g4⟩
  · exact Or.inl h
  · exact Or.inr ⟨t, g, g1, g2, g3, fun M p q => g4 M p (fun j a b => (q j a b).trans (hs j (Or.inr (by omega))))⟩
section
variable {M : ctM} {E : Ev} {n nt : Nat}
theorem m_counts_l (h : PM M) (hn : nt ≤ 14) (h1 : M.1 1 1 = nI nt) (key : Int32) : ∀ (m j N : Nat), j + m = nt → m < N → fX7_counts_h4 N 0 key (cntS (kfS (M.1 1)) key j) (nI j) M = some (cntS (kfS (M.1 1)) key nt, M) := by
  intro m
  induction m with
  | zero =>
    intro j N hj hN
    obtain ⟨N, rfl⟩ : ∃ k, N = k + 1 := ⟨N - 1, by omega⟩
    have : j = nt := by omega
    subst this
    rw [fX7_counts_h4]
    simp only [gM0 h, Option.bind_some]
    rw [show (1 : Int32) = nI 1 from rfl, m_s (by decide), h1]
    simp only [Option.bind_some]
    rw [if_pos (nI_le (Nat.le_refl _) (by omega))]
  | succ m ih =>
    intro j N hj hN
    obtain ⟨N, rfl⟩ : ∃ k, N = k + 1 := ⟨N - 1, by omega⟩
    rw [fX7_counts_h4]
    simp only [gM0 h, Option.bind_some]
    rw [show (1 : Int32) = nI 1 from rfl, m_s (by decide), h1]
    simp only [Option.bind_some]
    rw [if_neg (nI_ge (show j < nt by omega) (by omega))]
    simp only [m_cV, m_textAt, Option.bind_some]
    rw [m_s (show 70 + 200 * j < 3070 by omega)]
    simp only [Option.bind_some]
    have hx := ih (j + 1) N (by omega) (by omega)
    rw [← nI_1] at hx
    by_cases hk : M.1 1 (70 + 200 * j) = key
    · rw [if_pos hk]
      unfold fX7_counts_b33
      simp only [cntS, kfS, if_pos hk] at hx
      exact hx
    · rw [if_neg hk]
      unfold fX7_counts_b33
      simp only [cntS, kfS, if_neg hk] at hx
      exact hx
theorem m_counts (h : PM M) (hn : nt ≤ 14) (h1 : M.1 1 1 = nI nt) (key : Int32) : fX7_counts 0 key M = some (cntS (kfS (M.1 1)) key nt, M) := by
  unfold fX7_counts
  have := m_counts_l h hn h1 key nt 0 4000 (by omega) (by omega)
  rw [show nI 0 = (0 : Int32) from rfl] at this
  exact this
theorem nI_nn {t : Nat} (h : t < 100) : ¬ nI t < 0 := nI_pos (by omega)
theorem m_pace (h : PM M) (hi : Inv (M.1 1) n) (he : EvM (M.1 1) nt E) {f : Nat} (hf : f < n) : ∃ M', fX7_pace 0 (nI f) M = some (paceS E (M.1 1) f, M') ∧ ScrM M M' := by
  have hf8 : f < 8 := by have := hi.1; omega
  obtain ⟨e1, e2, e3⟩ := he
  have key : ∀ (M' : ctM) (v : Int32), ScrM M M' → fX7_pace_b53 0 (nI f) v M' = some (kPace (fl (M.1 1) f 0) v, M') := by
    intro M' v hs
    unfold fX7_pace_b53 kPace
    rw [m_cV, m_of0 (hs.pm h) hf8, hs.s]
    simp only [Option.bind_some]
    (repeat' split) <;> rfl
  unfold fX7_pace
  rw [m_cV, m_of3 h hf8]
  simp only [Option.bind_some, m_cV]
  rw [m_counts h e1 e2 0]
  simp only [Option.bind_some]
  rcases e3 0 (by decide) with ⟨c1, c2⟩ | ⟨t, g, g1, g2, g3, g4⟩
  · have c1 : cntS (kfS (M.1 1)) 0 nt = -1 := c1
    rw [c1, if_pos (by decide), key M _ ScrM.rf]
    refine ⟨M, ?_, ScrM.rf⟩
    simp only [paceS, c2]
  · have g2 : cntS (kfS (M.1 1)) 0 nt = nI t := g2
    have hs : ScrM M (ctI (ctI M 16 115 (fl (M.1 1) f 3)) 16 110 (nI f)) := ScrM.tr ScrM.nm ScrM.nm
    obtain ⟨M2, w1, w2⟩ := g4 _ (hs.pm h) (fun j _ _ => by rw [hs.s])
    rw [g2, if_neg (nI_nn (by omega))]
    have q1 : PM (ctI M 16 115 (fl (M.1 1) f 3)) := h
    simp only [gM29 h, gM29 q1, Option.bind_some, m_n115, m_n110, w1, m_within]
    rw [key M2 _ (hs.tr w2)]
    refine ⟨M2, ?_, hs.tr w2⟩
    simp only [paceS, g3, nm0, nm1, nm2, ctI_1, va_up]
    rfl
theorem m_pushOf (h : PM M) (hi : Inv (M.1 1) n) (he : EvM (M.1 1) nt E) {f g : Nat} (hf : f < n) (hg : g < n) : ∃ M', fX7_pushOf 0 (nI f) (nI g) M = some (pushS E (M.1 1) f g, M') ∧ ScrM M M' := by
  have hf8 : f < 8 := by have := hi.1; omega
  have hg8 : g < 8 := by have := hi.1; omega
  obtain ⟨e1, e2, e3⟩ := he
  unfold fX7_pushOf pushS
  rw [m_cV, m_isLit h f hf8]
  simp only [Option.bind_some]
  by_cases l1 : fl (M.1 1) f 5 ≤ 0
  · refine ⟨M, ?_, ScrM.rf⟩
    simp only [if_pos l1, if_true]
  simp only [if_neg l1, m_cV]
  rw [if_neg (by decide), m_isLit h g hg8]
  simp only [Option.bind_some]
  by_cases l2 : fl (M.1 1) g 5 ≤ 0
  · refine ⟨M, ?_, ScrM.rf⟩
    simp only [if_pos l2, if_true]
  simp only [if_neg l2]
  rw [if_neg (by decide), gM0 h]
  simp only [Option.bind_some]
  rw [m_gl hf8]
  simp only [Option.bind_some]
  by_cases l3 : M.1 1 (6 + f) >>> (nI g &&& 31) &&& 1 = 1
  · refine ⟨M, ?_, ScrM.rf⟩
    rw [if_pos l3, if_pos (show gbS (M.1 1 (6 + f)) g = 1 from l3)]
  rw [if_neg l3, if_neg (show ¬ gbS (M.1 1 (6 + f)) g = 1 from l3)]
  simp only [m_of1 h hf8, m_of1 h hg8, m_of2 h hf8, m_of2 h hg8, m_of4 h hf8, m_of4 h hg8, m_off, m_ahead, Option.bind_some]
  rw [m_counts h e1 e2 1]
  simp only [Option.bind_some]
  rcases e3 1 (by decide) with ⟨c1, c2⟩ | ⟨t, e, g1, g2, g3, g4⟩
  · have c1 : cntS (kfS (M.1 1)) 1 nt = -1 := c1
    rw [c1, if_neg (by decide), gM0 h]
    refine ⟨M, ?_, ScrM.rf⟩
    simp only [Option.bind_some, m_s3, m_s4, c2, distS, if_sp]
    rfl
  · have g2 : cntS (kfS (M.1 1)) 1 nt = nI t := g2
    have hs : ScrM M (ctI (ctI (ctI M 16 100 (distS (M.1 1) f g)) 16 112 (ahS (fl (M.1 1) g 4) (fl (M.1 1) f 4))) 16 115 (fl (M.1 1) g 3)) := ScrM.tr (ScrM.tr ScrM.nm ScrM.nm) ScrM.nm
    obtain ⟨M2, w1, w2⟩ := g4 _ (hs.pm h) (fun j _ _ => by rw [hs.s])
    rw [g2, if_pos (nI_pos' (by omega))]
    have q1 : PM (ctI (ctI M 16 100 (distS (M.1 1) f g)) 16 112 (ahS (fl (M.1 1) g 4) (fl (M.1 1) f 4))) := h
    have q2 := m_of3 q1 hg8
    rw [ctI_ne (by decide), ctI_ne (by decide)] at q2
    unfold distS at hs w1 q2
    have q0 : PM (ctI M 16 100 (distS (M.1 1) f g)) := h
    unfold distS at q0 q1
    simp only [gM29 h, gM29 q0, gM29 q1, Option.bind_some, m_n100, m_n112, m_n115, q2, w1, m_within]
    refine ⟨M2, ?_, hs.tr w2⟩
    simp only [g3, nm0, nm1, nm2, ctI_1, va_up, distS]
    rfl
theorem m_pushes_l (h : PM M) (hi : Inv (M.1 1) n) (he : EvM (M.1 1) nt E) {f : Nat} (hf : f < n) : ∀ (m j N : Nat) (M1 : ctM), ScrM M M1 → j + m = n → m < N → ∃ M', fX7_pushes_h4 N 0 (nI f) (psumS E (M.1 1) f j) (nI j) M1 = some (psumS E (M.1 1) f n, M') ∧ ScrM M M' := by
  have hn := hi.1
  intro m
  induction m with
  | zero =>
    intro j N M1 hs hj hN
    obtain ⟨N, rfl⟩ : ∃ k, N = k + 1 := ⟨N - 1, by omega⟩
    have : j = n := by omega
    subst this
    rw [fX7_pushes_h4]
    simp only [gM0 (hs.pm h), Option.bind_some, m_s0, hs.s, hi.2.1]
    rw [if_pos (nI_le (Nat.le_refl _) (by omega))]
    exact ⟨M1, rfl, hs⟩
  | succ m ih =>
    intro j N M1 hs hj hN
    obtain ⟨N, rfl⟩ : ∃ k, N = k + 1 := ⟨N - 1, by omega⟩
    rw [fX7_pushes_h4]
    simp only [gM0 (hs.pm h), Option.bind_some, m_s0, hs.s, hi.2.1]
    rw [if_neg (nI_ge (show j < n by omega) (by omega))]
    by_cases hjf : j = f
    · subst hjf
      rw [if_pos rfl]
      unfold fX7_pushes_b30
      obtain ⟨M', q1, q2⟩ := ih (j + 1) N M1 hs (by omega) (by omega)
      refine ⟨M', ?_, q2⟩
      rw [← q1, ← nI_1]
      simp only [psumS, if_true]
    · rw [if_neg (by rw [nI_eq (by omega) (by omega)]; exact hjf), m_cV]
      obtain ⟨M2, w1, w2⟩ := m_pushOf (hs.pm h) (by rw [hs.s]; exact hi) (by rw [hs.s]; exact he) hf (show j < n by omega)
      rw [w1]
      simp only [Option.bind_some]
      unfold fX7_pushes_b30
      obtain ⟨M', q1, q2⟩ := ih (j + 1) N M2 (hs.tr w2) (by omega) (by omega)
      refine ⟨M', ?_, q2⟩
      rw [← q1, ← nI_1, hs.s]
      simp only [psumS, if_neg hjf]
theorem m_pushes (h : PM M) (hi : Inv (M.1 1) n) (he : EvM (M.1 1) nt E) {f : Nat} (hf : f < n) : ∃ M', fX7_pushes 0 (nI f) M = some (psumS E (M.1 1) f n, M') ∧ ScrM M M' := m_pushes_l h hi he hf n 0 4000 M ScrM.rf (by omega) (by have := hi.1; omega)
/-- all but z -/
def zK (K : Kv) (z : Int32) : Kv := va_up K 5 z
theorem fl_z {K : Kv} {z : Int32} {f k : Nat} : fl (zK K z) f k = fl K f k := va_up_ne' (by omega)
theorem K_z {K : Kv} {z : Int32} {j : Nat} (h : j ≠ 5) : zK K z j = K j := va_up_ne' h
theorem Inv_z {K : Kv} {z : Int32} (h : Inv K n) : Inv (zK K z) n := by
  obtain ⟨h1, h2, h3, h4, h5⟩ := h
  refine ⟨h1, by rw [K_z (by decide)]; exact h2, fun f hf => ?_, fun i hi => ?_, fun i hi hj => ?_⟩
  · simp only [fl_z]; exact h3 f hf
  · rw [K_z (by omega)]; exact h4 i hi
  · rw [K_z (by omega)]; exact h5 i hi hj
theorem EvM_z {K : Kv} {z : Int32} (h : EvM K nt E) : EvM (zK K z) nt E := h.congr (fun j hj => K_z (by omega))
theorem paceS_z {K : Kv} {z : Int32} {f : Nat} : paceS E (zK K z) f = paceS E K f := by simp only [paceS, fl_z]
theorem pushS_z {K : Kv} {z : Int32} {f g : Nat} : pushS E (zK K z) f g = pushS E K f g := by
  simp only [pushS, distS, fl_z, K_z (show 3 ≠ 5 by decide), K_z (show 4 ≠ 5 by decide), K_z (show 6 + f ≠ 5 by omega)]
  rfl
theorem psumS_z {K : Kv} {z : Int32} {f : Nat} : ∀ j, psumS E (zK K z) f j = psumS E K f j := by
  intro j
  induction j with
  | zero => rfl
  | succ j ih => simp only [psumS, ih, pushS_z]
/-- behind a piece of a tick: the scratch, and z -/
def TkM (M : ctM) (K : Kv) (M' : ctM) : Prop := M'.2 = M.2 ∧ M'.1 1 = K ∧ ∀ b, b ≠ 1 → b ≠ 12 → b ≠ 16 → b ≠ 17 → M'.1 b = M.1 b
theorem TkM.rf : TkM M (M.1 1) M := ⟨rfl, rfl, fun _ _ _ _ _ => rfl⟩
theorem TkM.scr {K : Kv} {M1 M2 : ctM} (h : TkM M K M1) (s : ScrM M1 M2) : TkM M K M2 := ⟨s.1.trans h.1, s.s.trans h.2.1, fun b h1 h2 h3 h4 => (s.2 b h3 h4).trans (h.2.2 b h1 h2 h3 h4)⟩
theorem TkM.pm {K : Kv} {M1 : ctM} (h : TkM M K M1) (p : PM M) : PM M1 := fun k hk => by rw [h.1]; exact p k hk
theorem TkM.put {K : Kv} {M1 : ctM} (h : TkM M K M1) (j : Nat) (v : Int32) : TkM M (va_up K j v) (ctI M1 1 j v) := ⟨h.1, by rw [ctI_1, h.2.1], fun b h1 h2 h3 h4 => (ctI_ne h1).trans (h.2.2 b h1 h2 h3 h4)⟩
theorem m_drawn {K : Kv} {M1 : ctM} (p : PM M) (h : TkM M K M1) : fX7_drawn 0 M1 = some (drV (drZ (K 5)), ctI M1 1 5 (drZ (K 5))) := by
  unfold fX7_drawn
  have q := h.pm p
  have q2 : PM (ctI M1 1 5 (K 5 * 1103515245 + 12345)) := q
  simp only [gM0 q, Option.bind_some, m_s5, m_ss5, h.2.1]
  rw [gM0 q2]
  simp only [Option.bind_some, m_s5, ctI_1, va_up_eq']
  rfl
theorem m_wind {K : Kv} {z : Int32} {M1 : ctM} (p : PM M) (h : TkM M (zK K z) M1) (hi : Inv K n) (he : EvM K nt E) (f : Nat) : ∃ M2, fX7_wind 0 (nI f) M1 = some (windV E K z f, M2) ∧ TkM M (zK K (windZ E z)) M2 ∧ M2.1 12 = M1.1 12 := by
  have q := h.pm p
  obtain ⟨e1, e2, e3⟩ := EvM_z (z := z) he
  rw [← h.2.1] at e2 e3
  unfold fX7_wind
  rw [m_cV, m_counts q e1 e2 2]
  simp only [Option.bind_some]
  rcases e3 2 (by decide) with ⟨c1, c2⟩ | ⟨t, g, g1, g2, g3, g4⟩
  · have c1 : cntS (kfS (M1.1 1)) 2 nt = -1 := c1
    rw [c1, if_neg (by decide), m_cV, m_drawn p h]
    refine ⟨ctI M1 1 5 (drZ (zK K z 5)), ?_, ?_, ctI_ne (by decide)⟩
    · simp only [Option.bind_some, windV, c2, zK, va_up_eq']
    · have := h.put 5 (drZ (zK K z 5))
      simp only [zK, va_up_eq', bx_uu] at this ⊢
      simp only [windZ, c2]
      exact this
  · have g2 : cntS (kfS (M1.1 1)) 2 nt = nI t := g2
    have hs : ScrM M1 (ctI (ctI M1 16 116 (M1.1 1 2)) 16 110 (nI f)) := ScrM.tr ScrM.nm ScrM.nm
    obtain ⟨M2, w1, w2⟩ := g4 _ (hs.pm q) (fun j _ _ => by rw [hs.s])
    have q1 : PM (ctI M1 16 116 (M1.1 1 2)) := q
    rw [g2, if_pos (nI_pos' (by omega))]
    simp only [gM29 q, gM0 q, gM29 q1, Option.bind_some, m_s2, m_n116, m_n110, m_cV, w1, m_within]
    refine ⟨M2, ?_, ?_, ((hs.tr w2).2 12 (by decide) (by decide))⟩
    · simp only [windV, g3, nm0, nm1, nm2, ctI_1, va_up]
      rw [h.2.1, K_z (by decide)]
      rfl
    · simp only [windZ, g3]
      exact h.scr (hs.tr w2)
theorem m_turned {K : Kv} {z : Int32} {M1 : ctM} (p : PM M) (h : TkM M (zK K z) M1) (hi : Inv K n) (he : EvM K nt E) {f : Nat} (hf : f < n) : ∃ M2, fX7_turned 0 (nI f) M1 = some (kTurn (fl K f 0) (psumS E K f n) (windV E K z f), M2) ∧ TkM M (zK K (if fl K f 0 = 5 then windZ E z else z)) M2 ∧ M2.1 12 = M1.1 12 := by
  have q := h.pm p
  have hf8 : f < 8 := by have := hi.1; omega
  obtain ⟨M2, w1, w2⟩ := m_pushes q (by rw [h.2.1]; exact Inv_z hi) (by rw [h.2.1]; exact EvM_z he) hf
  rw [h.2.1, psumS_z] at w1
  have h2 := h.scr w2
  have q2 := h2.pm p
  have e12 : M2.1 12 = M1.1 12 := w2.2 12 (by decide) (by decide)
  unfold fX7_turned
  rw [m_cV, w1]
  simp only [Option.bind_some, m_cV]
  rw [m_of0 q2 hf8, h2.2.1, fl_z]
  simp only [Option.bind_some]
  unfold kTurn
  by_cases k5 : fl K f 0 = 5
  · have k1 : ¬ fl K f 0 = 1 := by rw [k5]; decide
    have k2 : ¬ fl K f 0 = 2 := by rw [k5]; decide
    have k3 : ¬ fl K f 0 = 3 := by rw [k5]; decide
    have k4 : ¬ fl K f 0 = 4 := by rw [k5]; decide
    simp only [if_neg k1, if_neg k2, if_neg k3, if_neg k4, if_pos k5]
    obtain ⟨M3, v1, v2, v3⟩ := m_wind p h2 hi he f
    rw [v1]
    exact ⟨M3, rfl, v2, v3.trans e12⟩
  simp only [if_neg k5]
  refine ⟨M2, ?_, h2, e12⟩
  by_cases k4 : fl K f 0 = 4
  · have k1 : ¬ fl K f 0 = 1 := by rw [k4]; decide
    have k2 : ¬ fl K f 0 = 2 := by rw [k4]; decide
    have k3 : ¬ fl K f 0 = 3 := by rw [k4]; decide
    simp only [if_neg k1, if_neg k2, if_neg k3, if_pos k4]
    rw [m_isInL _ (-4) 4 (-4) 4 (by decide) (by decide)]
    simp only [Option.bind_some]
    by_cases hr : -4 ≤ psumS E K f n ∧ psumS E K f n ≤ 4
    · simp only [if_pos hr]; rfl
    · simp only [if_neg hr, if_true]
  simp only [if_neg k4, if_sp]
end
