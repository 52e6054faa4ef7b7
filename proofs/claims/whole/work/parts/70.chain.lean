/-! chains of signs -/
def lvS (x : Int32) : Int32 := if x = 38 then 1 else if x = 42 then 4 else if x = 43 then 3 else if x = 45 then 3 else if x = 47 then 4 else if x = 60 then 2 else if x = 61 then 2 else if x = 62 then 2 else if x = 124 then 0 else -1
theorem c_levelOf (x : Int32) {M : ctM} : fX5_levelOf x M = some (lvS x, M) := by
  unfold fX5_levelOf lvS
  by_cases h38 : x = 38
  · rw [if_pos h38, if_pos h38]
  rw [if_neg h38, if_neg h38]
  by_cases h42 : x = 42
  · rw [if_pos h42, if_pos h42]
  rw [if_neg h42, if_neg h42]
  by_cases h43 : x = 43
  · rw [if_pos h43, if_pos h43]
  rw [if_neg h43, if_neg h43]
  by_cases h45 : x = 45
  · rw [if_pos h45, if_pos h45]
  rw [if_neg h45, if_neg h45]
  by_cases h47 : x = 47
  · rw [if_pos h47, if_pos h47]
  rw [if_neg h47, if_neg h47]
  by_cases h60 : x = 60
  · rw [if_pos h60, if_pos h60]
  rw [if_neg h60, if_neg h60]
  by_cases h61 : x = 61
  · rw [if_pos h61, if_pos h61]
  rw [if_neg h61, if_neg h61]
  by_cases h62 : x = 62
  · rw [if_pos h62, if_pos h62]
  rw [if_neg h62, if_neg h62]
  by_cases h124 : x = 124
  · rw [if_pos h124, if_pos h124]
  rw [if_neg h124, if_neg h124]
theorem lv_all (x : Int32) : (lvS x = 0 ↔ x = 124) ∧ (lvS x = 1 ↔ x = 38) ∧ (lvS x = 2 ↔ (x = 60 ∨ x = 61 ∨ x = 62)) ∧ (lvS x = 3 ↔ (x = 43 ∨ x = 45)) ∧ (lvS x = 4 ↔ (x = 42 ∨ x = 47)) := by
  by_cases h38 : x = 38
  · subst h38; decide
  by_cases h42 : x = 42
  · subst h42; decide
  by_cases h43 : x = 43
  · subst h43; decide
  by_cases h45 : x = 45
  · subst h45; decide
  by_cases h47 : x = 47
  · subst h47; decide
  by_cases h60 : x = 60
  · subst h60; decide
  by_cases h61 : x = 61
  · subst h61; decide
  by_cases h62 : x = 62
  · subst h62; decide
  by_cases h124 : x = 124
  · subst h124; decide
  have e : lvS x = -1 := by unfold lvS; rw [if_neg h38, if_neg h42, if_neg h43, if_neg h45, if_neg h47, if_neg h60, if_neg h61, if_neg h62, if_neg h124]
  rw [e]
  exact ⟨⟨fun z => absurd z (by decide), fun z => absurd z h124⟩, ⟨fun z => absurd z (by decide), fun z => absurd z h38⟩, ⟨fun z => absurd z (by decide), by rintro (z | z | z); exact absurd z h60; exact absurd z h61; exact absurd z h62⟩, ⟨fun z => absurd z (by decide), by rintro (z | z); exact absurd z h43; exact absurd z h45⟩, ⟨fun z => absurd z (by decide), by rintro (z | z); exact absurd z h42; exact absurd z h47⟩⟩
theorem lv_op {x : Int32} {l : Nat} (hl : l < 5) (h : lvS x = nI l) : isOp x := by
  obtain ⟨a0, a1, a2, a3, a4⟩ := lv_all x
  unfold isOp
  rcases (by omega : l = 0 ∨ l = 1 ∨ l = 2 ∨ l = 3 ∨ l = 4) with rfl | rfl | rfl | rfl | rfl
  · have := a0.mp h; simp [this]
  · have := a1.mp h; simp [this]
  · rcases a2.mp h with z | z | z <;> simp [z]
  · rcases a3.mp h with z | z <;> simp [z]
  · rcases a4.mp h with z | z <;> simp [z]
theorem op_nn {x : Int32} (h : isOp x) : 0 ≤ x := by
  unfold isOp at h
  rcases h with h | h | h | h | h | h | h | h | h <;> subst h <;> decide
def LRes (B : Nat → Nat) (len key c base : Nat) (Mc0 Mm0 Mm : ctM) (st m o t : Nat) (σ : List Nat) (F G : Option (Int32 × ctM)) : Prop :=
  (∃ (Mc' Mm' : ctM) (st' en' m' : Nat), F = some (nI (m' - 1), Mc') ∧ G = some (1, Mm') ∧ PS B len key c base Mc0 Mm0 Mc' Mm' st' en' m' o t ∧ m ≤ m' ∧ m' + st ≤ m + st' ∧ stkS (wM base Mm') (vM base Mm') m' = (m' - 1) :: σ ∧ ∀ j, j < 2 * m → Mm'.1 1 (base + j) = Mm.1 1 (base + j)) ∨
  (∃ (Mc' Mm' : ctM) (st' : Nat), F = some (-1, Mc') ∧ G = some (0, Mm') ∧ FRc c Mc0 Mc' ∧ FRm base Mm0 Mm' ∧ Mc'.1 4 5 = nI st' ∧ Mm'.1 0 19 = nI st' ∧ st' ≤ 96)
section
variable {B : Nat → Nat} {len key c base : Nat} {Mc0 Mm0 Mc Mm Mc' Mm' M : ctM} {st en m o t : Nat} {le : Int32} {F G : Nat → Nat → Int32 → Int32 → Int32 → ctM → Option (Int32 × ctM)} {l : Nat}
theorem tk_sign (h : PS B len key c base Mc0 Mm0 Mc Mm st en m o t) (hx : 0 ≤ Mc.1 4 4) : st < len ∧ en = st + 1 ∧ Mm.1 0 23 = Mc.1 4 4 := by
  rcases h.2.1.2.2.2.2 with ⟨_, _, e1, e2⟩ | ⟨a1, _, e1, e2, _⟩ | ⟨a1, _, e1, _, e2, _⟩ | ⟨a1, _, e1, _, e2⟩ | ⟨_, _, e1, e2⟩ | ⟨a1, a2, e1, e2, e3, n1, n2⟩
  · rw [e1] at hx; exact absurd hx (by decide)
  · rw [e1] at hx; exact absurd hx (by decide)
  · rw [e1] at hx; exact absurd hx (by decide)
  · rw [e1] at hx; exact absurd hx (by decide)
  · rw [e1] at hx; exact absurd hx (by decide)
  · exact ⟨a1, a2, by rw [e1, e3]⟩
/-- a sign and what stands behind it -/
theorem round_ok (cs : Cst B len key c base Mc0 Mm0) (ih : ∀ (Mc Mm : ctM) (st en m : Nat), PS B len key c base Mc0 Mm0 Mc Mm st en m o t → Res B len key c base Mc0 Mm0 Mm st m o t (F 0 4 (nI (l + 1)) (nI o) (nI t) Mc) (G (l + 1) 0 (nI key) 0 0 Mm)) (h : PS B len key c base Mc0 Mm0 Mc Mm st en m o t) (h1 : 1 ≤ m) {σ : List Nat} (sk : stkS (wM base Mm) (vM base Mm) m = (m - 1) :: σ) (hop : isOp (Mc.1 4 4)) :
    (∃ (A A2 Mc' B1 B2 Mm' : ctM) (q st' en' m' : Nat), fX5_advance 4 Mc = some A ∧ F 0 4 (nI (l + 1)) (nI o) (nI t) A = some (nI q, A2) ∧ q < 96 ∧ gP kdC 5 6 4 A2 = some c ∧ fX1_addStep c (Mc.1 4 4) (nI (m - 1)) (nI q) A2 = some (nI (m' - 1), Mc') ∧ fX7_nextToken 0 Mm = some B1 ∧ G (l + 1) 0 (nI key) 0 0 B1 = some (1, B2) ∧ fX7_step 0 2 (Mc.1 4 4) B2 = some Mm' ∧ PS B len key c base Mc0 Mm0 Mc' Mm' st' en' m' o t ∧ m < m' ∧ st < st' ∧ m' + st ≤ m + st' ∧ stkS (wM base Mm') (vM base Mm') m' = (m' - 1) :: σ ∧ ∀ j, j < 2 * m → Mm'.1 1 (base + j) = Mm.1 1 (base + j)) ∨
    (∃ (A A2 B1 B2 : ctM) (st' : Nat), fX5_advance 4 Mc = some A ∧ F 0 4 (nI (l + 1)) (nI o) (nI t) A = some (-1, A2) ∧ fX7_nextToken 0 Mm = some B1 ∧ G (l + 1) 0 (nI key) 0 0 B1 = some (0, B2) ∧ FRc c Mc0 A2 ∧ FRm base Mm0 B2 ∧ A2.1 4 5 = nI st' ∧ B2.1 0 19 = nI st' ∧ st' ≤ 96) := by
  obtain ⟨c1, c2, c3, c4, c5, c6, c7, c8⟩ := id cs
  obtain ⟨s1, s2, s3⟩ := tk_sign h (op_nn hop)
  have nn := op_nn hop
  obtain ⟨A, B1, st1, en1, y1, y2, y3, y4, y5, y6⟩ := ps_adv cs h (fun z => by rw [z] at nn; exact absurd nn (by decide)) (fun z => by rw [z] at nn; exact absurd nn (by decide))
  have p1 : ∀ j, B1.1 1 j = Mm.1 1 j := fun j => by rw [y4.2.1 1 (by decide)]
  have hms := h.2.2.2.2
  rcases ih A B1 st1 en1 m y6 with ⟨A2, B2, st2, en2, m2, z1, z2, z3, z4, z5, z6, z7⟩ | ⟨A2, B2, st2, z1, z2, z3, z4, z5, z6, z7⟩
  · have hl2 := tk_le z3.2.1.2.2.2.2
    have lt : m2 < st2 := by omega
    have sk2 : stkS (wM base B2) (vM base B2) m2 = (m2 - 1) :: (m - 1) :: σ := by rw [z6, stk_of (Mm := Mm) (fun j _ => p1 _), sk]
    obtain ⟨l1, l2, l3⟩ := ps_lay cs z3 lt 2 (Mc.1 4 4) (Mc.1 4 4) (nI (m - 1)) (nI (m2 - 1)) (fun w' v' a' l' r' q1 q2 q3 q4 q5 => Or.inr (Or.inr (Or.inr ⟨q1, q3.trans q2.symm, by rw [q2]; exact hop, m2 - 1, m - 1, σ, sk2, q4, q5⟩)))
    have add := c_addStep cs z3 lt (p := m - 1) (q := m2 - 1) (by omega) (by omega) (Mc.1 4 4)
    obtain ⟨_, _, ⟨_, cl2, ml2⟩, _, _⟩ := id z3
    refine Or.inl ⟨A, A2, _, B1, B2, _, m2 - 1, st2, en2, m2 + 1, y1, z1, by omega, (gP_at (show kdC 4 = 5 from rfl)).trans (by rw [cl2.1.1]; exact c4), add.trans l1, y2, z2, l2, l3, by omega, by omega, by omega, stk_op (isOp_ne hop).2.2 sk2, fun j hj => ?_⟩
    rw [(mLay_at (base := base) (Mm := B2) (m := m2) (wh := 2) (v := Mc.1 4 4)).1 j (by omega), z7 j hj, p1]
  · exact Or.inr ⟨A, A2, B1, B2, st2, y1, z1, y2, z2, z3, z4, z5, z6, z7⟩
theorem c_lost {N : Nat} {x y w i u : Int32} (hN : 0 < N) : fX5_chain_h39 F N 4 x y w (-1) u i M = some (-1, M) := by
  obtain ⟨N, rfl⟩ : ∃ k, N = k + 1 := ⟨N - 1, by omega⟩
  rw [fX5_chain_h39]
  by_cases q : u ≤ i
  · rw [if_pos q]
  · rw [if_neg q, if_pos (by decide)]
theorem loop_ok (cs : Cst B len key c base Mc0 Mm0) (hl5 : l < 5) (ih : ∀ (Mc Mm : ctM) (st en m : Nat), PS B len key c base Mc0 Mm0 Mc Mm st en m o t → Res B len key c base Mc0 Mm0 Mm st m o t (F 0 4 (nI (l + 1)) (nI o) (nI t) Mc) (G (l + 1) 0 (nI key) 0 0 Mm)) {H : Nat → ctM → Option (Int32 × ctM)}
    (stop : ∀ (N : Nat) (Mc Mm : ctM) (st en m : Nat), PS B len key c base Mc0 Mm0 Mc Mm st en m o t → ¬ lvS (Mc.1 4 4) = nI l → H (N + 1) Mm = some (1, Mm))
    (go : ∀ (N : Nat) (Mc Mm : ctM) (st en m : Nat), PS B len key c base Mc0 Mm0 Mc Mm st en m o t → lvS (Mc.1 4 4) = nI l → H (N + 1) Mm = (fX7_nextToken 0 Mm).bind fun r => (G (l + 1) 0 (nI key) 0 0 r).bind fun q => if q.1 = 0 then some (0, q.2) else (fX7_step 0 2 (Mc.1 4 4) q.2).bind fun u => H N u) :
    ∀ (k N N2 : Nat) (Mc Mm : ctM) (st en m i : Nat) (σ : List Nat), len - st ≤ k → k + 1 < N → k < N2 → PS B len key c base Mc0 Mm0 Mc Mm st en m o t → i < m → stkS (wM base Mm) (vM base Mm) m = (m - 1) :: σ → LRes B len key c base Mc0 Mm0 Mm st m o t σ (fX5_chain_h39 F N 4 (nI l) (nI o) (nI t) (nI (m - 1)) 96 (nI i) Mc) (H N2 Mm) := by
  obtain ⟨c1, c2, c3, c4, c5, c6, c7, c8⟩ := id cs
  intro k
  induction k with
  | zero =>
    intro N N2 Mc Mm st en m i σ hk hN hN2 h hi sk
    obtain ⟨N, rfl⟩ : ∃ k, N = k + 1 := ⟨N - 1, by omega⟩
    obtain ⟨N2, rfl⟩ : ∃ k, N2 = k + 1 := ⟨N2 - 1, by omega⟩
    have hl := tk_le h.2.1.2.2.2.2
    have hms := h.2.2.2.2
    have nl : ¬ lvS (Mc.1 4 4) = nI l := fun z => by have := tk_sign h (op_nn (lv_op hl5 z)); omega
    refine Or.inl ⟨Mc, Mm, st, en, m, ?_, stop N2 Mc Mm st en m h nl, h, Nat.le_refl _, by omega, sk, fun _ _ => rfl⟩
    rw [fX5_chain_h39, if_neg (show ¬ (96 : Int32) ≤ nI i from nI_ge (b := 96) (by omega) (by decide)), if_neg (nI_pos (by omega)), t_g, bS, c_levelOf, bS, if_neg nl]
  | succ k ihk =>
    intro N N2 Mc Mm st en m i σ hk hN hN2 h hi sk
    obtain ⟨N, rfl⟩ : ∃ k, N = k + 1 := ⟨N - 1, by omega⟩
    obtain ⟨N2, rfl⟩ : ∃ k, N2 = k + 1 := ⟨N2 - 1, by omega⟩
    have hl := tk_le h.2.1.2.2.2.2
    have hms := h.2.2.2.2
    by_cases hlv : lvS (Mc.1 4 4) = nI l
    · have hop := lv_op hl5 hlv
      have ctop : fX5_chain_h39 F (N + 1) 4 (nI l) (nI o) (nI t) (nI (m - 1)) 96 (nI i) Mc = (fX5_advance 4 Mc).bind fun r27 => (F 0 4 (nI (l + 1)) (nI o) (nI t) r27).bind fun r28 => if 0 ≤ r28.1 then (gP kdC 5 6 4 r28.2).bind fun a30 => (cV kdC 1 a30 (fX1_addStep a30 (Mc.1 4 4) (nI (m - 1)) r28.1 r28.2)).bind fun r31 => fX5_chain_h39 F N 4 (nI l) (nI o) (nI t) r31.1 96 (nI (i + 1)) r31.2 else fX5_chain_h39 F N 4 (nI l) (nI o) (nI t) (-1) 96 (nI (i + 1)) r28.2 := by
        rw [fX5_chain_h39, if_neg (show ¬ (96 : Int32) ≤ nI i from nI_ge (b := 96) (by omega) (by decide)), if_neg (nI_pos (by omega)), t_g, bS, c_levelOf, bS, if_pos hlv, t_g, bS]
        unfold fX5_chain_b105
        simp only [t_cV, nI_1]
      rcases round_ok cs ih h (by omega) sk hop with ⟨A, A2, Mc', B1, B2, Mm', q, st', en', m', r1, r2, r3, r4, r5, r6, r7, r8, r9, r10, r11, r12, r13, r14⟩ | ⟨A, A2, B1, B2, st', r1, r2, r3, r4, r5⟩
      · rcases ihk N N2 Mc' Mm' st' en' m' (i + 1) σ (by omega) (by omega) (by omega) r9 (by omega) r13 with ⟨Mc3, Mm3, st3, en3, m3, x1, x2, x3, x4, x5, x6, x7⟩ | ⟨Mc3, Mm3, st3, x1, x2, x3⟩
        · refine Or.inl ⟨Mc3, Mm3, st3, en3, m3, ?_, ?_, x3, by omega, by omega, x6, fun j hj => (x7 j (by omega)).trans (r14 j hj)⟩
          · rw [ctop, r1, bS, r2, bS, if_pos (nI_pos' (by omega)), r4, bS, lw_cV c3, r5, bS]
            exact x1
          · rw [go N2 Mc Mm st en m h hlv, r6, bS, r7, bS, if_neg i_10, r8, bS]
            exact x2
        · refine Or.inr ⟨Mc3, Mm3, st3, ?_, ?_, x3⟩
          · rw [ctop, r1, bS, r2, bS, if_pos (nI_pos' (by omega)), r4, bS, lw_cV c3, r5, bS]
            exact x1
          · rw [go N2 Mc Mm st en m h hlv, r6, bS, r7, bS, if_neg i_10, r8, bS]
            exact x2
      · refine Or.inr ⟨A2, B2, st', ?_, ?_, r5⟩
        · rw [ctop, r1, bS, r2, bS, if_neg (show ¬ (0 : Int32) ≤ -1 by decide), c_lost (by omega)]
        · rw [go N2 Mc Mm st en m h hlv, r3, bS, r4, bS, if_pos rfl]
    · refine Or.inl ⟨Mc, Mm, st, en, m, ?_, stop N2 Mc Mm st en m h hlv, h, Nat.le_refl _, by omega, sk, fun _ _ => rfl⟩
      rw [fX5_chain_h39, if_neg (show ¬ (96 : Int32) ≤ nI i from nI_ge (b := 96) (by omega) (by decide)), if_neg (nI_pos (by omega)), t_g, bS, c_levelOf, bS, if_neg hlv]
/-- a level, but for tests -/
theorem level_ok (cs : Cst B len key c base Mc0 Mm0) (hl5 : l < 5) (hl2 : l ≠ 2) (ih : ∀ (Mc Mm : ctM) (st en m : Nat), PS B len key c base Mc0 Mm0 Mc Mm st en m o t → Res B len key c base Mc0 Mm0 Mm st m o t (F 0 4 (nI (l + 1)) (nI o) (nI t) Mc) (G (l + 1) 0 (nI key) 0 0 Mm)) {H : Nat → ctM → Option (Int32 × ctM)}
    (stop : ∀ (N : Nat) (Mc Mm : ctM) (st en m : Nat), PS B len key c base Mc0 Mm0 Mc Mm st en m o t → ¬ lvS (Mc.1 4 4) = nI l → H (N + 1) Mm = some (1, Mm))
    (go : ∀ (N : Nat) (Mc Mm : ctM) (st en m : Nat), PS B len key c base Mc0 Mm0 Mc Mm st en m o t → lvS (Mc.1 4 4) = nI l → H (N + 1) Mm = (fX7_nextToken 0 Mm).bind fun r => (G (l + 1) 0 (nI key) 0 0 r).bind fun q => if q.1 = 0 then some (0, q.2) else (fX7_step 0 2 (Mc.1 4 4) q.2).bind fun u => H N u)
    {N N2 : Nat} (hN : 200 < N) (hN2 : 200 < N2) (hC : ∀ x4 M, fX5_chain_b34 F 4 (nI l) (nI o) (nI t) x4 96 M = fX5_chain_h39 F N 4 (nI l) (nI o) (nI t) x4 96 0 M) (h : PS B len key c base Mc0 Mm0 Mc Mm st en m o t) : Res B len key c base Mc0 Mm0 Mm st m o t (fX5_chain F 4 (nI l) (nI o) (nI t) Mc) ((G (l + 1) 0 (nI key) 0 0 Mm).bind fun r21 => if r21.1 = 0 then some (0, r21.2) else H N2 r21.2) := by
  have l5 : nI l < 5 := nI_lt (b := 5) hl5 (by decide)
  have l2 : ¬ nI l = 2 := fun z => hl2 ((nI_eq (b := 2) (by omega) (by decide)).mp z)
  have ctop : fX5_chain F 4 (nI l) (nI o) (nI t) Mc = (F 0 4 (nI (l + 1)) (nI o) (nI t) Mc).bind fun r22 => fX5_chain_h39 F N 4 (nI l) (nI o) (nI t) r22.1 96 0 r22.2 := by
    unfold fX5_chain
    rw [if_pos l5, nI_1, t_cV]
    congr 1
    funext r22
    rw [if_neg l2, hC]
  rcases ih Mc Mm st en m h with ⟨Mc2, Mm2, st2, en2, m2, z1, z2, z3, z4, z5, z6, z7⟩ | ⟨Mc2, Mm2, st2, z1, z2, z3⟩
  · have hl := tk_le z3.2.1.2.2.2.2
    have tb := z3.1.1
    have lp := loop_ok cs hl5 ih stop go (len - st2) N N2 Mc2 Mm2 st2 en2 m2 0 _ (Nat.le_refl _) (by omega) (by omega) z3 (by omega) z6
    rw [nI_0] at lp
    rcases lp with ⟨Mc3, Mm3, st3, en3, m3, x1, x2, x3, x4, x5, x6, x7⟩ | ⟨Mc3, Mm3, st3, x1, x2, x3⟩
    · refine Or.inl ⟨Mc3, Mm3, st3, en3, m3, ?_, ?_, x3, by omega, by omega, x6, fun j hj => (x7 j (by omega)).trans (z7 j hj)⟩
      · rw [ctop, z1, bS]; exact x1
      · rw [z2, bS, if_neg i_10]; exact x2
    · refine Or.inr ⟨Mc3, Mm3, st3, ?_, ?_, x3⟩
      · rw [ctop, z1, bS]; exact x1
      · rw [z2, bS, if_neg i_10]; exact x2
  · refine Or.inr ⟨Mc2, Mm2, st2, ?_, ?_, z3⟩
    · rw [ctop, z1, bS, c_lost (by omega)]
    · rw [z2, bS, if_pos rfl]
end
