def nch (key i : Nat) : Nat := ([115, 110, 46, 100, 112, 115, 116, 110, 46] : List Nat).getD (3 * key + i) 0
def niF (key b : Nat) : Nat := if nch key 0 = b then 0 else if nch key 1 = b then 1 else if nch key 2 = b then 2 else 3
def nmV (x y : Int32) : Int32 := if x = 0 then (if y = 115 then 1 else if y = 110 then 1 else 0) else if x = 1 then (if y = 100 then 1 else if y = 112 then 1 else if y = 115 then 1 else 0) else (if y = 116 then 1 else if y = 110 then 1 else 0)
theorem ch_at : ∀ key, key < 3 → ∀ i, i < 3 → chA 1 ((3 * nI key) + nI i) = some (nI (nch key i)) := by decide +kernel
theorem nch_lt : ∀ key, key < 3 → ∀ i, i < 3 → nch key i < 256 := by decide +kernel
theorem niF_ok : ∀ key, key < 3 → ∀ b, b < 123 → 97 ≤ b → (niF key b < 3 → niF key b < naN key ∧ naC key (niF key b) = b) ∧ nmV (nI key) (nI b) = if niF key b < 3 then 1 else 0 := by decide +kernel
theorem sx_lo : ∀ b, b < 128 → sxB b = nI b := by decide +kernel
section
variable {B : Nat → Nat} {len key c base : Nat} {Mc0 Mm0 Mc Mm Mc' Mm' M : ctM} {st en m o t : Nat} {le : Int32}
theorem m_isName (x y : Int32) : fX7_isName x y M = some (nmV x y, M) := by
  unfold fX7_isName fX7_isName_b40 fX7_isName_b64 fX7_isName_b82 nmV
  by_cases h0 : x = 0
  · rw [if_pos h0, if_pos h0]
    by_cases a : y = 115
    · rw [if_pos a, if_pos a]
    rw [if_neg a, if_neg a]
    by_cases b : y = 110
    · rw [if_pos b, if_pos b]
    rw [if_neg b, if_neg b]
  rw [if_neg h0, if_neg h0]
  by_cases h1 : x = 1
  · rw [if_pos h1, if_pos h1]
    by_cases a : y = 100
    · rw [if_pos a, if_pos a]
    rw [if_neg a, if_neg a]
    by_cases b : y = 112
    · rw [if_pos b, if_pos b]
    rw [if_neg b, if_neg b]
    by_cases d : y = 115
    · rw [if_pos d, if_pos d]
    rw [if_neg d, if_neg d]
  rw [if_neg h1, if_neg h1]
  by_cases a : y = 116
  · rw [if_pos a, if_pos a]
  rw [if_neg a, if_neg a]
  by_cases b : y = 110
  · rw [if_pos b, if_pos b]
  rw [if_neg b, if_neg b]
/-- the class reads a number -/
theorem c_num (h : TB B len Mc Mm) (p : PC Mc) (he : en ≤ len) (h3 : Mc.1 4 3 = nI en) (hd : ∀ i, st ≤ i → i < en → 48 ≤ B i ∧ B i ≤ 57) : ∀ (d k N : Nat), st + k + d = en → d < N → fX5_number_h25 N 4 (dgS B st k) (nI (st + k)) Mc = ((fX5_advance 4 Mc).bind fun r23 => (gP kdC 5 6 4 r23).bind fun a24 => (cV kdC 1 a24 (fX1_addLeaf a24 0 (dgS B st (en - st)) r23)).bind fun r25 => some (r25.1, r25.2)) := by
  intro d
  have l := h.1
  induction d with
  | zero =>
    intro k N hk hN
    obtain ⟨N, rfl⟩ : ∃ k, N = k + 1 := ⟨N - 1, by omega⟩
    rw [fX5_number_h25, t_g, bS, h3, if_pos (nI_le (by omega) (by omega)), t_cV, show en - st = k by omega]
  | succ d ih =>
    intro k N hk hN
    obtain ⟨N, rfl⟩ : ∃ k, N = k + 1 := ⟨N - 1, by omega⟩
    have hb := hd (st + k) (by omega) (by omega)
    have := ih (k + 1) N (by omega) (by omega)
    rw [fX5_number_h25, t_g, bS, h3, if_neg (nI_ge (by omega) (by omega)), t_by p, bS, t_b (by omega), bS, (h.2.2.2 (st + k) (by omega)).2.2, sx_lo _ (by omega), nI_1]
    rw [dgS] at this
    exact this
theorem c_nameGo (cs : Cst B len key c base Mc0 Mm0) (h : PS B len key c base Mc0 Mm0 Mc Mm st en m o t) (he : en - st = 1) (hse : st < en) {b : Nat} (hb : b < 256) {i : Nat} (hi : i < 3) {N : Nat} : fX5_name_h12 (N + 1) 4 (nI b) (nI i) Mc = if nch key i = b then ((fX5_advance 4 Mc).bind fun r29 => (gP kdC 5 6 4 r29).bind fun a30 => (cV kdC 1 a30 (fX1_addLeaf a30 1 (nI i) r29)).bind fun r31 => some (r31.1, r31.2)) else fX5_name_h12 N 4 (nI b) (nI (i + 1)) Mc := by
  obtain ⟨c1, c2, c3, c4, c5, c6, c7, c8⟩ := id cs
  obtain ⟨tb, ts, ⟨le, cl, ml⟩, pg, hm⟩ := id h
  have hl := tk_le ts.2.2.2.2
  have kc := kC_law c3
  have g6 : gP kdC 5 6 4 Mc = some c := (gP_at (show kdC 4 = 5 from rfl)).trans (by rw [cl.1.1]; exact c4)
  rw [fX5_name_h12, if_neg (show ¬ (3 : Int32) ≤ nI i from nI_ge (b := 3) hi (by decide)), t_g, bS, t_g, bS, ts.2.1, ts.1, i_sub (by omega), he, if_pos (show nI 1 = 1 from rfl), g6, bS, gI_at kc.1, bS, cl.2.2.1, ch_at key c7 i hi, bS, nI_1, t_cV]
  by_cases q : nch key i = b
  · rw [if_pos (by rw [q]), if_pos q]
  · rw [if_neg (fun z => q ((nI_eq (by have := nch_lt key c7 i hi; omega) (by omega)).mp z)), if_neg q]
theorem c_name (cs : Cst B len key c base Mc0 Mm0) (h : PS B len key c base Mc0 Mm0 Mc Mm st en m o t) (he : en - st = 1) (hse : st < en) (hb : 97 ≤ B st ∧ B st ≤ 122) : fX5_name 4 Mc = if niF key (B st) < 3 then ((fX5_advance 4 Mc).bind fun r29 => (gP kdC 5 6 4 r29).bind fun a30 => (cV kdC 1 a30 (fX1_addLeaf a30 1 (nI (niF key (B st))) r29)).bind fun r31 => some (r31.1, r31.2)) else some (-1, ctI Mc 4 5 (Mc.1 4 2)) := by
  obtain ⟨c1, c2, c3, c4, c5, c6, c7, c8⟩ := id cs
  obtain ⟨tb, ts, ⟨le, cl, ml⟩, pg, hm⟩ := id h
  have hl := tk_le ts.2.2.2.2
  have go : ∀ N, 3 < N → fX5_name_h12 N 4 (nI (B st)) 0 Mc = if niF key (B st) < 3 then ((fX5_advance 4 Mc).bind fun r29 => (gP kdC 5 6 4 r29).bind fun a30 => (cV kdC 1 a30 (fX1_addLeaf a30 1 (nI (niF key (B st))) r29)).bind fun r31 => some (r31.1, r31.2)) else some (-1, ctI Mc 4 5 (Mc.1 4 2)) := by
    intro N hN
    obtain ⟨N, rfl⟩ : ∃ k, N = k + 4 := ⟨N - 4, by omega⟩
    rw [show (0 : Int32) = nI 0 from nI_0.symm, show N + 4 = N + 3 + 1 from rfl, c_nameGo cs h he hse (by omega) (by decide : 0 < 3), show N + 3 = N + 2 + 1 from rfl, c_nameGo cs h he hse (by omega) (by decide : 0 + 1 < 3), show N + 2 = N + 1 + 1 from rfl, c_nameGo cs h he hse (by omega) (by decide : 0 + 1 + 1 < 3), fX5_name_h12, if_pos (show (3 : Int32) ≤ nI (0 + 1 + 1 + 1) by decide)]
    unfold niF fX5_name_b70
    rw [t_cV, c_fail, bS]
    by_cases q0 : nch key 0 = B st
    · rw [if_pos q0, if_pos q0, if_pos (by decide)]
    rw [if_neg q0, if_neg q0]
    by_cases q1 : nch key 1 = B st
    · rw [if_pos q1, if_pos q1, if_pos (by decide)]
    rw [if_neg q1, if_neg q1]
    by_cases q2 : nch key 2 = B st
    · rw [if_pos q2, if_pos q2, if_pos (by decide)]
    rw [if_neg q2, if_neg q2, if_neg (by decide)]
  unfold fX5_name
  rw [t_by (cl.1.pc c1), bS, t_g, bS, ts.1, t_b (by omega), bS, (tb.2.2.2 st (by omega)).2.2, sx_lo _ (by omega), ← ts.1]
  exact go 4000 (by decide)
theorem c_nameNo (cs : Cst B len key c base Mc0 Mm0) (h : PS B len key c base Mc0 Mm0 Mc Mm st en m o t) (he : ¬ en - st = 1) (hse : st < en) : fX5_name 4 Mc = some (-1, ctI Mc 4 5 (Mc.1 4 2)) := by
  obtain ⟨c1, c2, c3, c4, c5, c6, c7, c8⟩ := id cs
  obtain ⟨tb, ts, ⟨le, cl, ml⟩, pg, hm⟩ := id h
  have hl := tk_le ts.2.2.2.2
  have go : ∀ N (x : Int32), 0 < N → fX5_name_h12 N 4 x 0 Mc = some (-1, ctI Mc 4 5 (Mc.1 4 2)) := by
    intro N x hN
    obtain ⟨N, rfl⟩ : ∃ k, N = k + 1 := ⟨N - 1, by omega⟩
    rw [fX5_name_h12, if_neg (by decide), t_g, bS, t_g, bS, ts.2.1, ts.1, i_sub (by omega), if_neg (show ¬ nI (en - st) = 1 from fun z => he ((nI_eq (b := 1) (by omega) (by decide)).mp z))]
    unfold fX5_name_b70
    rw [t_cV, c_fail, bS, ts.1]
  unfold fX5_name
  rw [t_by (cl.1.pc c1), bS, t_g, bS, ts.1, t_b (by omega), bS]
  rw [← ts.1]
  exact go 4000 _ (by decide)
theorem m_b84 (h : PS B len key c base Mc0 Mm0 Mc Mm st en m o t) {G : Nat → Nat → Int32 → Int32 → Int32 → ctM → Option (Int32 × ctM)} (h33 : ¬ Mc.1 4 4 = 33) (h40 : ¬ Mc.1 4 4 = 40) : fX7_part0_b84 G 0 (nI key) Mm = some (0, Mm) := by
  unfold fX7_part0_b84 fX7_part0_b145
  rw [m_cV, m_isSign h 33 (by decide), bS, if_neg h33, if_pos rfl, m_cV, m_isSign h 40 (by decide), bS, if_neg h40, if_pos rfl]
theorem c_b76 {F : Nat → Nat → Int32 → Int32 → Int32 → ctM → Option (Int32 × ctM)} {x y : Int32} (h40 : ¬ Mc.1 4 4 = 40) : fX5_piece_b76 F 4 x y Mc = some (-1, ctI Mc 4 5 (Mc.1 4 2)) := by
  unfold fX5_piece_b76 fX5_piece_b100
  rw [t_g, bS, if_neg h40, t_cV, c_fail, bS]
theorem piece_ok (cs : Cst B len key c base Mc0 Mm0) {F F' G : Nat → Nat → Int32 → Int32 → Int32 → ctM → Option (Int32 × ctM)} (ho : o ≤ 8) (ht : t ≤ 8)
    (ihP : t < 8 → ∀ (Mc Mm : ctM) (st en m : Nat), PS B len key c base Mc0 Mm0 Mc Mm st en m o (t + 1) → Res B len key c base Mc0 Mm0 Mm st m o (t + 1) (F 1 4 (nI o) (nI (t + 1)) 0 Mc) (G 5 0 (nI key) 0 0 Mm))
    (ihB : o < 8 → ∀ (Mc Mm : ctM) (st en m : Nat), PS B len key c base Mc0 Mm0 Mc Mm st en m (o + 1) t → Res B len key c base Mc0 Mm0 Mm st m (o + 1) t (F' 0 4 0 (nI (o + 1)) (nI t) Mc) (G 0 0 (nI key) 0 0 Mm))
    (hF2 : o < 8 → ∀ M, F 2 4 (nI o) (nI t) 0 M = fX5_bracket F' 4 (nI o) (nI t) M) (h : PS B len key c base Mc0 Mm0 Mc Mm st en m o t) : Res B len key c base Mc0 Mm0 Mm st m o t (fX5_piece F 4 (nI o) (nI t) Mc) (fX7_part0 G 0 (nI key) Mm) := by
  obtain ⟨c1, c2, c3, c4, c5, c6, c7, c8⟩ := id cs
  obtain ⟨tb, ts, ⟨le, cl, ml⟩, pg, hm⟩ := id h
  have hl := tk_le ts.2.2.2.2
  have gc : ∀ {M : ctM}, FRc c Mc0 M → gP kdC 5 6 4 M = some c := fun {M} f => (gP_at (show kdC 4 = 5 from rfl)).trans (by rw [f.1]; exact c4)
  have hb : ∀ i, i < len → B i < 256 := fun i hi => (tb.2.2.2 i hi).1
  rcases ts.2.2.2.2 with ⟨_, _, e1, e2⟩ | ⟨a1, a2, e1, e2, e3, e4⟩ | ⟨a1, a2, e1, e5, e2, e3, e4⟩ | ⟨a1, a2, e1, e5, e2⟩ | ⟨a1, a2, e1, e2⟩ | ⟨a1, a2, e1, e2, e3, n1, n2⟩
  · refine ps_fail cs h ?_ ?_
    · unfold fX5_piece
      rw [t_g, bS, bS, bS, e1, if_neg (by decide), if_neg (by decide), if_neg (by decide), c_b76 (by rw [e1]; decide)]
    · unfold fX7_part0
      rw [m_g0, bS, bS, e2, if_neg (by decide), if_neg (by decide), m_b84 h (by rw [e1]; decide) (by rw [e1]; decide)]
  · -- letters
    have hB := e4 st (by omega) (by omega)
    obtain ⟨n1, n2⟩ := niF_ok key c7 (B st) (by omega) hB.1
    have cl1 : fX5_piece F 4 (nI o) (nI t) Mc = (fX5_name 4 Mc).bind fun r33 => some (r33.1, r33.2) := by
      unfold fX5_piece
      rw [t_g, bS, bS, e1, if_neg (by decide), if_pos rfl, t_cV]
    have b84 : fX7_part0_b84 G 0 (nI key) Mm = some (0, Mm) := m_b84 h (by rw [e1]; decide) (by rw [e1]; decide)
    by_cases q : en - st = 1
    · rw [if_pos q] at e3
      have ne0 : ¬ nI (B st) = 0 := nI_ne0 (by omega) (by omega)
      by_cases qi : niF key (B st) < 3
      · obtain ⟨i1, i2⟩ := n1 qi
        obtain ⟨A, Mc', A1, Mm', st', en', x1, x2, x3, x4, x5, x6, x7, x8, x9⟩ := ps_leaf cs h (fun z => by rw [e1] at z; exact absurd z (by decide)) (by rw [e1]; decide) a1 1 (nI (B st)) 1 (nI (niF key (B st))) (by decide) (fun w' v' a' l' r' y1 y2 y3 y4 _ => Or.inr (Or.inl ⟨y1, y3, niF key (B st), i1, y4, by rw [y2, i2]⟩))
        refine Or.inl ⟨Mc', Mm', st', en', m + 1, ?_, ?_, x6, by omega, by omega, x8, x9⟩
        · rw [cl1, c_name cs h q a1 hB, if_pos qi, x1, bS, show gP kdC 5 6 4 A = some c from (gP_at (show kdC 4 = 5 from rfl)).trans x2, bS, lw_cV c3, x3, bS, bS]
          rfl
        · unfold fX7_part0
          rw [m_g0, bS, bS, e2, if_neg (by decide), if_pos rfl, m_g0, bS, e3, if_neg ne0, bS, m_isName, bS, n2, if_pos qi, if_neg i_10, m_g0, bS, e3, m_cV, x4, bS, m_g0, bS, m_p0, bS, m_cV, x5, bS]
      · refine ps_fail cs h ?_ ?_
        · rw [cl1, c_name cs h q a1 hB, if_neg qi, bS]
        · unfold fX7_part0
          rw [m_g0, bS, bS, e2, if_neg (by decide), if_pos rfl, m_g0, bS, e3, if_neg ne0, bS, m_isName, bS, n2, if_neg qi, if_pos rfl, b84]
    · rw [if_neg q] at e3
      refine ps_fail cs h ?_ ?_
      · rw [cl1, c_nameNo cs h q a1, bS]
      · unfold fX7_part0
        rw [m_g0, bS, bS, e2, if_neg (by decide), if_pos rfl, m_g0, bS, e3, if_pos rfl, b84]
  · -- a number
    obtain ⟨A, Mc', A1, Mm', st', en', x1, x2, x3, x4, x5, x6, x7, x8, x9⟩ := ps_leaf cs h (fun _ => e2) (by rw [e1]; decide) a1 0 (dgS B st (en - st)) 0 (dgS B st (en - st)) (by decide) (fun w' v' a' l' r' y1 y2 y3 y4 _ => Or.inl ⟨y1, y3, y4.trans y2.symm⟩)
    refine Or.inl ⟨Mc', Mm', st', en', m + 1, ?_, ?_, x6, by omega, by omega, x8, x9⟩
    · have cn := c_num (st := st) tb (cl.1.pc c1) a2 ts.2.1 e4 (en - st) 0 4000 (by omega) (by omega)
      rw [show dgS B st 0 = 0 from rfl, Nat.add_zero] at cn
      unfold fX5_piece
      rw [t_g, bS, e1, if_pos rfl, t_cV]
      unfold fX5_number
      rw [t_g, bS, t_g, bS, ts.2.1, ts.1, i_sub (by omega), if_pos (show nI (en - st) ≤ 4 from nI_le (b := 4) e5 (by decide)), bS, cn, x1, bS, show gP kdC 5 6 4 A = some c from (gP_at (show kdC 4 = 5 from rfl)).trans x2, bS, lw_cV c3, x3, bS, bS]
      rfl
    · unfold fX7_part0
      rw [m_g0, bS, e2, if_pos rfl, m_g0, bS, e3, m_cV, x4, bS, m_g0, bS, m_p0, bS, m_cV, x5, bS]
  · refine ps_fail cs h ?_ ?_
    · unfold fX5_piece
      rw [t_g, bS, e1, if_pos rfl, t_cV]
      unfold fX5_number
      rw [t_g, bS, t_g, bS, ts.2.1, ts.1, i_sub (by omega), if_neg (show ¬ nI (en - st) ≤ 4 from nI_ge (a := 4) e5 (by omega)), t_cV, c_fail, bS, bS, ts.1]
    · unfold fX7_part0
      rw [m_g0, bS, bS, e2, if_neg (by decide), if_neg (by decide), m_b84 h (by rw [e1]; decide) (by rw [e1]; decide)]
  · refine ps_fail cs h ?_ ?_
    · unfold fX5_piece
      rw [t_g, bS, bS, bS, e1, if_neg (by decide), if_neg (by decide), if_neg (by decide), c_b76 (by rw [e1]; decide)]
    · unfold fX7_part0
      rw [m_g0, bS, bS, e2, if_neg (by decide), if_neg (by decide), m_b84 h (by rw [e1]; decide) (by rw [e1]; decide)]
  · -- a sign
    have nb := nb_ne (B st) (hb st a1)
    have n3 : ¬ Mc.1 4 4 = -3 := by rw [e1]; exact nb.2.2.1
    have n2' : ¬ Mc.1 4 4 = -2 := by rw [e1]; exact nb.2.1
    have n4 : ¬ Mc.1 4 4 = -4 := by rw [e1]; exact nb.2.2.2
    have mtop : fX7_part0 G 0 (nI key) Mm = fX7_part0_b84 G 0 (nI key) Mm := by
      unfold fX7_part0
      rw [m_g0, bS, bS, e2, if_neg (by decide), if_neg (by decide)]
    by_cases s33 : Mc.1 4 4 = 33
    · have ctop : fX5_piece F 4 (nI o) (nI t) Mc = if 8 ≤ nI t then fX5_piece_b76 F 4 (nI o) (nI t) Mc else (fX5_advance 4 Mc).bind fun r28 => (F 1 4 (nI o) (nI t + 1) 0 r28).bind fun r29 => if 0 ≤ r29.1 then (gP kdC 5 6 4 r29.2).bind fun a31 => (cV kdC 1 a31 (fX1_addStep a31 33 r29.1 r29.1 r29.2)).bind fun r32 => some (r32.1, r32.2) else some (-1, r29.2) := by
        unfold fX5_piece
        rw [t_g, bS, bS, bS, if_neg n3, if_neg n2', if_pos s33]
        simp only [t_cV]
      have mtop2 : fX7_part0_b84 G 0 (nI key) Mm = if 8 ≤ nI t then fX7_part0_b145 G 0 (nI key) Mm else (fX7_nextToken 0 (ctI Mm 0 25 (nI (t + 1)))).bind fun r27 => (G 5 0 (nI key) 0 0 r27).bind fun r28 => if r28.1 = 0 then some (0, r28.2) else (gI kdM 7 25 0 r28.2).bind fun x30 => (pI kdM 7 25 0 (x30 - 1) r28.2).bind fun M31 => (fX7_step 0 2 33 M31).bind fun r32 => some (1, r32) := by
        unfold fX7_part0_b84
        rw [m_cV, m_isSign h 33 (by decide), bS, if_pos s33, if_neg i_10, m_g0, bS, ml.2.2.1]
        simp only [m_g0, bS, m_p0, ml.2.2.1, nI_1, m_cV]
      by_cases t8 : t < 8
      · have t8' : ¬ (8 : Int32) ≤ nI t := nI_ge (b := 8) t8 (by decide)
        rw [if_neg t8'] at ctop mtop2
        obtain ⟨Mc1, Mm1, st1, en1, y1, y2, y3, y4, y5, y6⟩ := ps_adv cs (h.f25 (t + 1)) (fun z => absurd z n3) n4
        have p1 : ∀ j, Mm1.1 1 j = Mm.1 1 j := fun j => by rw [y4.2.1 1 (by decide), ctI_ne (by decide)]
        rcases ihP t8 Mc1 Mm1 st1 en1 m y6 with ⟨Mc2, Mm2, st2, en2, m2, z1, z2, z3, z4, z5, z6, z7⟩ | ⟨Mc2, Mm2, st2, z1, z2, z3, z4, z5, z6, z7⟩
        · have h2 := z3.f25 t
          have sk : stkS (wM base (ctI Mm2 0 25 (nI t))) (vM base (ctI Mm2 0 25 (nI t))) m2 = (m2 - 1) :: stkS (wM base Mm) (vM base Mm) m := by
            rw [stk_of (Mm := Mm2) (fun j _ => by rw [ctI_ne (by decide)]), z6, stk_of (Mm := Mm) (fun j _ => p1 _)]
          have lt : m2 < st2 := by omega
          have hl2 := tk_le z3.2.1.2.2.2.2
          obtain ⟨l1, l2, l3⟩ := ps_lay cs h2 lt 2 33 33 (nI (m2 - 1)) (nI (m2 - 1)) (fun w' v' a' l' r' q1 q2 q3 q4 q5 => Or.inr (Or.inr (Or.inl ⟨q1, q2, q3, m2 - 1, _, sk, q4, q5⟩)))
          have add := c_addStep cs h2 lt (p := m2 - 1) (q := m2 - 1) (by omega) (by omega) 33
          obtain ⟨_, _, ⟨_, cl2, ml2⟩, _, _⟩ := z3
          refine Or.inl ⟨_, _, st2, en2, m2 + 1, ?_, ?_, l3, by omega, by omega, stk_not sk, fun j hj => ?_⟩
          · rw [ctop, y1, bS, nI_1, z1, bS, if_pos (nI_pos' (by omega)), gc cl2.1, bS, lw_cV c3, add, l1, bS]
            rfl
          · rw [mtop, mtop2, y2, bS, z2, bS, if_neg i_10, m_g0, bS, ml2.2.2.1, nI_pred, m_p0, bS, l2, bS]
          · rw [(mLay_at (base := base) (Mm := ctI Mm2 0 25 (nI t)) (m := m2) (wh := 2) (v := 33)).1 j (by omega), ctI_ne (by decide), z7 j hj, p1]
        · refine Or.inr ⟨Mc2, Mm2, st2, ?_, ?_, z3, z4, z5, z6, z7⟩
          · rw [ctop, y1, bS, nI_1, z1, bS, if_neg (show ¬ (0 : Int32) ≤ -1 by decide)]
          · rw [mtop, mtop2, y2, bS, z2, bS, if_pos rfl]
      · have t8' : (8 : Int32) ≤ nI t := nI_le (a := 8) (by omega) (by omega)
        rw [if_pos t8'] at ctop mtop2
        refine ps_fail cs h ?_ ?_
        · rw [ctop, c_b76 (by rw [s33]; decide)]
        · rw [mtop, mtop2]
          unfold fX7_part0_b145
          rw [m_cV, m_isSign h 40 (by decide), bS, if_neg (show ¬ Mc.1 4 4 = 40 by rw [s33]; decide), if_pos rfl]
    · have ctop : fX5_piece F 4 (nI o) (nI t) Mc = fX5_piece_b76 F 4 (nI o) (nI t) Mc := by
        unfold fX5_piece
        rw [t_g, bS, bS, bS, if_neg n3, if_neg n2', if_neg s33]
      by_cases s40 : Mc.1 4 4 = 40
      · by_cases o8 : o < 8
        · have o8' : ¬ (8 : Int32) ≤ nI o := nI_ge (b := 8) o8 (by decide)
          have o8'' : ¬ nI o = 8 := fun z => by have := (nI_eq (b := 8) (by omega) (by decide)).mp z; omega
          obtain ⟨Mc1, Mm1, st1, en1, y1, y2, y3, y4, y5, y6⟩ := ps_adv cs (h.f24 (o + 1)) (fun z => absurd z n3) n4
          have p1 : ∀ j, Mm1.1 1 j = Mm.1 1 j := fun j => by rw [y4.2.1 1 (by decide), ctI_ne (by decide)]
          have ctop2 : fX5_piece F 4 (nI o) (nI t) Mc = (F' 0 4 0 (nI (o + 1)) (nI t) Mc1).bind fun r22 => (if 0 ≤ r22.1 then (gI kdC 5 4 4 r22.2).bind fun x24 => if x24 = 41 then (fX5_advance 4 r22.2).bind fun r26 => some (r22.1, r26) else (fX5_fail 4 r22.2).bind fun r27 => some (r27.1, r27.2) else some (-1, r22.2)).bind fun r24 => some (r24.1, r24.2) := by
            rw [ctop]
            unfold fX5_piece_b76
            rw [t_g, bS, if_pos s40, if_neg o8', t_cV, hF2 o8]
            unfold fX5_bracket
            simp only [t_cV, y1, bS, nI_1, Option.bind_assoc]
          have mtop2 : fX7_part0 G 0 (nI key) Mm = (G 0 0 (nI key) 0 0 Mm1).bind fun r28 => if r28.1 = 0 then some (0, r28.2) else (fX7_isSign 0 41 r28.2).bind fun r30 => if r30.1 = 0 then some (0, r30.2) else (gI kdM 7 24 0 r30.2).bind fun x32 => (pI kdM 7 24 0 (x32 - 1) r30.2).bind fun M33 => (fX7_nextToken 0 M33).bind fun r34 => some (1, r34) := by
            rw [mtop]
            unfold fX7_part0_b84 fX7_part0_b145
            rw [m_cV, m_isSign h 33 (by decide), bS, if_neg s33, if_pos rfl, m_cV, m_isSign h 40 (by decide), bS, if_pos s40, if_neg i_10, m_g0, bS, bS, ml.2.1, if_neg o8'', m_p0, bS, nI_1, m_cV, y2, bS]
            simp only [m_cV]
          rcases ihB o8 Mc1 Mm1 st1 en1 m y6 with ⟨Mc2, Mm2, st2, en2, m2, z1, z2, z3, z4, z5, z6, z7⟩ | ⟨Mc2, Mm2, st2, z1, z2, z3, z4, z5, z6, z7⟩
          · obtain ⟨tb2, ts2, ⟨_, cl2, ml2⟩, _, _⟩ := id z3
            by_cases s41 : Mc2.1 4 4 = 41
            · obtain ⟨Mc3, Mm3, st3, en3, w1, w2, w3, w4, w5, w6⟩ := ps_adv cs (z3.f24 o) (fun z => absurd z (by rw [s41]; decide)) (by rw [s41]; decide)
              have hl2 := tk_le ts2.2.2.2.2
              have p3 : ∀ j, Mm3.1 1 j = Mm2.1 1 j := fun j => by rw [w4.2.1 1 (by decide), ctI_ne (by decide)]
              refine Or.inl ⟨Mc3, Mm3, st3, en3, m2, ?_, ?_, w6, z4, by omega, ?_, fun j hj => by rw [p3, z7 j hj, p1]⟩
              · rw [ctop2, z1, bS, if_pos (nI_pos' (by have := z3.2.2.2.2; omega)), t_g, bS, if_pos s41, w1, bS, bS]
              · rw [mtop2, z2, bS, if_neg i_10, m_isSign z3 41 (by decide), bS, if_pos s41, if_neg i_10, m_g0, bS, ml2.2.1, nI_pred, m_p0, bS, w2, bS]
              · rw [stk_of (Mm := Mm2) (fun j _ => p3 _), z6, stk_of (Mm := Mm) (fun j _ => p1 _)]
            · refine ps_fail cs z3 ?_ ?_
              · rw [ctop2, z1, bS, if_pos (nI_pos' (by have := z3.2.2.2.2; have := tk_le ts2.2.2.2.2; omega)), t_g, bS, if_neg s41, c_fail, bS, bS]
              · rw [mtop2, z2, bS, if_neg i_10, m_isSign z3 41 (by decide), bS, if_neg s41, if_pos rfl]
          · refine Or.inr ⟨Mc2, Mm2, st2, ?_, ?_, z3, z4, z5, z6, z7⟩
            · rw [ctop2, z1, bS, if_neg (show ¬ (0 : Int32) ≤ -1 by decide), bS]
            · rw [mtop2, z2, bS, if_pos rfl]
        · have o8e : o = 8 := by omega
          refine ps_fail cs h ?_ ?_
          · rw [ctop]
            unfold fX5_piece_b76 fX5_piece_b100
            rw [t_g, bS, if_pos s40, if_pos (show (8 : Int32) ≤ nI o by rw [o8e]; decide), t_cV, c_fail, bS]
          · rw [mtop]
            unfold fX7_part0_b84 fX7_part0_b145
            rw [m_cV, m_isSign h 33 (by decide), bS, if_neg s33, if_pos rfl, m_cV, m_isSign h 40 (by decide), bS, if_pos s40, if_neg i_10, m_g0, bS, ml.2.1, if_pos (show nI o = 8 by rw [o8e]; rfl)]
      · refine ps_fail cs h ?_ ?_
        · rw [ctop, c_b76 s40]
        · rw [mtop, m_b84 h s33 s40]
end
