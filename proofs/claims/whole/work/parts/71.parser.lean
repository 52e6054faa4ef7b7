section
variable {B : Nat → Nat} {len key c base : Nat} {Mc0 Mm0 Mc Mm Mc' Mm' M : ctM} {st en m o t : Nat} {le : Int32} {F G : Nat → Nat → Int32 → Int32 → Int32 → ctM → Option (Int32 × ctM)} {l : Nat}
theorem either_ok (cs : Cst B len key c base Mc0 Mm0) (ih : ∀ (Mc Mm : ctM) (st en m : Nat), PS B len key c base Mc0 Mm0 Mc Mm st en m o t → Res B len key c base Mc0 Mm0 Mm st m o t (F 0 4 (nI (0 + 1)) (nI o) (nI t) Mc) (G (0 + 1) 0 (nI key) 0 0 Mm)) (h : PS B len key c base Mc0 Mm0 Mc Mm st en m o t) : Res B len key c base Mc0 Mm0 Mm st m o t (fX5_chain F 4 (nI 0) (nI o) (nI t) Mc) (fX7_either G 0 (nI key) Mm) := by
  have := level_ok (l := 0) (N := 4000) (N2 := 4000) (H := fun N M => fX7_either_h10 G N 0 (nI key) M) cs (by decide) (by decide) ih
    (fun N Mc Mm st en m h hl => by
      have n : ¬ Mc.1 4 4 = 124 := fun z => hl ((lv_all _).1.mpr z)
      show fX7_either_h10 G (N + 1) 0 (nI key) Mm = _
      rw [fX7_either_h10, m_cV, m_isSign h 124 (by decide), bS, if_neg n, if_pos rfl])
    (fun N Mc Mm st en m h hl => by
      have n : Mc.1 4 4 = 124 := (lv_all _).1.mp hl
      show fX7_either_h10 G (N + 1) 0 (nI key) Mm = _
      rw [fX7_either_h10, m_cV, m_isSign h 124 (by decide), bS, if_pos n, if_neg i_10, n]
      simp only [m_cV]) (by decide) (by decide) (fun x4 M => rfl) h
  have e : fX7_either G 0 (nI key) Mm = (G (0 + 1) 0 (nI key) 0 0 Mm).bind fun r21 => if r21.1 = 0 then some (0, r21.2) else fX7_either_h10 G 4000 0 (nI key) r21.2 := by
    unfold fX7_either
    rw [m_cV]
  rw [e]
  exact this
theorem both_ok (cs : Cst B len key c base Mc0 Mm0) (ih : ∀ (Mc Mm : ctM) (st en m : Nat), PS B len key c base Mc0 Mm0 Mc Mm st en m o t → Res B len key c base Mc0 Mm0 Mm st m o t (F 0 4 (nI (1 + 1)) (nI o) (nI t) Mc) (G (1 + 1) 0 (nI key) 0 0 Mm)) (h : PS B len key c base Mc0 Mm0 Mc Mm st en m o t) : Res B len key c base Mc0 Mm0 Mm st m o t (fX5_chain F 4 (nI 1) (nI o) (nI t) Mc) (fX7_both G 0 (nI key) Mm) := by
  have := level_ok (l := 1) (N := 4000) (N2 := 4000) (H := fun N M => fX7_both_h10 G N 0 (nI key) M) cs (by decide) (by decide) ih
    (fun N Mc Mm st en m h hl => by
      have n : ¬ Mc.1 4 4 = 38 := fun z => hl ((lv_all _).2.1.mpr z)
      show fX7_both_h10 G (N + 1) 0 (nI key) Mm = _
      rw [fX7_both_h10, m_cV, m_isSign h 38 (by decide), bS, if_neg n, if_pos rfl])
    (fun N Mc Mm st en m h hl => by
      have n : Mc.1 4 4 = 38 := (lv_all _).2.1.mp hl
      show fX7_both_h10 G (N + 1) 0 (nI key) Mm = _
      rw [fX7_both_h10, m_cV, m_isSign h 38 (by decide), bS, if_pos n, if_neg i_10, n]
      simp only [m_cV]) (by decide) (by decide) (fun x4 M => rfl) h
  have e : fX7_both G 0 (nI key) Mm = (G (1 + 1) 0 (nI key) 0 0 Mm).bind fun r21 => if r21.1 = 0 then some (0, r21.2) else fX7_both_h10 G 4000 0 (nI key) r21.2 := by
    unfold fX7_both
    rw [m_cV]
  rw [e]
  exact this
theorem sum_ok (cs : Cst B len key c base Mc0 Mm0) (ih : ∀ (Mc Mm : ctM) (st en m : Nat), PS B len key c base Mc0 Mm0 Mc Mm st en m o t → Res B len key c base Mc0 Mm0 Mm st m o t (F 0 4 (nI (3 + 1)) (nI o) (nI t) Mc) (G (3 + 1) 0 (nI key) 0 0 Mm)) (h : PS B len key c base Mc0 Mm0 Mc Mm st en m o t) : Res B len key c base Mc0 Mm0 Mm st m o t (fX5_chain F 4 (nI 3) (nI o) (nI t) Mc) (fX7_sum G 0 (nI key) Mm) := by
  have := level_ok (l := 3) (N := 4000) (N2 := 4000) (H := fun N M => fX7_sum_h10 G N 0 (nI key) M) cs (by decide) (by decide) ih
    (fun N Mc Mm st en m h hl => by
      have n1 : ¬ Mc.1 4 4 = 43 := fun z => hl ((lv_all _).2.2.2.1.mpr (Or.inl z))
      have n2 : ¬ Mc.1 4 4 = 45 := fun z => hl ((lv_all _).2.2.2.1.mpr (Or.inr z))
      show fX7_sum_h10 G (N + 1) 0 (nI key) Mm = _
      rw [fX7_sum_h10, m_cV, m_isSign h 43 (by decide), bS, if_neg n1, if_pos rfl, m_cV, m_isSign h 45 (by decide), bS, if_neg n2, if_pos rfl])
    (fun N Mc Mm st en m h hl => by
      have s3 := (tk_sign h (op_nn (lv_op (by decide) hl))).2.2
      show fX7_sum_h10 G (N + 1) 0 (nI key) Mm = _
      rcases (lv_all _).2.2.2.1.mp hl with n | n
      · rw [fX7_sum_h10, m_cV, m_isSign h 43 (by decide), bS, if_pos n, if_neg i_10]
        unfold fX7_sum_b28
        rw [m_g0, bS, s3]
        simp only [m_cV]
      · rw [fX7_sum_h10, m_cV, m_isSign h 43 (by decide), bS, if_neg (show ¬ Mc.1 4 4 = 43 by rw [n]; decide), if_pos rfl, m_cV, m_isSign h 45 (by decide), bS, if_pos n, if_neg i_10]
        unfold fX7_sum_b28
        rw [m_g0, bS, s3]
        simp only [m_cV]) (by decide) (by decide) (fun x4 M => rfl) h
  have e : fX7_sum G 0 (nI key) Mm = (G (3 + 1) 0 (nI key) 0 0 Mm).bind fun r21 => if r21.1 = 0 then some (0, r21.2) else fX7_sum_h10 G 4000 0 (nI key) r21.2 := by
    unfold fX7_sum
    rw [m_cV]
  rw [e]
  exact this
theorem term_ok (cs : Cst B len key c base Mc0 Mm0) (ih : ∀ (Mc Mm : ctM) (st en m : Nat), PS B len key c base Mc0 Mm0 Mc Mm st en m o t → Res B len key c base Mc0 Mm0 Mm st m o t (F 0 4 (nI (4 + 1)) (nI o) (nI t) Mc) (G (4 + 1) 0 (nI key) 0 0 Mm)) (h : PS B len key c base Mc0 Mm0 Mc Mm st en m o t) : Res B len key c base Mc0 Mm0 Mm st m o t (fX5_chain F 4 (nI 4) (nI o) (nI t) Mc) (fX7_term G 0 (nI key) Mm) := by
  have := level_ok (l := 4) (N := 4000) (N2 := 4000) (H := fun N M => fX7_term_h10 G N 0 (nI key) M) cs (by decide) (by decide) ih
    (fun N Mc Mm st en m h hl => by
      have n1 : ¬ Mc.1 4 4 = 42 := fun z => hl ((lv_all _).2.2.2.2.mpr (Or.inl z))
      have n2 : ¬ Mc.1 4 4 = 47 := fun z => hl ((lv_all _).2.2.2.2.mpr (Or.inr z))
      show fX7_term_h10 G (N + 1) 0 (nI key) Mm = _
      rw [fX7_term_h10, m_cV, m_isSign h 42 (by decide), bS, if_neg n1, if_pos rfl, m_cV, m_isSign h 47 (by decide), bS, if_neg n2, if_pos rfl])
    (fun N Mc Mm st en m h hl => by
      have s3 := (tk_sign h (op_nn (lv_op (by decide) hl))).2.2
      show fX7_term_h10 G (N + 1) 0 (nI key) Mm = _
      rcases (lv_all _).2.2.2.2.mp hl with n | n
      · rw [fX7_term_h10, m_cV, m_isSign h 42 (by decide), bS, if_pos n, if_neg i_10]
        unfold fX7_term_b28
        rw [m_g0, bS, s3]
        simp only [m_cV]
      · rw [fX7_term_h10, m_cV, m_isSign h 42 (by decide), bS, if_neg (show ¬ Mc.1 4 4 = 42 by rw [n]; decide), if_pos rfl, m_cV, m_isSign h 47 (by decide), bS, if_pos n, if_neg i_10]
        unfold fX7_term_b28
        rw [m_g0, bS, s3]
        simp only [m_cV]) (by decide) (by decide) (fun x4 M => rfl) h
  have e : fX7_term G 0 (nI key) Mm = (G (4 + 1) 0 (nI key) 0 0 Mm).bind fun r21 => if r21.1 = 0 then some (0, r21.2) else fX7_term_h10 G 4000 0 (nI key) r21.2 := by
    unfold fX7_term
    rw [m_cV]
  rw [e]
  exact this
/-- a test: one sign at most -/
theorem test_ok (cs : Cst B len key c base Mc0 Mm0) (ih : ∀ (Mc Mm : ctM) (st en m : Nat), PS B len key c base Mc0 Mm0 Mc Mm st en m o t → Res B len key c base Mc0 Mm0 Mm st m o t (F 0 4 (nI (2 + 1)) (nI o) (nI t) Mc) (G (2 + 1) 0 (nI key) 0 0 Mm)) (h : PS B len key c base Mc0 Mm0 Mc Mm st en m o t) : Res B len key c base Mc0 Mm0 Mm st m o t (fX5_chain F 4 (nI 2) (nI o) (nI t) Mc) (fX7_test G 0 (nI key) Mm) := by
  obtain ⟨c1, c2, c3, c4, c5, c6, c7, c8⟩ := id cs
  have ctop : ∀ N, N = 4000 → fX5_chain F 4 (nI 2) (nI o) (nI t) Mc = (F 0 4 (nI (2 + 1)) (nI o) (nI t) Mc).bind fun r22 => fX5_chain_h39 F N 4 (nI 2) (nI o) (nI t) r22.1 1 0 r22.2 := by
    intro N hN
    unfold fX5_chain
    rw [if_pos (by decide), nI_1, t_cV]
    congr 1
    funext r22
    rw [if_pos (show nI 2 = 2 from rfl), fX5_chain_b34, hN]
  obtain ⟨N, hN, hN4⟩ : ∃ N, N = 4000 ∧ 2 < N := ⟨4000, rfl, by decide⟩
  have ctop2 := ctop N hN
  obtain ⟨N, rfl⟩ : ∃ k, N = k + 2 := ⟨N - 2, by omega⟩
  rcases ih Mc Mm st en m h with ⟨Mc2, Mm2, st2, en2, m2, z1, z2, z3, z4, z5, z6, z7⟩ | ⟨Mc2, Mm2, st2, z1, z2, z3⟩
  · have hl := tk_le z3.2.1.2.2.2.2
    have tb := z3.1.1
    have mms := z3.2.2.2.2
    have mtop : fX7_test G 0 (nI key) Mm = if Mc2.1 4 4 = 60 ∨ Mc2.1 4 4 = 61 ∨ Mc2.1 4 4 = 62 then fX7_test_b37 G 0 (nI key) Mm2 else some (1, Mm2) := by
      unfold fX7_test
      rw [m_cV, z2, bS, if_neg i_10, m_cV, m_isSign z3 60 (by decide), bS]
      by_cases s60 : Mc2.1 4 4 = 60
      · rw [if_pos s60, if_neg i_10, if_pos (Or.inl s60)]
      rw [if_neg s60, if_pos rfl, m_cV, m_isSign z3 61 (by decide), bS]
      by_cases s61 : Mc2.1 4 4 = 61
      · rw [if_pos s61, if_neg i_10, if_pos (Or.inr (Or.inl s61))]
      rw [if_neg s61, if_pos rfl, m_cV, m_isSign z3 62 (by decide), bS]
      by_cases s62 : Mc2.1 4 4 = 62
      · rw [if_pos s62, if_neg i_10, if_pos (Or.inr (Or.inr s62))]
      rw [if_neg s62, if_pos rfl, if_neg (by rintro (z | z | z); exact s60 z; exact s61 z; exact s62 z)]
    by_cases hlv : lvS (Mc2.1 4 4) = nI 2
    · have hop := lv_op (by decide) hlv
      have s3 := (tk_sign z3 (op_nn hop)).2.2
      rw [if_pos ((lv_all _).2.2.1.mp hlv)] at mtop
      have c2 : fX5_chain F 4 (nI 2) (nI o) (nI t) Mc = (fX5_advance 4 Mc2).bind fun r27 => (F 0 4 (nI (2 + 1)) (nI o) (nI t) r27).bind fun r28 => if 0 ≤ r28.1 then (gP kdC 5 6 4 r28.2).bind fun a30 => (cV kdC 1 a30 (fX1_addStep a30 (Mc2.1 4 4) (nI (m2 - 1)) r28.1 r28.2)).bind fun r31 => fX5_chain_h39 F (N + 1) 4 (nI 2) (nI o) (nI t) r31.1 1 1 r31.2 else fX5_chain_h39 F (N + 1) 4 (nI 2) (nI o) (nI t) (-1) 1 1 r28.2 := by
        rw [ctop2, z1, bS, show N + 2 = N + 1 + 1 from rfl, fX5_chain_h39, if_neg (by decide), if_neg (nI_pos (by omega)), t_g, bS, c_levelOf, bS, if_pos hlv, t_g, bS]
        unfold fX5_chain_b105
        simp only [t_cV, nI_1]
        rfl
      have fin : ∀ (x : Int32) (M : ctM), fX5_chain_h39 F (N + 1) 4 (nI 2) (nI o) (nI t) x 1 1 M = some (x, M) := fun x M => by rw [fX5_chain_h39, if_pos (by decide)]
      rcases round_ok cs ih z3 (by omega) z6 hop with ⟨A, A2, Mc', B1, B2, Mm', q, st', en', m', r1, r2, r3, r4, r5, r6, r7, r8, r9, r10, r11, r12, r13, r14⟩ | ⟨A, A2, B1, B2, st', r1, r2, r3, r4, r5⟩
      · refine Or.inl ⟨Mc', Mm', st', en', m', ?_, ?_, r9, by omega, by omega, r13, fun j hj => (r14 j (by omega)).trans (z7 j hj)⟩
        · rw [c2, r1, bS, r2, bS, if_pos (nI_pos' (by omega)), r4, bS, lw_cV c3, r5, bS, fin]
        · rw [mtop]
          unfold fX7_test_b37
          rw [m_g0, bS, s3, m_cV, r6, bS, m_cV, r7, bS, if_neg i_10, m_cV, r8, bS]
      · refine Or.inr ⟨A2, B2, st', ?_, ?_, r5⟩
        · rw [c2, r1, bS, r2, bS, if_neg (show ¬ (0 : Int32) ≤ -1 by decide), fin]
        · rw [mtop]
          unfold fX7_test_b37
          rw [m_g0, bS, s3, m_cV, r3, bS, m_cV, r4, bS, if_pos rfl]
    · rw [if_neg (mt (lv_all _).2.2.1.mpr hlv)] at mtop
      refine Or.inl ⟨Mc2, Mm2, st2, en2, m2, ?_, mtop, z3, z4, z5, z6, z7⟩
      rw [ctop2, z1, bS, show N + 2 = N + 1 + 1 from rfl, fX5_chain_h39, if_neg (by decide), if_neg (nI_pos (by omega)), t_g, bS, c_levelOf, bS, if_neg hlv]
  · refine Or.inr ⟨Mc2, Mm2, st2, ?_, ?_, z3⟩
    · rw [ctop2, z1, bS, c_lost (by omega)]
    · unfold fX7_test
      rw [m_cV, z2, bS, if_pos rfl]
/-- the two parsers go alike -/
theorem parse_ok (cs : Cst B len key c base Mc0 Mm0) : ∀ (d : Nat), (∀ (l o t d2 : Nat) (Mc Mm : ctM) (st en m : Nat), l ≤ 5 → o ≤ 8 → t ≤ 8 → (8 - o) * 8 + (8 - t) + 7 - l ≤ d → (8 - o) * 6 + (8 - t) + 6 - l ≤ d2 → PS B len key c base Mc0 Mm0 Mc Mm st en m o t → Res B len key c base Mc0 Mm0 Mm st m o t (fXP d 0 4 (nI l) (nI o) (nI t) Mc) (fXQ d2 l 0 (nI key) 0 0 Mm)) ∧
    (∀ (o t d2 : Nat) (Mc Mm : ctM) (st en m : Nat), o ≤ 8 → t ≤ 8 → (8 - o) * 8 + (8 - t) + 1 ≤ d → (8 - o) * 6 + (8 - t) + 1 ≤ d2 → PS B len key c base Mc0 Mm0 Mc Mm st en m o t → Res B len key c base Mc0 Mm0 Mm st m o t (fXP d 1 4 (nI o) (nI t) 0 Mc) (fXQ d2 5 0 (nI key) 0 0 Mm)) := by
  intro d
  induction d using Nat.strongRecOn with
  | _ d IH =>
    refine ⟨fun l o t d2 Mc Mm st en m hl ho ht hd hd2 h => ?_, fun o t d2 Mc Mm st en m ho ht hd hd2 h => ?_⟩
    · obtain ⟨d, rfl⟩ : ∃ k, d = k + 1 := ⟨d - 1, by omega⟩
      rw [fXP, if_pos rfl]
      by_cases l5 : l = 5
      · subst l5
        have sub := (IH d (by omega)).2 o t d2 Mc Mm st en m ho ht (by omega) (by omega) h
        have e : fX5_chain (fXP d) 4 (nI 5) (nI o) (nI t) Mc = fXP d 1 4 (nI o) (nI t) 0 Mc := by
          unfold fX5_chain
          rw [if_neg (by decide), t_cV]
          cases fXP d 1 4 (nI o) (nI t) 0 Mc with
          | none => rfl
          | some r => rfl
        rw [e]
        exact sub
      · obtain ⟨d2, rfl⟩ : ∃ k, d2 = k + 1 := ⟨d2 - 1, by omega⟩
        have ih : ∀ (Mc Mm : ctM) (st en m : Nat), PS B len key c base Mc0 Mm0 Mc Mm st en m o t → Res B len key c base Mc0 Mm0 Mm st m o t (fXP d 0 4 (nI (l + 1)) (nI o) (nI t) Mc) (fXQ d2 (l + 1) 0 (nI key) 0 0 Mm) := fun Mc Mm st en m h => (IH d (by omega)).1 (l + 1) o t d2 Mc Mm st en m (by omega) ho ht (by omega) (by omega) h
        rcases (by omega : l = 0 ∨ l = 1 ∨ l = 2 ∨ l = 3 ∨ l = 4) with rfl | rfl | rfl | rfl | rfl
        · rw [fXQ, if_pos rfl]
          exact either_ok cs ih h
        · rw [fXQ, if_neg (by decide), if_pos rfl]
          exact both_ok cs ih h
        · rw [fXQ, if_neg (by decide), if_neg (by decide), if_pos rfl]
          exact test_ok cs ih h
        · rw [fXQ, if_neg (by decide), if_neg (by decide), if_neg (by decide), if_pos rfl]
          exact sum_ok cs ih h
        · rw [fXQ, if_neg (by decide), if_neg (by decide), if_neg (by decide), if_neg (by decide), if_pos rfl]
          exact term_ok cs ih h
    · obtain ⟨d, rfl⟩ : ∃ k, d = k + 1 := ⟨d - 1, by omega⟩
      obtain ⟨d2, rfl⟩ : ∃ k, d2 = k + 1 := ⟨d2 - 1, by omega⟩
      rw [fXP, if_neg (by decide), if_pos rfl, fXQ, if_neg (by decide), if_neg (by decide), if_neg (by decide), if_neg (by decide), if_neg (by decide)]
      refine piece_ok (F' := fXP (d - 1)) cs ho ht (fun t8 Mc Mm st en m h => (IH d (by omega)).2 o (t + 1) d2 Mc Mm st en m ho (by omega) (by omega) (by omega) h) (fun o8 Mc Mm st en m h => ?_) (fun o8 M => ?_) h
      · have := (IH (d - 1) (by omega)).1 0 (o + 1) t d2 Mc Mm st en m (by omega) (by omega) ht (by omega) (by omega) h
        rw [nI_0] at this
        exact this
      · obtain ⟨d, rfl⟩ : ∃ k, d = k + 1 := ⟨d - 1, by omega⟩
        rw [fXP, if_neg (by decide), if_neg (by decide)]
        rfl
end
