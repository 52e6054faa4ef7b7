section
variable {Mc Mm : ctM} {n : Nat}
theorem c_carry {i j p a m : Nat} (hi : i < 4) (hj : j < 4) (h1 : p + m ≤ 24) (h2 : a + m ≤ 24) : cI kdC lnC (122 + 2 * i) (nI p) (122 + 2 * j) (nI a) (nI m) Mc = some (va_up Mc.1 (122 + 2 * j) (va_cpy (Mc.1 (122 + 2 * i)) (Mc.1 (122 + 2 * j)) p a m), Mc.2) := by
  unfold cI
  rw [nI_clamp (by omega), nI_clamp (by omega), nI_clamp (by omega), (kC_row_ i hi).2.2, (kC_row_ j hj).2.2, if_pos ⟨⟨(kC_row_ i hi).2.1, (kC_row_ j hj).2.1⟩, ⟨nI_pos (by omega), nI_pos (by omega), nI_pos (by omega)⟩, h1, h2⟩]
theorem copy_good (h : Sim Mc Mm) {i j p a m : Nat} (hi : i < 4) (hj : j < 4) (h1 : p + m ≤ 24) (h2 : a + m ≤ 24) : ∃ M3, fX7_copy_h113 4000 0 (nI i) (nI p) (nI j) (nI a) (nI m) 0 Mm = some (nI m, M3) ∧ Sim (va_up Mc.1 (122 + 2 * j) (va_cpy (Mc.1 (122 + 2 * i)) (Mc.1 (122 + 2 * j)) p a m), Mc.2) M3 := by
  have pm := h.2.1
  obtain ⟨M1, u1, u2⟩ := m_carry1 (x3 := nI j) (x4 := nI a) pm hi h1 m 0 4000 Mm (by omega) (by omega) FlS.rf
  obtain ⟨M2, v1, v2⟩ := m_carry2 (u2.pm pm) hj h2 m 0 4000 M1 (by omega) (by omega) FlS.rf
  rw [nI_0] at u1 v1
  refine ⟨M2, u1.trans v1, ?_⟩
  have c : ∀ b, b ≠ 122 + 2 * j → (va_up Mc.1 (122 + 2 * j) (va_cpy (Mc.1 (122 + 2 * i)) (Mc.1 (122 + 2 * j)) p a m)) b = Mc.1 b := fun b hb => va_up_ne' hb
  have mm : ∀ b, b ≠ 6 → b ≠ 18 → M2.1 b = Mm.1 b := fun b h6 h18 => by rw [v2.2.1 b h6, u2.2.1 b h18]
  have m6 : M1.1 6 = Mm.1 6 := u2.2.1 6 (by decide)
  refine h.side rfl (v2.1.trans u2.1) (fun b _ _ => c b (by omega)) (congrFun (c 0 (by omega)) 4) (mm 1 (by decide) (by decide)) (mm 2 (by decide) (by decide)) (by rw [mm 0 (by decide) (by decide)]) (fun i2 hi2 => ?_) (h.sl.congr (fun b _ _ => c b (by omega)) (fun b _ _ => mm b (by omega) (by omega))) (h.tp.congr (congrFun (c 4 (by omega)) 1) (c 5 (by omega)) (by rw [mm 0 (by decide) (by decide)]) (mm 15 (by decide) (by decide))) (h.wt.congr (congrFun (c 0 (by omega)) 8) (c 3 (by omega)) (by rw [mm 0 (by decide) (by decide)]) (mm 19 (by decide) (by decide)))
  obtain ⟨a1, a2, a3, a4, a5⟩ := h.sh i2 hi2
  obtain ⟨_, _, _, _, b5⟩ := h.sh i hi
  show va_up Mc.1 _ _ (121 + 2 * i2) 0 = _ ∧ va_up Mc.1 _ _ (121 + 2 * i2) 1 = _ ∧ _ ∧ _ ∧ ∀ k, k < 24 → va_up Mc.1 _ _ (122 + 2 * i2) k = _
  rw [c (121 + 2 * i2) (by omega), mm 4 (by decide) (by decide), mm 5 (by decide) (by decide)]
  refine ⟨a1, a2, a3, a4, fun k hk => ?_⟩
  by_cases e : i2 = j
  · subst e
    rw [va_up_eq']
    by_cases q : a ≤ k ∧ k < a + m
    · rw [pk_cpy_in q.1 q.2, b5 (p + (k - a)) (by omega)]
      have e1 : M2.1 6 (24 * i2 + a + (k - a)) = M1.1 18 (k - a) := v2.2.2.1 (k - a) (by omega)
      have e2 : M1.1 18 (0 + (k - a)) = Mm.1 6 (24 * i + p + (k - a)) := u2.2.2.1 (k - a) (by omega)
      rw [Nat.zero_add] at e2
      rw [show 24 * i2 + a + (k - a) = 24 * i2 + k by omega] at e1
      rw [e1, e2, show 24 * i + (p + (k - a)) = 24 * i + p + (k - a) by omega]
    · rw [pk_cpy_out (by omega), v2.2.2.2 _ (by omega), m6]
      exact a5 k hk
  · rw [c (122 + 2 * i2) (by omega), v2.2.2.2 _ (by omega), m6]
    exact a5 k hk
theorem op_copy : opS5 Sim fX6_copy fX7_copy := by
  intro Mc Mm h x y z t w
  obtain ⟨pc, pm, _⟩ := id h
  by_cases h1 : 0 ≤ x ∧ x ≤ 3
  · by_cases h2 : 0 ≤ z ∧ z ≤ 3
    · obtain ⟨i, _, hi', rfl⟩ := rg_in (hi := 3) nI_0.symm rfl (by decide) (by decide) h1
      obtain ⟨j, _, hj', rfl⟩ := rg_in (hi := 3) nI_0.symm rfl (by decide) (by decide) h2
      have hi : i < 4 := by omega
      have hj : j < 4 := by omega
      obtain ⟨a1, a2, a3, ⟨lf, _, hlf, a4⟩, a5⟩ := h.sh i hi
      obtain ⟨b1, b2, b3, ⟨lt, _, hlt, b4⟩, b5⟩ := h.sh j hj
      have sa := sort_neg a3
      have sb := sort_neg b3
      have mi1 := c_missA (Mc := Mc) (kC_row_ i hi).1
      have mi2 := c_missA (Mc := Mc) (kC_row_ j hj).1
      rw [a1] at mi1
      rw [b1] at mi2
      by_cases m1 : Mm.1 4 i = -1
      · refine ⟨-1000000011, Mc, Mm, ?_, ?_, h⟩
        · unfold fX6_copy
          rw [c_isSheet, bS, if_pos h1, if_neg i_10, c_isSheet, bS, if_pos h2, if_neg i_10, o_sheets pc, bS, sh_at pc hi, bS, bS, sh_at pc hj, bS, sh_cV hi, mi1, bS, if_pos m1, if_neg i_10]
        · unfold fX7_copy fX7_copy_b35
          rw [m_isSheet, bS, if_pos h1, if_neg i_10, m_isSheet, bS, if_pos h2, if_neg i_10, gM4 pm, bS, mt4 hi, bS, if_pos (sa.2.mpr m1)]
      · by_cases m2 : Mm.1 4 j = -1
        · refine ⟨-1000000011, Mc, Mm, ?_, ?_, h⟩
          · unfold fX6_copy
            rw [c_isSheet, bS, if_pos h1, if_neg i_10, c_isSheet, bS, if_pos h2, if_neg i_10, o_sheets pc, bS, sh_at pc hi, bS, bS, sh_at pc hj, bS, sh_cV hi, mi1, bS, if_neg m1, if_pos rfl, sh_cV hj, mi2, bS, if_pos m2, if_neg i_10]
          · unfold fX7_copy fX7_copy_b35
            rw [m_isSheet, bS, if_pos h1, if_neg i_10, m_isSheet, bS, if_pos h2, if_neg i_10, gM4 pm, bS, mt4 hi, bS, if_neg (show ¬ Mm.1 4 i < 0 from fun z => m1 (sa.2.mp z)), bS, mt4 hj, bS, if_neg (show ¬ (0 : Int32) ≤ Mm.1 4 j from fun z => sb.1.mp z m2)]
        · have preC : fX6_copy 0 (nI i) y (nI j) t w Mc = if Mm.1 4 i = Mm.1 4 j then (if (0 ≤ y ∧ y ≤ nI lf) ∧ (0 ≤ w ∧ w ≤ nI lf - y) then (if (0 ≤ t ∧ t ≤ nI lt) ∧ (0 ≤ w ∧ w ≤ nI lt - t) then (cI kdC lnC (122 + 2 * i) y (122 + 2 * j) t w Mc).bind (fun M42 => some (w, M42)) else some (-1000000013, Mc)) else some (-1000000013, Mc)) else some (-1000000012, Mc) := by
            have r1 := c_hasRunA (Mc := Mc) (kC_row_ i hi).1 y w
            have r2 := c_hasRunA (Mc := Mc) (kC_row_ j hj).1 t w
            rw [a2, a4] at r1
            rw [b2, b4] at r2
            simp only [fX6_copy, c_isSheet, bS, if_pos h1, if_pos h2, if_neg i_10, o_sheets pc, sh_at pc hi, sh_at pc hj, sh_cV hi, sh_cV hj, mi1, mi2, if_neg m1, if_neg m2, if_true, sh_g hi, sh_g hj, a1, b1, r1, r2, b0, sh_pl pc hi, sh_pl pc hj, ite_not]
          have preM : fX7_copy 0 (nI i) y (nI j) t w Mm = if Mm.1 4 i = Mm.1 4 j then (if y < 0 then some (-1000000013, Mm) else if t < 0 then some (-1000000013, Mm) else if w < 0 then some (-1000000013, Mm) else if 0 < lg_cmp (y.toInt64 + w.toInt64) (nI lf).toInt64 then some (-1000000013, Mm) else if lg_cmp (t.toInt64 + w.toInt64) (nI lt).toInt64 ≤ 0 then fX7_copy_h113 4000 0 (nI i) y (nI j) t w 0 Mm else some (-1000000013, Mm)) else some (-1000000012, Mm) := by
            simp only [fX7_copy, fX7_copy_b106, m_isSheet, bS, if_pos h1, if_neg i_10, if_pos h2, gM4 pm, mt4 hi, if_neg (show ¬ Mm.1 4 i < 0 from fun z => m1 (sa.2.mp z)), mt4 hj, if_pos (sb.1.mpr m2), gM5 pm, mt5 hi, a4, mt5 hj, b4]
          by_cases es : Mm.1 4 i = Mm.1 4 j
          · rw [if_pos es] at preC preM
            by_cases hr : (∃ p m, p + m ≤ lf ∧ y = nI p ∧ w = nI m) ∧ (∃ a m, a + m ≤ lt ∧ t = nI a ∧ w = nI m)
            · obtain ⟨r1, r2⟩ := id hr
              rw [if_pos ((run_iff (by omega)).mpr r1), if_pos ((run_iff (by omega)).mpr r2)] at preC
              obtain ⟨p, m, q1, rfl, rfl⟩ := r1
              obtain ⟨a, m', q2, rfl, q3⟩ := r2
              have : m' = m := ((nI_eq (by omega) (by omega)).mp q3).symm
              subst this
              obtain ⟨M3, g1, g2⟩ := copy_good h hi hj (show p + m' ≤ 24 by omega) (show a + m' ≤ 24 by omega)
              refine ⟨nI m', _, M3, ?_, ?_, g2⟩
              · rw [preC, c_carry hi hj (by omega) (by omega), bS]
              · have t1 : (nI p).toInt64 + (nI m').toInt64 ≤ (nI lf).toInt64 := by rw [i64_sum, nI_toInt (by omega), nI_toInt (by omega), nI_toInt (by omega)]; omega
                have t2 : (nI a).toInt64 + (nI m').toInt64 ≤ (nI lt).toInt64 := by rw [i64_sum, nI_toInt (by omega), nI_toInt (by omega), nI_toInt (by omega)]; omega
                rw [preM, if_neg (nI_pos (by omega)), if_neg (nI_pos (by omega)), if_neg (nI_pos (by omega)), if_neg (by rw [lg_pos]; exact fun z => z t1), if_pos ((lg_np _ _).mpr t2)]
                exact g1
            · refine ⟨-1000000013, Mc, Mm, ?_, ?_, h⟩
              · rw [preC]
                by_cases r1 : (0 ≤ y ∧ y ≤ nI lf) ∧ (0 ≤ w ∧ w ≤ nI lf - y)
                · rw [if_pos r1, if_neg (fun r2 => hr ⟨(run_iff (by omega)).mp r1, (run_iff (by omega)).mp r2⟩)]
                · rw [if_neg r1]
              · rw [preM]
                by_cases y0 : y < 0
                · rw [if_pos y0]
                rw [if_neg y0]
                by_cases t0 : t < 0
                · rw [if_pos t0]
                rw [if_neg t0]
                by_cases w0 : w < 0
                · rw [if_pos w0]
                rw [if_neg w0]
                obtain ⟨p, hp, rfl⟩ := nI_of y0
                obtain ⟨a, ha, rfl⟩ := nI_of t0
                obtain ⟨m, hm, rfl⟩ := nI_of w0
                by_cases s1 : (nI p).toInt64 + (nI m).toInt64 ≤ (nI lf).toInt64
                · rw [if_neg (by rw [lg_pos]; exact fun z => z s1)]
                  by_cases s2 : (nI a).toInt64 + (nI m).toInt64 ≤ (nI lt).toInt64
                  · rw [i64_sum, nI_toInt hp, nI_toInt hm, nI_toInt (by omega)] at s1
                    rw [i64_sum, nI_toInt ha, nI_toInt hm, nI_toInt (by omega)] at s2
                    exact absurd ⟨⟨p, m, by omega, rfl, rfl⟩, ⟨a, m, by omega, rfl, rfl⟩⟩ hr
                  · rw [if_neg (by rw [lg_np]; exact s2)]
                · rw [if_pos (by rw [lg_pos]; exact s1)]
          · rw [if_neg es] at preC preM
            exact ⟨_, _, _, preC, preM, h⟩
    · refine ⟨-1000000001, Mc, Mm, ?_, ?_, h⟩
      · unfold fX6_copy
        rw [c_isSheet, bS, if_pos h1, if_neg i_10, c_isSheet, bS, if_neg h2, if_pos rfl]
      · unfold fX7_copy
        rw [m_isSheet, bS, if_pos h1, if_neg i_10, m_isSheet, bS, if_neg h2, if_pos rfl]
  · refine ⟨-1000000001, Mc, Mm, ?_, ?_, h⟩
    · unfold fX6_copy
      rw [c_isSheet, bS, if_neg h1, if_pos rfl]
    · unfold fX7_copy
      rw [m_isSheet, bS, if_neg h1, if_pos rfl]
end
