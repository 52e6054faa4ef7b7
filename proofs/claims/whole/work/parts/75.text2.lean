theorem sP_at {kd ln : Nat → Nat} {t c a b j n : Nat} {M : ctM} (hk : kd a = t) (hb : kd b = c) (hl : ln a = n) (hj : j < n) (hn : n ≤ 5000) : sP kd ln t c a (nI j) b M = some (ctP M a j (some b)) := by
  unfold sP
  rw [if_pos ⟨hk, hb, nI_pos (by omega), by rw [nI_clamp (by omega), hl]; exact hj⟩, nI_clamp (by omega)]
theorem op_text : opS0 Sim fX6_text fX7_text := by
  intro Mc Mm h
  obtain ⟨pc, pm, lw, ag, ⟨n, hi⟩, ⟨nt, tx, ct, im⟩, sh, sl, tp, wt, sy⟩ := id h
  obtain ⟨lwf, w1, w2, w3, w4⟩ := id lw
  obtain ⟨c, ec⟩ : ∃ c, c = lwf 14 := ⟨_, rfl⟩
  have hc : isLaw c := by rw [ec]; exact w3 14 (by decide)
  have h46 : Mc.2 4 6 = some c := by rw [ec]; exact w2
  have l4 := law_ne4 hc
  have c11 : c ≠ 11 := by rcases hc with h | h <;> omega
  have kc := kC_law hc
  have hnt := tx.2.1
  have nt14 := tx.1
  obtain ⟨base, hbase⟩ : ∃ base, base = if nt < 14 then 74 + 200 * nt else 2870 := ⟨_, rfl⟩
  have hbb : 74 + 200 * nt ≤ base ∨ 2870 ≤ base := by rw [hbase]; split <;> omega
  have f41 : ∀ {M : ctM}, FRc c Mc M → FRc c Mc (ctI M 4 1 0) := fun {M} f => ⟨f.1, fun b h4 hb => by rw [ctI_ne h4]; exact f.2 b h4 hb⟩
  have k82 : rK Mc 82 1 = nI nt := (ag 1 (by decide)).symm.trans hnt
  rcases fault_ok h hc h46 hnt nt14 hbase with ⟨Mc', Mm', st, x1, x2, x3, x4, x5, x6, x7⟩ | ⟨Mc', Mm', key, m, le, x1, x2, x3, x4, x5, x6, x7, x8, ⟨y1, y2, y3⟩, ⟨y4, y5⟩, x9, x10⟩
  · have pc' := x3.pc pc
    refine ⟨-100 - nI st, ctI Mc' 4 1 0, Mm', ?_, ?_, h.par hc h46 hnt nt14 hbb (f41 x3) x4 (by rw [ctI_1, va_up_eq']) x5⟩
    · unfold fX6_text
      rw [o_tape pc, bS, t_cV, x1, bS, o_tape pc', bS, t_p, bS, if_neg (nI_pos (by omega))]
    · unfold fX7_text
      rw [m_cV, x2, bS, if_neg (show ¬ (0 : Int32) ≤ -1 by decide), m_g0, bS, x6]
  · have pc' := x4.pc pc
    have pm' := x5.pm pm
    have fc := f41 x4
    obtain ⟨M24, e24⟩ : ∃ M, M = ctI Mc' 4 1 0 := ⟨_, rfl⟩
    rw [← e24] at fc
    have pc24 : PC M24 := fc.pc pc
    have r82' : rK M24 82 = rK Mc 82 := rK_congr (fun k _ _ => by rw [fc.2 82 (by omega) (by omega)]) (fun i _ => by rw [fc.2 (82 + 2) (by omega) (by omega)]) (fun f k _ _ => by rw [fc.2 (82 + 5 + f) (by omega) (by omega)])
    have t24 : gI kdC 2 10 82 M24 = some (nI nt) := by rw [rm_i10 r82, r82', k82]
    have s1 : Mm'.1 1 1 = nI nt := (x5.2.2.1 1 (by omega)).trans hnt
    by_cases full : nt < 14
    · rw [if_pos full] at hbase
      have hc24 : ∀ b, b ≠ 4 → M24.1 b = Mc'.1 b := fun b hb => by rw [e24, ctI_ne hb]
      -- the class
      obtain ⟨a', ea⟩ : ∃ a', a' = lwf nt := ⟨_, rfl⟩
      have q11 : M24.2 11 nt = some a' := by rw [fc.1, ea]; exact w1 nt full
      have g46 : gP kdC 5 6 4 M24 = some c := (gP_at (show kdC 4 = 5 from rfl)).trans (by rw [fc.1]; exact h46)
      obtain ⟨M34, e34⟩ : ∃ M, M = ctP M24 4 6 (some a') := ⟨_, rfl⟩
      obtain ⟨M36, e36⟩ : ∃ M, M = ctP M34 11 nt (some c) := ⟨_, rfl⟩
      obtain ⟨M40, e40⟩ : ∃ M, M = ctI M36 (82 + 4) key (nI nt) := ⟨_, rfl⟩
      obtain ⟨M42, e42⟩ : ∃ M, M = ctI M40 82 10 (nI (nt + 1)) := ⟨_, rfl⟩
      have pc34 : PC M34 := by rw [e34]; exact PC_P pc24 (Or.inl ⟨rfl, rfl⟩)
      have pc36 : PC M36 := by rw [e36]; exact PC_P pc34 (Or.inr rfl)
      have pc40 : PC M40 := by rw [e40]; exact pc36
      have pc42 : PC M42 := by rw [e42]; exact pc40
      have v36 : M36.1 = M24.1 := by rw [e36, e34]; rfl
      have ctop : fX6_text 0 Mc = some (nI nt, M42) := by
        have p34 : pP kdC 5 6 4 a' M24 = some M34 := by rw [e34]; exact pP_at (show kdC 4 = 5 from rfl)
        have p36 : sP kdC lnC 12 1 11 (nI nt) c M34 = some M36 := by rw [e36]; exact sP_at (n := 14) rfl kc.1 rfl full (by decide)
        have p40 : sI kdC lnC 9 (82 + 4) (nI key) (nI nt) M36 = some M40 := by rw [e40]; exact rm_cts r82 x3
        have p42 : pI kdC 2 10 82 (nI (nt + 1)) M40 = some M42 := by rw [e42]; exact rm_p r82
        have a33 : aP kdC lnC 12 11 (nI nt) M24 = some a' := (aP_at (n := 14) rfl rfl full (by decide)).trans q11
        have g39 : gI kdC 1 0 c M36 = some (nI key) := by rw [gI_at kc.1, v36, hc24 c (by omega), y1]
        unfold fX6_text
        rw [o_tape pc, bS, t_cV, x1, bS, o_tape pc', bS, t_p, bS, ← e24, if_pos (show (-1 : Int32) < 0 by decide), o_now pc24, bS, t24, bS, if_pos (show nI nt < 14 from nI_lt (b := 14) full (by decide)), o_tape pc24, bS, g46, bS, bS, o_laws pc24, bS, a33, bS, p34, bS, o_laws pc34, bS, p36, bS, o_now pc36, bS, rm_f4 pc36 r82, bS, g39, bS, p40, bS, o_now pc40, bS, nI_1, p42, bS]
      -- the model
      obtain ⟨N1, d1⟩ : ∃ M, M = ctI Mm' 1 (70 + 200 * nt) (nI key) := ⟨_, rfl⟩
      obtain ⟨N2, d2⟩ : ∃ M, M = ctI N1 1 (71 + 200 * nt) le := ⟨_, rfl⟩
      obtain ⟨N3, d3⟩ : ∃ M, M = ctI N2 1 (72 + 200 * nt) (nI m) := ⟨_, rfl⟩
      obtain ⟨N4, d4⟩ : ∃ M, M = ctI N3 1 1 (nI (nt + 1)) := ⟨_, rfl⟩
      have pn1 : PM N1 := by rw [d1]; exact pm'
      have pn2 : PM N2 := by rw [d2]; exact pn1
      have pn3 : PM N3 := by rw [d3]; exact pn2
      have pn4 : PM N4 := by rw [d4]; exact pn3
      have N4b : ∀ b, b ≠ 1 → N4.1 b = Mm'.1 b := fun b hb => by rw [d4, ctI_ne hb, d3, ctI_ne hb, d2, ctI_ne hb, d1, ctI_ne hb]
      have N4s : ∀ j, j ≠ 1 → j < 70 + 200 * nt ∨ 73 + 200 * nt ≤ j → N4.1 1 j = Mm'.1 1 j := fun j hj hj2 => by rw [d4, ctI_1, va_up_ne' hj, d3, ctI_1, va_up_ne' (by omega), d2, ctI_1, va_up_ne' (by omega), d1, ctI_1, va_up_ne' (by omega)]
      have N41 : N4.1 1 1 = nI (nt + 1) := by rw [d4, ctI_1, va_up_eq']
      have N470 : N4.1 1 (70 + 200 * nt) = nI key := by rw [d4, ctI_1, va_up_ne' (by omega), d3, ctI_1, va_up_ne' (by omega), d2, ctI_1, va_up_ne' (by omega), d1, ctI_1, va_up_eq']
      have N471 : N4.1 1 (71 + 200 * nt) = le := by rw [d4, ctI_1, va_up_ne' (by omega), d3, ctI_1, va_up_ne' (by omega), d2, ctI_1, va_up_eq']
      have N472 : N4.1 1 (72 + 200 * nt) = nI m := by rw [d4, ctI_1, va_up_ne' (by omega), d3, ctI_1, va_up_eq']
      have mtop : fX7_text 0 Mm = some (nI nt, N4) := by
        have n28 : N1.1 0 28 = le := by rw [d1, ctI_ne (by decide)]; exact y5
        have n26 : N2.1 0 26 = nI m := by rw [d2, ctI_ne (by decide), d1, ctI_ne (by decide)]; exact y4
        have n31 : N3.1 1 1 = nI nt := by rw [d3, ctI_1, va_up_ne' (by omega), d2, ctI_1, va_up_ne' (by omega), d1, ctI_1, va_up_ne' (by omega)]; exact s1
        have i0 : nI (70 + 200 * nt) + 0 = nI (70 + 200 * nt) := nI_add (70 + 200 * nt) 0
        have i1 : nI (70 + 200 * nt) + 1 = nI (71 + 200 * nt) := by rw [nI_1]; congr 1; omega
        have i2 : nI (70 + 200 * nt) + 2 = nI (72 + 200 * nt) := by rw [show nI (70 + 200 * nt) + 2 = nI (70 + 200 * nt + 2) from nI_add _ 2]; congr 1; omega
        unfold fX7_text
        rw [m_cV, x2, bS, if_pos (nI_pos' (by omega)), gM0 pm', bS, m_s1, bS, s1, if_neg (show ¬ nI nt = 14 from fun z => by have := (nI_eq (b := 14) (by omega) (by decide)).mp z; omega), bS, m_s1, bS, s1, m_cV, m_textAt, bS, gM0 pm', bS, i0, m_ss (by omega), bS, ← d1, gM0 pn1, bS, m_g0, bS, n28, i1, m_ss (by omega), bS, ← d2, gM0 pn2, bS, m_g0, bS, n26, i2, m_ss (by omega), bS, ← d3, gM0 pn3, bS, m_s1, bS, n31, nI_1, m_ss1, bS, ← d4, gM0 pn4, bS, m_s1, bS, N41, nI_pred]
      -- what stays
      have C42 : ∀ b, b ≠ 82 → b ≠ 86 → M42.1 b = M24.1 b := fun b h1 h2 => by rw [e42, ctI_ne h1, e40, ctI_ne h2, v36]
      have hC : ∀ b, 82 ≤ b → b ≠ 82 → b ≠ 86 → M42.1 b = Mc.1 b := fun b h1 h2 h3 => (C42 b h2 h3).trans (fc.2 b (by omega) (by omega))
      have hC0 : ∀ b, b < 4 → M42.1 b = Mc.1 b := fun b hb => (C42 b (by omega) (by omega)).trans (fc.2 b (by omega) (by omega))
      have hlo : ∀ j, j ≠ 1 → j < 70 + 200 * nt → N4.1 1 j = Mm.1 1 j := fun j h1 h2 => (N4s j h1 (by omega)).trans (x5.2.2.1 j (by omega))
      have e82 : rK M42 82 = va_up (rK Mc 82) 1 (nI (nt + 1)) := by
        have := rK_pr_ (M := M40) (r := 82) (j0 := 1) (v := nI (nt + 1)) (by decide)
        rw [e42]
        refine this.trans ?_
        congr 1
        refine (rK_congr (M := M24) (fun k _ _ => ?_) (fun i _ => ?_) (fun f k _ _ => ?_)).trans r82'
        · rw [e40, ctI_ne (by omega), v36]
        · rw [e40, ctI_ne (by omega), v36]
        · rw [e40, ctI_ne (by omega), v36]
      have P42 : ∀ t, t < 14 → t ≠ nt → M42.2 11 t = Mc.2 11 t := fun t _ hne => by
        rw [e42, e40]
        show M36.2 11 t = Mc.2 11 t
        rw [e36, ctP_2 (by omega), e34, ctP_2 (by omega), fc.1]
      have P42n : M42.2 11 nt = some c := by
        rw [e42, e40]
        show M36.2 11 nt = some c
        rw [e36, ctP_22]
      have P424 : M42.2 4 6 = some a' := by
        rw [e42, e40]
        show M36.2 4 6 = some a'
        rw [e36, ctP_2 (by omega), e34, ctP_22]
      have hne : ∀ t, t < nt → ∀ a, Mc.2 11 t = some a → a ≠ c := fun t ht a e ecc => by
        have e1 := (w1 t (by omega)).symm.trans e
        injection e1 with e1
        have := w4 t 14 (by omega) (by omega) (by rw [e1, ecc, ec])
        omega
      have hcM : ∀ b, c ≤ b → b < c + 4 → M42.1 b = Mc'.1 b := fun b b1 b2 => by rw [C42 b (by rcases hc with h | h <;> omega) (by rcases hc with h | h <;> omega), hc24 b (by omega)]
      have lok : LawOk M42 c (fun x y z => gvS (Mc'.1 (c + 1)) (Mc'.1 (c + 2)) (Mc'.1 (c + 3)) x y z (m - 1)) := law_ok x9 x8 x7 hc (by rw [hcM c (by omega) (by omega)]; exact y3) (fun k _ => by rw [hcM (c + 1) (by omega) (by omega)]) (fun k _ => by rw [hcM (c + 2) (by omega) (by omega)]) (fun k _ => by rw [hcM (c + 3) (by omega) (by omega)])
      have tok : TextOk key nt (N4.1 1) (fun x y z => gvS (Mc'.1 (c + 1)) (Mc'.1 (c + 2)) (Mc'.1 (c + 3)) x y z (m - 1)) := text_ok full x3 x9 x8 N472 (fun k hk => by
          rw [N4s _ (by omega) (by omega)]
          show Mm'.1 1 (74 + 200 * nt + 2 * k) = Mm'.1 1 (base + 2 * k)
          rw [hbase]) (fun k hk => by
          rw [N4s _ (by omega) (by omega)]
          show Mm'.1 1 (75 + 200 * nt + 2 * k) = Mm'.1 1 (base + 2 * k + 1)
          rw [hbase, show 75 + 200 * nt + 2 * k = 74 + 200 * nt + 2 * k + 1 by omega]) x10
      have old := TxS.par (Mc' := M42) (S' := N4.1 1) tx hc hne (fun b b1 b2 b3 => (C42 b (by omega) (by omega)).trans (fc.2 b b2 b3)) (fun t ht => P42 t (by omega) (by omega)) (fun j j1 j2 => hlo j (by omega) j2)
      refine ⟨nI nt, M42, N4, ctop, mtop, pc42, pn4, ?_, ?_, ⟨n, hi.of (fun j j1 j2 => hlo j j2 (by omega))⟩, ⟨nt + 1, ⟨by omega, N41, ?_⟩, ?_, ?_⟩, ?_, ?_, ?_, ?_, ?_, ?_⟩
      · refine ⟨fun t => if t = nt then c else if t = 14 then a' else lwf t, fun t ht => ?_, ?_, fun t ht => ?_, fun s t hs ht hst => ?_⟩
        · by_cases q : t = nt
          · show M42.2 11 t = some (if t = nt then c else if t = 14 then a' else lwf t)
            rw [if_pos q, q]; exact P42n
          · show M42.2 11 t = some (if t = nt then c else if t = 14 then a' else lwf t)
            rw [if_neg q, if_neg (by omega), P42 t ht q]; exact w1 t ht
        · show M42.2 4 6 = some (if 14 = nt then c else if 14 = 14 then a' else lwf 14)
          rw [if_neg (by omega), if_pos rfl]; exact P424
        · show isLaw (if t = nt then c else if t = 14 then a' else lwf t)
          by_cases q : t = nt
          · rw [if_pos q]; exact hc
          · rw [if_neg q]
            by_cases q2 : t = 14
            · rw [if_pos q2, ea]; exact w3 nt (by omega)
            · rw [if_neg q2]; exact w3 t ht
        · have val : ∀ t, t < 15 → ∃ u, u < 15 ∧ (if t = nt then c else if t = 14 then a' else lwf t) = lwf u ∧ u = (if t = nt then 14 else if t = 14 then nt else t) := fun t ht => by
            by_cases q : t = nt
            · exact ⟨14, by decide, by rw [if_pos q, ec], by rw [if_pos q]⟩
            · by_cases q2 : t = 14
              · exact ⟨nt, by omega, by rw [if_neg q, if_pos q2, ea], by rw [if_neg q, if_pos q2]⟩
              · exact ⟨t, ht, by rw [if_neg q, if_neg q2], by rw [if_neg q, if_neg q2]⟩
          obtain ⟨u, u1, u2, u3⟩ := val s hs
          obtain ⟨v, v1, v2, v3⟩ := val t ht
          have hst' : (if s = nt then c else if s = 14 then a' else lwf s) = (if t = nt then c else if t = 14 then a' else lwf t) := hst
          rw [u2, v2] at hst'
          have uv := w4 u v u1 v1 hst'
          rw [u3, v3] at uv
          by_cases q : s = nt
          · rw [if_pos q] at uv
            by_cases q2 : t = nt
            · omega
            · rw [if_neg q2] at uv
              by_cases q3 : t = 14
              · rw [if_pos q3] at uv; omega
              · rw [if_neg q3] at uv; omega
          · rw [if_neg q] at uv
            by_cases p3 : s = 14
            · rw [if_pos p3] at uv
              by_cases q2 : t = nt
              · rw [if_pos q2] at uv; omega
              · rw [if_neg q2] at uv
                by_cases q3 : t = 14
                · omega
                · rw [if_neg q3] at uv; omega
            · rw [if_neg p3] at uv
              by_cases q2 : t = nt
              · rw [if_pos q2] at uv; omega
              · rw [if_neg q2] at uv
                by_cases q3 : t = 14
                · rw [if_pos q3] at uv; omega
                · rw [if_neg q3] at uv; omega
      · intro j hj
        rw [e82]
        by_cases q : j = 1
        · rw [q, va_up_eq', N41]
        · rw [va_up_ne' q, hlo j q (by omega)]; exact ag j hj
      · intro t ht
        by_cases q : t < nt
        · exact old t q
        · have : t = nt := by omega
          subst this
          exact ⟨key, _, c, x3, N470, P42n, hc, by rw [hcM c (by omega) (by omega)]; exact y1, by rw [hcM c (by omega) (by omega), y2, N471], lok, tok⟩
      · intro k hk
        have e86 : M42.1 (82 + 4) k = va_up (Mc.1 (82 + 4)) key (nI nt) k := by rw [e42, ctI_ne (by omega), e40, ctI_1, v36, fc.2 (82 + 4) (by omega) (by omega)]
        rw [e86, cntS]
        have kf : kfS (N4.1 1) nt = nI key := N470
        rw [kf]
        by_cases q : k = key
        · rw [q, va_up_eq', if_pos rfl]
        · rw [va_up_ne' q, if_neg (fun z => q ((nI_eq (by omega) (by omega)).mp z).symm), ct k hk]
          exact (cntS_congr nt (fun t ht => hlo _ (by omega) (by omega))).symm
      · exact im.par (by omega) (by rw [hC0 0 (by omega)]) (fun b b1 _ => hC b (by omega) (by omega) (by omega)) (by rw [N4b 0 (by decide)]; exact x5.2.2.2 3 (by omega)) (by rw [N4b 2 (by decide)]; exact x5.2.1 2 (by decide) (by decide)) (fun j j1 j2 => hlo j (by omega) j2)
      · exact sh.congr (fun b b1 _ => hC b (by omega) (by omega) (by omega)) (by rw [N4b 4 (by decide)]; exact x5.2.1 4 (by decide) (by decide)) (by rw [N4b 5 (by decide)]; exact x5.2.1 5 (by decide) (by decide)) (by rw [N4b 6 (by decide)]; exact x5.2.1 6 (by decide) (by decide))
      · exact sl.congr (fun b b1 _ => hC b (by omega) (by omega) (by omega)) (fun b b1 _ => by rw [N4b b (by omega)]; exact x5.2.1 b (by omega) (by omega))
      · exact ⟨0, by omega, by rw [C42 4 (by omega) (by omega), e24, ctI_1, va_up_eq', nI_0], by rw [N4b 0 (by decide), x6, nI_0], fun i hi => by omega⟩
      · exact wt.congr (by rw [hC0 0 (by omega)]) (hC0 3 (by omega)) (by rw [N4b 0 (by decide)]; exact x5.2.2.2 33 (by omega)) (by rw [N4b 19 (by decide)]; exact x5.2.1 19 (by decide) (by decide))
      · exact sy.1.of (fun i hi => hlo _ (by omega) (by omega))
      · rw [N4b 0 (by decide), N4b 2 (by decide), x5.2.2.2 3 (by omega), x5.2.1 2 (by decide) (by decide)]
        exact sy.2
    · have n14 : nt = 14 := by omega
      refine ⟨-1000000003, M24, Mm', ?_, ?_, h.par hc h46 hnt nt14 hbb fc x5 (by rw [e24, ctI_1, va_up_eq']) x6⟩
      · unfold fX6_text
        rw [o_tape pc, bS, t_cV, x1, bS, o_tape pc', bS, t_p, bS, ← e24, if_pos (show (-1 : Int32) < 0 by decide), o_now pc24, bS, t24, bS, n14, if_neg (by decide)]
      · unfold fX7_text
        rw [m_cV, x2, bS, if_pos (nI_pos' (by omega)), gM0 pm', bS, m_s1, bS, s1, n14, if_pos (by rfl)]
