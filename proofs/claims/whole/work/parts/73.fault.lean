theorem tk_end {B : Nat → Nat} {len st en : Nat} {so tk nu le : Int32} (hb : ∀ i, i < len → B i < 256) (h : Tk B len st en so tk nu le) : so = -1 ↔ tk = 0 := by
  rcases h with ⟨_, _, e1, e2⟩ | ⟨a1, _, e1, e2, _⟩ | ⟨a1, _, e1, _, e2, _⟩ | ⟨a1, _, e1, _, e2⟩ | ⟨_, _, e1, e2⟩ | ⟨a1, _, e1, e2, _, n1, n2⟩
  · rw [e1, e2]; exact ⟨fun _ => rfl, fun _ => rfl⟩
  · rw [e1, e2]; decide
  · rw [e1, e2]; decide
  · rw [e1, e2]; decide
  · rw [e1, e2]; decide
  · rw [e1, e2]; exact ⟨fun z => absurd z (nb_ne (B st) (hb st a1)).1, fun z => absurd z (by decide)⟩
section
variable {Mc Mm : ctM}
theorem fault_ok (h : Sim Mc Mm) {c nt base : Nat} (hc : isLaw c) (h46 : Mc.2 4 6 = some c) (hnt : Mm.1 1 1 = nI nt) (hnt14 : nt ≤ 14) (hbase : base = if nt < 14 then 74 + 200 * nt else 2870) :
    (∃ (Mc' Mm' : ctM) (st : Nat), fX5_faultOf 4 Mc = some (nI st, Mc') ∧ fX7_parse 0 Mm = some (-1, Mm') ∧ FRc c Mc Mc' ∧ FRm base Mm Mm' ∧ Mm'.1 0 18 = 0 ∧ Mm'.1 0 19 = nI st ∧ st ≤ 96) ∨
    (∃ (Mc' Mm' : ctM) (key m : Nat) (le : Int32), fX5_faultOf 4 Mc = some (-1, Mc') ∧ fX7_parse 0 Mm = some (nI key, Mm') ∧ key < 3 ∧ FRc c Mc Mc' ∧ FRm base Mm Mm' ∧ Mm'.1 0 18 = 0 ∧ 0 < m ∧ m ≤ 96 ∧ (Mc'.1 c 0 = nI key ∧ Mc'.1 c 1 = le ∧ Mc'.1 c 2 = nI m) ∧ (Mm'.1 0 26 = nI m ∧ Mm'.1 0 28 = le) ∧ PG key c base Mc' Mm' m ∧ stkS (wM base Mm') (vM base Mm') m = [m - 1]) := by
  obtain ⟨pc, pm, _⟩ := id h
  obtain ⟨len, hl, c4, m18, hx⟩ := h.tp
  have l4 := law_ne4 hc
  have kc := kC_law hc
  have hb1 : 74 ≤ base ∧ base + 192 ≤ 3070 := by rw [hbase]; split <;> omega
  obtain ⟨B, hB⟩ : ∃ B : Nat → Nat, ∀ i, i < len → B i < 256 ∧ Mm.1 15 i = nI (B i) ∧ Mc.1 5 i = sxB (B i) := by
    refine ⟨fun i => (Mm.1 15 i).toNatClampNeg, fun i hi => ?_⟩
    obtain ⟨b, b1, b2, b3⟩ := hx i hi
    have e : (Mm.1 15 i).toNatClampNeg = b := by rw [b2, nI_clamp (by omega)]
    show (Mm.1 15 i).toNatClampNeg < 256 ∧ Mm.1 15 i = nI (Mm.1 15 i).toNatClampNeg ∧ Mc.1 5 i = sxB (Mm.1 15 i).toNatClampNeg
    rw [e]
    exact ⟨b1, b2, b3⟩
  -- how both begin
  obtain ⟨M1, hM1⟩ : ∃ M, M = ctI (ctI (ctI Mc 4 3 0) 4 4 (-1)) 4 5 (-1) := ⟨_, rfl⟩
  obtain ⟨N1, hN1⟩ : ∃ M, M = ctI (ctI (ctI (ctI (ctI (ctI (ctI Mm 0 20 0) 0 21 3) 0 24 0) 0 25 0) 0 26 0) 0 28 0) 0 27 (nI base) := ⟨_, rfl⟩
  have M1b : ∀ b, b ≠ 4 → M1.1 b = Mc.1 b := fun b hb => by rw [hM1, ctI_ne hb, ctI_ne hb, ctI_ne hb]
  have M1f : ∀ k, k < 3 → M1.1 4 k = Mc.1 4 k := fun k hk => by rw [hM1, ctI_1, va_up_ne' (by omega), ctI_1, va_up_ne' (by omega), ctI_1, va_up_ne' (by omega)]
  have M13 : M1.1 4 3 = 0 := by rw [hM1, ctI_1, va_up_ne' (by decide), ctI_1, va_up_ne' (by decide), ctI_1, va_up_eq']
  have M14 : M1.1 4 4 = -1 := by rw [hM1, ctI_1, va_up_ne' (by decide), ctI_1, va_up_eq']
  have M15 : M1.1 4 5 = -1 := by rw [hM1, ctI_1, va_up_eq']
  have M12 : M1.2 = Mc.2 := by rw [hM1]; rfl
  have N1b : ∀ b, b ≠ 0 → N1.1 b = Mm.1 b := fun b hb => by rw [hN1, ctI_ne hb, ctI_ne hb, ctI_ne hb, ctI_ne hb, ctI_ne hb, ctI_ne hb, ctI_ne hb]
  have N1f : ∀ k, k < 19 ∨ 29 ≤ k → N1.1 0 k = Mm.1 0 k := fun k hk => by rw [hN1, ctI_1, va_up_ne' (by omega), ctI_1, va_up_ne' (by omega), ctI_1, va_up_ne' (by omega), ctI_1, va_up_ne' (by omega), ctI_1, va_up_ne' (by omega), ctI_1, va_up_ne' (by omega), ctI_1, va_up_ne' (by omega)]
  have N12 : N1.2 = Mm.2 := by rw [hN1]; rfl
  have N20 : N1.1 0 20 = 0 := by rw [hN1, ctI_1, va_up_ne' (by decide), ctI_1, va_up_ne' (by decide), ctI_1, va_up_ne' (by decide), ctI_1, va_up_ne' (by decide), ctI_1, va_up_ne' (by decide), ctI_1, va_up_ne' (by decide), ctI_1, va_up_eq']
  have N21 : N1.1 0 21 = 3 := by rw [hN1, ctI_1, va_up_ne' (by decide), ctI_1, va_up_ne' (by decide), ctI_1, va_up_ne' (by decide), ctI_1, va_up_ne' (by decide), ctI_1, va_up_ne' (by decide), ctI_1, va_up_eq']
  have N24 : N1.1 0 24 = 0 := by rw [hN1, ctI_1, va_up_ne' (by decide), ctI_1, va_up_ne' (by decide), ctI_1, va_up_ne' (by decide), ctI_1, va_up_ne' (by decide), ctI_1, va_up_eq']
  have N25 : N1.1 0 25 = 0 := by rw [hN1, ctI_1, va_up_ne' (by decide), ctI_1, va_up_ne' (by decide), ctI_1, va_up_ne' (by decide), ctI_1, va_up_eq']
  have N26 : N1.1 0 26 = 0 := by rw [hN1, ctI_1, va_up_ne' (by decide), ctI_1, va_up_ne' (by decide), ctI_1, va_up_eq']
  have N28 : N1.1 0 28 = 0 := by rw [hN1, ctI_1, va_up_ne' (by decide), ctI_1, va_up_eq']
  have N27 : N1.1 0 27 = nI base := by rw [hN1, ctI_1, va_up_eq']
  have tb : TB B len M1 N1 := ⟨hl, (M1f 1 (by decide)).trans c4, (N1f 18 (by omega)).trans m18, fun i hi => by rw [N1b 15 (by decide), M1b 5 (by decide)]; exact hB i hi⟩
  have pc1 : PC M1 := pc.of2 M12
  have pm1 : PM N1 := fun k hk => by rw [N12]; exact pm k hk
  obtain ⟨M2, N2, st, en, a1, a2, a3, a4, a5, ts⟩ := adv (en := 0) tb pc1 pm1 (by omega) (by rw [M13, nI_0]) (by rw [N20, nI_0]) (by rw [M14]; exact ⟨fun z => absurd z (by decide), fun z => absurd z.1 (by decide)⟩)
  have tb2 := (tb.c a3).m a4
  have pc2 := a3.pc pc1
  have pm2 := a4.pm pm1
  have hle := tk_le ts.2.2.2.2
  have fc2 : FRc c Mc M2 := ⟨a3.1.trans M12, fun b h4 hb => (a3.2.1 b h4).trans (M1b b h4)⟩
  have fm2 : FRm base Mm N2 := ⟨a4.1.trans N12, fun b h0 _ => (a4.2.1 b h0).trans (N1b b h0), fun j _ => by rw [a4.2.1 1 (by decide), N1b 1 (by decide)], fun k hk => (a4.2.2 k (by omega)).trans (N1f k (by omega))⟩
  obtain ⟨r, r1, r2, r3, r4⟩ := key_ok tb2 pc2 pm2 ts
  have ctop : fX5_faultOf 4 Mc = fX5_faultOf_b36 4 r M2 := by
    unfold fX5_faultOf
    rw [t_p, bS, t_p, bS, t_p, bS, ← hM1, t_cV, a1, bS, t_g, bS]
    by_cases q : M2.1 4 4 = -2
    · rw [if_pos q] at r2
      rw [if_pos q, t_cV, r2, bS]
    · rw [if_neg q] at r2
      rw [if_neg q]
      have : r = -1 := by injection r2 with r2; injection r2 with r2 _; exact r2.symm
      rw [this]
  have mtop : fX7_parse 0 Mm = if r < 0 then fX7_parse_b81 0 r 0 N2 else fX7_parse_b81 0 r 1 N2 := by
    have b60 : fX7_parse_b60 0 0 (nI base) (ctI (ctI (ctI (ctI (ctI (ctI Mm 0 20 0) 0 21 3) 0 24 0) 0 25 0) 0 26 0) 0 28 0) = if r < 0 then fX7_parse_b81 0 r 0 N2 else fX7_parse_b81 0 r 1 N2 := by
      unfold fX7_parse_b60
      rw [m_p0, bS, ← hN1, m_cV, a2, bS, m_cV, r3, bS]
    have pmx : PM (ctI (ctI (ctI (ctI (ctI (ctI Mm 0 20 0) 0 21 3) 0 24 0) 0 25 0) 0 26 0) 0 28 0) := pm
    unfold fX7_parse
    rw [m_p0, bS, m_p0, bS, m_p0, bS, m_p0, bS, m_p0, bS, m_p0, bS, gM0 pmx, bS, m_s1, bS, ctI_ne (by decide), ctI_ne (by decide), ctI_ne (by decide), ctI_ne (by decide), ctI_ne (by decide), ctI_ne (by decide), hnt]
    by_cases q : nt < 14
    · rw [if_pos q] at hbase
      rw [if_neg (show ¬ (14 : Int32) ≤ nI nt from nI_ge (b := 14) q (by decide)), bS, m_s1, bS, ctI_ne (by decide), ctI_ne (by decide), ctI_ne (by decide), ctI_ne (by decide), ctI_ne (by decide), ctI_ne (by decide), hnt, m_cV, m_textAt, bS, show nI (70 + 200 * nt) + 4 = nI base by rw [show nI (70 + 200 * nt) + 4 = nI (70 + 200 * nt + 4) from nI_add _ 4, hbase]; congr 1; omega]
      exact b60
    · rw [if_neg q] at hbase
      rw [if_pos (show (14 : Int32) ≤ nI nt from nI_le (a := 14) (by omega) (by omega))]
      rw [hbase] at b60
      exact b60
  rcases r1 with rfl | ⟨key, hkey, rfl⟩
  · left
    refine ⟨M2, ctI N2 0 18 0, st, ?_, ?_, fc2, ⟨fm2.1, fun b h0 h1 => (ctI_ne h0).trans (fm2.2.1 b h0 h1), fun j hj => by rw [ctI_ne (by decide)]; exact fm2.2.2.1 j hj, fun k hk => by rw [ctI_1, va_up_ne' (by omega)]; exact fm2.2.2.2 k hk⟩, by rw [ctI_1, va_up_eq'], by rw [ctI_1, va_up_ne' (by decide)]; exact ts.2.2.1, by omega⟩
    · rw [ctop]
      unfold fX5_faultOf_b36
      rw [if_neg (by decide), t_g, bS, ts.1]
    · rw [mtop, if_pos (by decide)]
      unfold fX7_parse_b81 fX7_parse_b111
      rw [if_pos rfl, m_p0, bS, if_pos rfl]
  · obtain ⟨so2, _⟩ := r4 (fun z => nI_pos (n := key) (by omega) (by rw [z]; decide))
    have cs : Cst B len key c base Mc Mm := ⟨pc, pm, hc, h46, hb1.2, by omega, hkey, hl⟩
    obtain ⟨M3, hM3⟩ : ∃ M, M = ctI (ctI (ctI M2 c 0 (nI key)) c 1 0) c 2 0 := ⟨_, rfl⟩
    have M3b : ∀ b, b ≠ c → M3.1 b = M2.1 b := fun b hb => by rw [hM3, ctI_ne hb, ctI_ne hb, ctI_ne hb]
    have M32 : M3.2 = M2.2 := by rw [hM3]; rfl
    have beg : fX1_begin c (nI key) M2 = some M3 := by
      unfold fX1_begin
      rw [pI_at kc.1, bS, pI_at kc.1, bS, pI_at kc.1, bS, hM3]
    have g6 : gP kdC 5 6 4 M2 = some c := (gP_at (show kdC 4 = 5 from rfl)).trans (by rw [fc2.1]; exact h46)
    have cl3 : CL key c Mc M3 0 0 := ⟨⟨M32.trans fc2.1, fun b h4 hb => (M3b b (by omega)).trans (fc2.2 b h4 hb)⟩, by rw [M3b 4 (by omega), a3.2.2 5 (by omega)]; exact M15, by rw [hM3, ctI_1, va_up_ne' (by decide), ctI_1, va_up_ne' (by decide), ctI_1, va_up_eq'], by rw [hM3, ctI_1, va_up_ne' (by decide), ctI_1, va_up_eq'], by rw [hM3, ctI_1, va_up_eq', nI_0]⟩
    have ml2 : ML base Mm N2 0 0 0 0 := ⟨fm2, by rw [a4.2.2 24 (by omega), N24, nI_0], by rw [a4.2.2 25 (by omega), N25, nI_0], by rw [a4.2.2 26 (by omega), N26, nI_0], by rw [a4.2.2 27 (by omega), N27], by rw [a4.2.2 28 (by omega), N28]⟩
    have ps : PS B len key c base Mc Mm M3 N2 st en 0 0 0 := by
      refine ⟨⟨tb2.1, by rw [M3b 4 (by omega)]; exact tb2.2.1, tb2.2.2.1, fun i hi => by rw [M3b 5 (by omega)]; exact tb2.2.2.2 i hi⟩, ?_, ⟨0, cl3, ml2⟩, fun k hk => by omega, by omega⟩
      unfold TS
      rw [M3b 4 (by omega)]
      exact ts
    obtain ⟨M4, N4, st4, en4, y1, y2, y3, y4, y5, y6⟩ := ps_adv cs ps (fun z => by rw [M3b 4 (by omega), so2] at z; exact absurd z (by decide)) (by rw [M3b 4 (by omega), so2]; decide)
    have res := (parse_ok cs 120).1 0 0 0 120 M4 N4 st4 en4 0 (by omega) (by omega) (by omega) (by omega) (by omega) y6
    rw [nI_0] at res
    have ctop2 : ∀ R, fXP 120 0 4 0 0 0 M4 = some R → fX5_faultOf 4 Mc = if R.1 < 0 then fX5_faultOf_b83 4 R.2 else (gI kdC 5 4 4 R.2).bind fun x27 => if x27 = -1 then fX5_faultOf_b83 4 R.2 else (cV kdC 5 4 (fX5_fail 4 R.2)).bind fun r29 => fX5_faultOf_b83 4 r29.2 := by
      intro R hR
      rw [ctop]
      unfold fX5_faultOf_b36
      rw [if_pos (nI_pos' (by omega)), g6, bS, lw_cV hc, beg, bS, t_cV, y1, bS, t_cV, hR, bS]
    have mtop2 : ∀ R, fXQ 120 0 0 (nI key) 0 0 N4 = some R → fX7_parse 0 Mm = if R.1 = 0 then fX7_parse_b109 0 (nI key) R.2 else (gI kdM 7 21 0 R.2).bind fun x25 => if x25 = 0 then fX7_parse_b110 0 (nI key) 1 R.2 else fX7_parse_b109 0 (nI key) R.2 := by
      intro R hR
      rw [mtop, if_neg (nI_pos (by omega))]
      unfold fX7_parse_b81
      rw [if_neg i_10, m_cV, y2, bS, m_cV, hR, bS]
    have bad : ∀ M : ctM, fX7_parse_b109 0 (nI key) M = some (-1, ctI M 0 18 0) := fun M => by
      unfold fX7_parse_b109 fX7_parse_b110 fX7_parse_b111
      rw [m_p0, bS, if_pos rfl]
    have fm18 : ∀ {M : ctM}, FRm base Mm M → FRm base Mm (ctI M 0 18 0) := fun {M} f => ⟨f.1, fun b h0 h1 => (ctI_ne h0).trans (f.2.1 b h0 h1), fun j hj => by rw [ctI_ne (by decide)]; exact f.2.2.1 j hj, fun k hk => by rw [ctI_1, va_up_ne' (by omega)]; exact f.2.2.2 k hk⟩
    rcases res with ⟨M5, N5, st5, en5, m5, z1, z2, z3, z4, z5, z6, z7⟩ | ⟨M5, N5, st5, z1, z2, z3, z4, z5, z6, z7⟩
    · obtain ⟨tb5, ts5, ⟨le, cl5, ml5⟩, pg5, hm5⟩ := id z3
      have hl5 := tk_le ts5.2.2.2.2
      have te := tk_end (fun i hi => (tb5.2.2.2 i hi).1) ts5.2.2.2.2
      by_cases e : M5.1 4 4 = -1
      · right
        refine ⟨M5, ctI N5 0 18 0, key, m5, le, ?_, ?_, hkey, cl5.1, fm18 ml5.1, by rw [ctI_1, va_up_eq'], z4, by omega, ⟨cl5.2.2.1, cl5.2.2.2.1, cl5.2.2.2.2⟩, ⟨by rw [ctI_1, va_up_ne' (by decide)]; exact ml5.2.2.2.1, by rw [ctI_1, va_up_ne' (by decide)]; exact ml5.2.2.2.2.2⟩, pg5.of (fun j _ => by rw [ctI_ne (by decide)]) (fun k _ => ⟨rfl, rfl, rfl⟩), ?_⟩
        · rw [ctop2 _ z1, if_neg (nI_pos (by omega)), t_g, bS, if_pos e]
          unfold fX5_faultOf_b83
          rw [t_g, bS, cl5.2.1]
        · rw [mtop2 _ z2, if_neg i_10, m_g0, bS, if_pos (te.mp e)]
          unfold fX7_parse_b110 fX7_parse_b111
          rw [m_p0, bS, if_neg i_10]
        · rw [stk_of (Mm := N5) (fun j _ => by rw [ctI_ne (by decide)]), z6]
          rfl
      · left
        refine ⟨ctI M5 4 5 (M5.1 4 2), ctI N5 0 18 0, st5, ?_, ?_, ⟨cl5.1.1, fun b h4 hb => by rw [ctI_ne h4]; exact cl5.1.2 b h4 hb⟩, fm18 ml5.1, by rw [ctI_1, va_up_eq'], by rw [ctI_1, va_up_ne' (by decide)]; exact ts5.2.2.1, by omega⟩
        · rw [ctop2 _ z1, if_neg (nI_pos (by omega)), t_g, bS, if_neg e, t_cV, c_fail, bS]
          unfold fX5_faultOf_b83
          rw [t_g, bS, ctI_1, va_up_eq', ts5.1]
        · rw [mtop2 _ z2, if_neg i_10, m_g0, bS, if_neg (mt te.mpr e), bad]
    · left
      refine ⟨M5, ctI N5 0 18 0, st5, ?_, ?_, z3, fm18 z4, by rw [ctI_1, va_up_eq'], by rw [ctI_1, va_up_ne' (by decide)]; exact z6, z7⟩
      · rw [ctop2 _ z1, if_pos (show (-1 : Int32) < 0 by decide)]
        unfold fX5_faultOf_b83
        rw [t_g, bS, z5]
      · rw [mtop2 _ z2, if_pos rfl, bad]
end
