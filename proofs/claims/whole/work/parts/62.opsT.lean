/-! feed -/
def cA1 (M : ctM) (len : Nat) (x : Int32) : ctM := ctI (ctI M 5 len x) 4 1 (nI (len + 1))
def mA1 (M : ctM) (len : Nat) (x : Int32) : ctM := ctI (ctI M 15 len x) 0 18 (nI (len + 1))
def TpB (Mc Mm : ctM) (len : Nat) : Prop := Mc.1 4 1 = nI len ∧ Mm.1 0 18 = nI len ∧ ∀ i, i < len → ∃ b, b < 256 ∧ Mm.1 15 i = nI b ∧ Mc.1 5 i = sxB b
def FrT (Mc Mc' : ctM) : Prop := Mc'.2 = Mc.2 ∧ ∀ b, b ≠ 4 → b ≠ 5 → Mc'.1 b = Mc.1 b
def FrU (Mm Mm' : ctM) : Prop := Mm'.2 = Mm.2 ∧ (∀ b, b ≠ 0 → b ≠ 15 → Mm'.1 b = Mm.1 b) ∧ ∀ k, k ≠ 18 → Mm'.1 0 k = Mm.1 0 k
section
variable {Mc Mm Mc' Mm' : ctM}
theorem FrT.trans {A B C : ctM} (h : FrT A B) (h2 : FrT B C) : FrT A C := ⟨h2.1.trans h.1, fun b x y => (h2.2 b x y).trans (h.2 b x y)⟩
theorem FrU.trans {A B C : ctM} (h : FrU A B) (h2 : FrU B C) : FrU A C := ⟨h2.1.trans h.1, fun b x y => (h2.2.1 b x y).trans (h.2.1 b x y), fun k x => (h2.2.2 k x).trans (h.2.2 k x)⟩
theorem cA1_fr {len : Nat} {x : Int32} : FrT Mc (cA1 Mc len x) := ⟨rfl, fun b h4 h5 => by unfold cA1; rw [ctI_ne h4, ctI_ne h5]⟩
theorem mA1_fr {len : Nat} {x : Int32} : FrU Mm (mA1 Mm len x) := ⟨rfl, fun b h4 h5 => by unfold mA1; rw [ctI_ne h4, ctI_ne h5], fun k hk => by unfold mA1; rw [ctI_1, va_up_ne' hk, ctI_ne (by decide)]⟩
theorem tp_step {len b : Nat} (h : TpB Mc Mm len) (hb : b < 256) : TpB (cA1 Mc len (sxB b)) (mA1 Mm len (nI b)) (len + 1) := by
  refine ⟨by unfold cA1; rw [ctI_1, va_up_eq'], by unfold mA1; rw [ctI_1, va_up_eq'], fun i hi => ?_⟩
  unfold cA1 mA1
  rw [ctI_ne (show (15 : Nat) ≠ 0 by decide), ctI_ne (show (5 : Nat) ≠ 4 by decide), ctI_1, ctI_1]
  by_cases e : i = len
  · subst e
    rw [va_up_eq', va_up_eq']
    exact ⟨b, hb, rfl, rfl⟩
  · rw [va_up_ne' e, va_up_ne' e]
    exact h.2.2 i (by omega)
theorem c_add1 {len N : Nat} {v s : Int32} (pc : PC Mc) (hl : len < 96) (h1 : Mc.1 4 1 = nI len) (hs : ¬ s < 0) : fX5_addFour_h3 (N + 1) 4 v s Mc = fX5_addFour_h3 N 4 v (s + (-8)) (cA1 Mc len (cB v s)) := by
  have e4 : ∀ M : ctM, gI kdC 5 1 4 M = some (M.1 4 1) := fun M => gI_at (show kdC 4 = 5 from rfl)
  have e5 : gP kdC 5 0 4 Mc = some 5 := (gP_at (show kdC 4 = 5 from rfl)).trans pc.1.2.2.2.2.2.2.2.2
  have e6 : ∀ x, sI kdC lnC 8 5 (nI len) x Mc = some (ctI Mc 5 len x) := fun x => sI_at (n := 96) rfl rfl hl (by decide)
  have e7 : ∀ (M : ctM) x, pI kdC 5 1 4 x M = some (ctI M 4 1 x) := fun M x => pI_at (show kdC 4 = 5 from rfl)
  rw [fX5_addFour_h3, if_neg hs, e4, bS, if_neg (show ¬ (96 : Int32) ≤ Mc.1 4 1 by rw [h1]; exact nI_ge (b := 96) hl (by decide)), e5, bS, bS, h1, e6, bS, e4, bS, ctI_ne (by decide), h1, e7, bS]
  unfold cA1 cB
  rw [nI_succ]
theorem m_add1 {len i : Nat} {k18 : Nat → Int32 → Int32 → Int32 → Int32 → ctM → Option (Int32 × ctM)} {x1 x2 x3 v : Int32} (pm : PM Mm) (hl : len < 96) (h1 : Mm.1 0 18 = nI len) (hi : i < 12) : fX7_feed_b47 k18 0 x1 x2 x3 (nI i) v Mm = k18 0 x1 x2 x3 (nI (i + 1)) (mA1 Mm len (mB v (nI (24 - 8 * (i % 4))))) := by
  have e6 : ∀ x, sI kdM lnM 9 15 (nI len) x Mm = some (ctI Mm 15 len x) := fun x => sI_at (n := 96) rfl rfl hl (by decide)
  have e7 : (24 : Int32) - 8 * (nI i % 4) = nI (24 - 8 * (i % 4)) := (by decide : ∀ i, i < 12 → (24 : Int32) - 8 * (nI i % 4) = nI (24 - 8 * (i % 4))) i hi
  simp only [fX7_feed_b47, gM17 pm, bS, m_g0, h1, e6, ctI_ne (show (0 : Nat) ≠ 15 by decide), m_p0, e7]
  unfold mA1 mB
  rw [nI_succ, nI_succ]
theorem tp_one {len N i : Nat} {v s : Int32} {k18 : Nat → Int32 → Int32 → Int32 → Int32 → ctM → Option (Int32 × ctM)} {x1 x2 x3 : Int32} (h : TpB Mc Mm len) (pc : PC Mc) (pm : PM Mm) (hl : len < 96) (hi : i < 12) (hs : s = nI (24 - 8 * (i % 4))) : ∃ Mc' Mm', fX5_addFour_h3 (N + 1) 4 v s Mc = fX5_addFour_h3 N 4 v (s + (-8)) Mc' ∧ fX7_feed_b47 k18 0 x1 x2 x3 (nI i) v Mm = k18 0 x1 x2 x3 (nI (i + 1)) Mm' ∧ TpB Mc' Mm' (len + 1) ∧ FrT Mc Mc' ∧ FrU Mm Mm' := by
  obtain ⟨b, hb, b1, b2⟩ := by_lem v (k := 24 - 8 * (i % 4)) (by omega)
  refine ⟨cA1 Mc len (sxB b), mA1 Mm len (nI b), ?_, ?_, tp_step h hb, cA1_fr, mA1_fr⟩
  · rw [c_add1 pc hl h.1 (by rw [hs]; exact nI_pos (by omega)), hs, b1]
  · rw [m_add1 pm hl h.2.1 hi, b2]
theorem m_fd {N i : Nat} {x1 x2 x3 : Int32} (hi : i < 12) : fX7_feed_h18 (N + 1) 0 x1 x2 x3 (nI i) Mm = fX7_feed_b47 (fX7_feed_h18 N) 0 x1 x2 x3 (nI i) (if i < 4 then x1 else if i < 8 then x2 else x3) Mm := by
  rw [fX7_feed_h18, if_neg (show ¬ (12 : Int32) ≤ nI i from nI_ge (b := 12) hi (by decide))]
  by_cases h4 : i < 4
  · rw [if_neg (show ¬ (4 : Int32) ≤ nI i from nI_ge (b := 4) h4 (by decide)), if_pos h4]
  · rw [if_pos (show (4 : Int32) ≤ nI i from nI_le (a := 4) (by omega) (by omega)), if_neg h4]
    by_cases h8 : i < 8
    · rw [if_neg (show ¬ (8 : Int32) ≤ nI i from nI_ge (b := 8) h8 (by decide)), if_pos h8]
    · rw [if_pos (show (8 : Int32) ≤ nI i from nI_le (a := 8) (by omega) (by omega)), if_neg h8]
theorem tp_four {len N K i : Nat} {v x1 x2 x3 : Int32} (h : TpB Mc Mm len) (pc : PC Mc) (pm : PM Mm) (hl : len + 4 ≤ 96) (hi : i = 0 ∨ i = 4 ∨ i = 8) (hv : v = if i < 4 then x1 else if i < 8 then x2 else x3) (hK : 4 < K) : ∃ Mc' Mm', fX5_addFour_h3 K 4 v 24 Mc = some Mc' ∧ fX7_feed_h18 (N + 4) 0 x1 x2 x3 (nI i) Mm = fX7_feed_h18 N 0 x1 x2 x3 (nI (i + 4)) Mm' ∧ TpB Mc' Mm' (len + 4) ∧ FrT Mc Mc' ∧ FrU Mm Mm' := by
  obtain ⟨K, rfl⟩ : ∃ k, K = k + 5 := ⟨K - 5, by omega⟩
  have hw : ∀ j, i ≤ j → j < i + 4 → (if j < 4 then x1 else if j < 8 then x2 else x3) = v := by
    intro j j1 j2
    rw [hv]
    rcases hi with rfl | rfl | rfl
    · rw [if_pos (by omega), if_pos (by omega)]
    · rw [if_neg (by omega), if_pos (by omega), if_neg (by omega), if_pos (by omega)]
    · rw [if_neg (by omega), if_neg (by omega), if_neg (by omega), if_neg (by omega)]
  obtain ⟨A1, B1, a1, a2, a3, a4, a5⟩ := tp_one (N := K + 4) (v := v) (s := 24) (k18 := fX7_feed_h18 (N + 3)) (x1 := x1) (x2 := x2) (x3 := x3) h pc pm (by omega) (by omega : i < 12) (by rcases hi with rfl | rfl | rfl <;> rfl)
  have pc1 : PC A1 := pc.of2 a4.1
  have pm1 : PM B1 := fun k hk => by rw [a5.1]; exact pm k hk
  obtain ⟨A2, B2, b1, b2, b3, b4, b5⟩ := tp_one (N := K + 3) (v := v) (s := 24 + (-8)) (k18 := fX7_feed_h18 (N + 2)) (x1 := x1) (x2 := x2) (x3 := x3) a3 pc1 pm1 (by omega) (by omega : i + 1 < 12) (by rcases hi with rfl | rfl | rfl <;> rfl)
  have pc2 : PC A2 := pc1.of2 b4.1
  have pm2 : PM B2 := fun k hk => by rw [b5.1]; exact pm1 k hk
  obtain ⟨A3, B3, c1, c2, c3, c4, c5⟩ := tp_one (N := K + 2) (v := v) (s := 24 + (-8) + (-8)) (k18 := fX7_feed_h18 (N + 1)) (x1 := x1) (x2 := x2) (x3 := x3) b3 pc2 pm2 (by omega) (by omega : i + 1 + 1 < 12) (by rcases hi with rfl | rfl | rfl <;> rfl)
  have pc3 : PC A3 := pc2.of2 c4.1
  have pm3 : PM B3 := fun k hk => by rw [c5.1]; exact pm2 k hk
  obtain ⟨A4, B4, d1, d2, d3, d4, d5⟩ := tp_one (N := K + 1) (v := v) (s := 24 + (-8) + (-8) + (-8)) (k18 := fX7_feed_h18 N) (x1 := x1) (x2 := x2) (x3 := x3) c3 pc3 pm3 (by omega) (by omega : i + 1 + 1 + 1 < 12) (by rcases hi with rfl | rfl | rfl <;> rfl)
  refine ⟨A4, B4, ?_, ?_, d3, ((a4.trans b4).trans c4).trans d4, ((a5.trans b5).trans c5).trans d5⟩
  · rw [a1, b1, c1, d1, fX5_addFour_h3, if_pos (by decide)]
  · rw [show N + 4 = N + 3 + 1 from rfl, m_fd (by omega), hw i (by omega) (by omega), a2, show N + 3 = N + 2 + 1 from rfl, m_fd (by omega), hw (i + 1) (by omega) (by omega), b2, show N + 2 = N + 1 + 1 from rfl, m_fd (by omega), hw (i + 1 + 1) (by omega) (by omega), c2, m_fd (by omega), hw (i + 1 + 1 + 1) (by omega) (by omega), d2]
theorem m_feed {N len : Nat} {x1 x2 x3 : Int32} (h : TpB Mc Mm len) (pc : PC Mc) (pm : PM Mm) (hl : len + 12 ≤ 96) (hN : 12 < N) : ∃ A1 A2 A3 B, fX5_addFour 4 x1 Mc = some A1 ∧ fX5_addFour 4 x2 A1 = some A2 ∧ fX5_addFour 4 x3 A2 = some A3 ∧ fX7_feed_h18 N 0 x1 x2 x3 0 Mm = some (nI (len + 12), B) ∧ TpB A3 B (len + 12) ∧ FrT Mc A1 ∧ FrT A1 A2 ∧ FrT A2 A3 ∧ FrU Mm B := by
  obtain ⟨N, rfl⟩ : ∃ k, N = k + 13 := ⟨N - 13, by omega⟩
  obtain ⟨A1, B1, a1, a2, a3, a4, a5⟩ := tp_four (N := N + 9) (K := 4000) (v := x1) (i := 0) (x1 := x1) (x2 := x2) (x3 := x3) h pc pm (by omega) (Or.inl rfl) rfl (by decide)
  have pc1 : PC A1 := pc.of2 a4.1
  have pm1 : PM B1 := fun k hk => by rw [a5.1]; exact pm k hk
  obtain ⟨A2, B2, b1, b2, b3, b4, b5⟩ := tp_four (N := N + 5) (K := 4000) (v := x2) (i := 4) (x1 := x1) (x2 := x2) (x3 := x3) a3 pc1 pm1 (by omega) (Or.inr (Or.inl rfl)) rfl (by decide)
  have pc2 : PC A2 := pc1.of2 b4.1
  have pm2 : PM B2 := fun k hk => by rw [b5.1]; exact pm1 k hk
  obtain ⟨A3, B3, c1, c2, c3, c4, c5⟩ := tp_four (N := N + 1) (K := 4000) (v := x3) (i := 8) (x1 := x1) (x2 := x2) (x3 := x3) b3 pc2 pm2 (by omega) (Or.inr (Or.inr rfl)) rfl (by decide)
  refine ⟨A1, A2, A3, B3, by unfold fX5_addFour; exact a1, by unfold fX5_addFour; exact b1, by unfold fX5_addFour; exact c1, ?_, c3, a4, b4, c4, (a5.trans b5).trans c5⟩
  rw [show (0 : Int32) = nI 0 from nI_0.symm, show N + 13 = N + 9 + 4 from rfl, a2, show N + 9 = N + 5 + 4 from rfl, b2, show N + 5 = N + 1 + 4 from rfl, c2, fX7_feed_h18, if_pos (show (12 : Int32) ≤ nI (8 + 4) by decide), m_g0, bS, c3.2.1]
theorem op_feed : opS3 Sim fX6_feed fX7_feed := by
  intro Mc Mm h x1 x2 x3
  obtain ⟨pc, pm, _⟩ := id h
  obtain ⟨len, hl, c4, m18, hx⟩ := h.tp
  have e4 : ∀ M : ctM, gI kdC 5 1 4 M = some (M.1 4 1) := fun M => gI_at (show kdC 4 = 5 from rfl)
  have e12 : nI len + 12 = nI (len + 12) := nI_add len 12
  by_cases h12 : len + 12 ≤ 96
  · obtain ⟨A1, A2, A3, B, a1, a2, a3, a4, a5, a6, a7, a8, a9⟩ := m_feed (N := 4000) (x1 := x1) (x2 := x2) (x3 := x3) ⟨c4, m18, hx⟩ pc pm h12 (by decide)
    have pc1 : PC A1 := pc.of2 a6.1
    have pc2 : PC A2 := pc1.of2 a7.1
    have pc3 : PC A3 := pc2.of2 a8.1
    have fr := (a6.trans a7).trans a8
    have cV4 : ∀ (o : Option ctM), cV kdC 5 4 o = o := fun o => cV_at (show kdC 4 = 5 from rfl)
    refine ⟨nI (len + 12), A3, B, ?_, ?_, ?_⟩
    · unfold fX6_feed
      rw [o_tape pc, bS, e4, bS, c4, e12, if_pos (show nI (len + 12) ≤ 96 from nI_le (b := 96) h12 (by decide)), bS, cV4, a1, bS, o_tape pc1, bS, cV4, a2, bS, o_tape pc2, bS, cV4, a3, bS, o_tape pc3, bS, e4, bS, a5.1]
    · unfold fX7_feed
      rw [m_g0, bS, m18, e12, if_pos (show nI (len + 12) ≤ 96 from nI_le (b := 96) h12 (by decide)), a4]
    · refine h.side fr.1 a9.1 (fun b h1 h2 => fr.2 b (by omega) (by omega)) (by rw [fr.2 0 (by decide) (by decide)]) (a9.2.1 1 (by decide) (by decide)) (a9.2.1 2 (by decide) (by decide)) (a9.2.2 3 (by decide)) (h.sh.congr (fun b _ _ => fr.2 b (by omega) (by omega)) (a9.2.1 4 (by decide) (by decide)) (a9.2.1 5 (by decide) (by decide)) (a9.2.1 6 (by decide) (by decide))) (h.sl.congr (fun b _ _ => fr.2 b (by omega) (by omega)) (fun b _ _ => a9.2.1 b (by omega) (by omega))) ⟨len + 12, h12, a5⟩ (h.wt.congr (by rw [fr.2 0 (by decide) (by decide)]) (fr.2 3 (by decide) (by decide)) (a9.2.2 33 (by decide)) (a9.2.1 19 (by decide) (by decide)))
  · have hn : ¬ nI (len + 12) ≤ 96 := nI_ge (a := 96) (by omega) (by omega)
    exact ⟨-1000000003, Mc, Mm, by simp only [fX6_feed, o_tape pc, bS, e4, c4, e12, if_neg hn], by simp only [fX7_feed, m_g0, bS, m18, e12, if_neg hn], h⟩
end
