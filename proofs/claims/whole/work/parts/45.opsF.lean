/-! sheets, slots, what waits: frames and access -/
section
variable {Mc Mm Mc' Mm' : ctM} {n : Nat}
theorem Sim.side (h : Sim Mc Mm) (c2 : Mc'.2 = Mc.2) (m2 : Mm'.2 = Mm.2) (cc : ∀ b, 6 ≤ b → b < 121 → Mc'.1 b = Mc.1 b) (c0 : Mc'.1 0 4 = Mc.1 0 4) (e1 : Mm'.1 1 = Mm.1 1) (e2 : Mm'.1 2 = Mm.1 2) (m0 : Mm'.1 0 3 = Mm.1 0 3) (sh : ShS Mc' Mm') (sl : SlS Mc' Mm') (tp : TpS Mc' Mm') (wt : WtS Mc' Mm') : Sim Mc' Mm' := by
  obtain ⟨a1, a2, a3, a4, a5, ⟨nt, b1, b2, b3⟩, _, _, _, _, b8⟩ := h
  have rk : ∀ r, 82 ≤ r → r ≤ 108 → rK Mc' r = rK Mc r := fun r h1 h2 => rK_congr (fun k _ _ => by rw [cc r (by omega) (by omega)]) (fun i _ => by rw [cc (r + 2) (by omega) (by omega)]) (fun f k _ _ => by rw [cc (r + 5 + f) (by omega) (by omega)])
  refine ⟨a1.of2 c2, fun k hk => by rw [m2]; exact a2 k hk, by unfold LW; rw [c2]; exact a3, by rw [e1, rk 82 (by omega) (by omega)]; exact a4, by rw [e1]; exact a5, ⟨nt, b1.congr c2 (fun b x y _ => cc b x (by omega)) (fun j _ => by rw [e1]), b2.congr (fun k _ => by rw [cc (82 + 4) (by omega) (by omega)]) (fun t _ => by rw [e1]), ?_⟩, sh, sl, tp, wt, by rw [e1]; exact b8.1, by rw [e2, m0]; exact b8.2⟩
  unfold ImS at b3 ⊢
  rw [c0, m0, e1, e2, rk 108 (by omega) (by omega)]
  rcases b3 with e | ⟨f1, f2, f3, f4, ni, f5, f6, f7, f8⟩
  · exact Or.inl e
  · exact Or.inr ⟨f1, f2, f3, f4, ni, f5, f6, f7.congr (fun k _ => by rw [cc (108 + 4) (by omega) (by omega)]) (fun _ _ => rfl), f8⟩
theorem Sim.sh (h : Sim Mc Mm) : ShS Mc Mm := h.2.2.2.2.2.2.1
theorem Sim.sl (h : Sim Mc Mm) : SlS Mc Mm := h.2.2.2.2.2.2.2.1
theorem Sim.tp (h : Sim Mc Mm) : TpS Mc Mm := h.2.2.2.2.2.2.2.2.1
theorem Sim.wt (h : Sim Mc Mm) : WtS Mc Mm := h.2.2.2.2.2.2.2.2.2.1
theorem ShS.congr (h : ShS Mc Mm) (hc : ∀ b, 121 ≤ b → b < 129 → Mc'.1 b = Mc.1 b) (h4 : Mm'.1 4 = Mm.1 4) (h5 : Mm'.1 5 = Mm.1 5) (h6 : Mm'.1 6 = Mm.1 6) : ShS Mc' Mm' := fun i hi => by
  rw [hc (121 + 2 * i) (by omega) (by omega), hc (122 + 2 * i) (by omega) (by omega), h4, h5, h6]
  exact h i hi
theorem SlS.congr (h : SlS Mc Mm) (hc : ∀ b, 129 ≤ b → b < 149 → Mc'.1 b = Mc.1 b) (hm : ∀ b, 7 ≤ b → b ≤ 11 → Mm'.1 b = Mm.1 b) : SlS Mc' Mm' := fun i hi => by
  rw [hc (129 + 4 * i) (by omega) (by omega), hc (130 + 4 * i) (by omega) (by omega), hc (131 + 4 * i) (by omega) (by omega), hc (132 + 4 * i) (by omega) (by omega), hm 7 (by omega) (by omega), hm 8 (by omega) (by omega), hm 9 (by omega) (by omega), hm 10 (by omega) (by omega), hm 11 (by omega) (by omega)]
  exact h i hi
theorem TpS.congr (h : TpS Mc Mm) (h4 : Mc'.1 4 1 = Mc.1 4 1) (h5 : Mc'.1 5 = Mc.1 5) (h18 : Mm'.1 0 18 = Mm.1 0 18) (h15 : Mm'.1 15 = Mm.1 15) : TpS Mc' Mm' := by
  unfold TpS
  rw [h4, h5, h18, h15]
  exact h
theorem WtS.congr (h : WtS Mc Mm) (h8 : Mc'.1 0 8 = Mc.1 0 8) (h3 : Mc'.1 3 = Mc.1 3) (h33 : Mm'.1 0 33 = Mm.1 0 33) (h19 : Mm'.1 19 = Mm.1 19) : WtS Mc' Mm' := by
  unfold WtS
  rw [h8, h3, h33, h19]
  exact h
theorem kC_row_ : ∀ i, i < 4 → kdC (121 + 2 * i) = 3 ∧ kdC (122 + 2 * i) = 9 ∧ lnC (122 + 2 * i) = 24 := by decide +kernel
theorem kC_slot_ : ∀ i, i < 5 → kdC (129 + 4 * i) = 4 ∧ kdC (130 + 4 * i) = 0 ∧ kdC (131 + 4 * i) = 3 ∧ kdC (132 + 4 * i) = 9 ∧ lnC (132 + 4 * i) = 24 := by decide +kernel
theorem sh_at (pc : PC Mc) {i : Nat} (hi : i < 4) : aP kdC lnC 13 1 (nI i) Mc = some (121 + 2 * i) := (aP_at (n := 4) (by decide) (by decide) hi (by decide)).trans (pc.2.2.1 i hi).1
theorem sh_pl (pc : PC Mc) {i : Nat} (hi : i < 4) : gP kdC 3 2 (121 + 2 * i) Mc = some (122 + 2 * i) := (gP_at (kC_row_ i hi).1).trans (pc.2.2.1 i hi).2
theorem sh_g {i k : Nat} (hi : i < 4) : gI kdC 3 k (121 + 2 * i) Mc = some (Mc.1 (121 + 2 * i) k) := gI_at (kC_row_ i hi).1
theorem sh_p {i k : Nat} {v : Int32} (hi : i < 4) : pI kdC 3 k (121 + 2 * i) v Mc = some (ctI Mc (121 + 2 * i) k v) := pI_at (kC_row_ i hi).1
theorem sh_cV {α : Type} {o : Option α} {i : Nat} (hi : i < 4) : cV kdC 3 (121 + 2 * i) o = o := cV_at (kC_row_ i hi).1
theorem sh_r {i k : Nat} (hi : i < 4) (hk : k < 24) : aI kdC lnC 9 (122 + 2 * i) (nI k) Mc = some (Mc.1 (122 + 2 * i) k) := aI_at (n := 24) (kC_row_ i hi).2.1 (kC_row_ i hi).2.2 hk (by decide)
theorem sh_w {i k : Nat} {v : Int32} (hi : i < 4) (hk : k < 24) : sI kdC lnC 9 (122 + 2 * i) (nI k) v Mc = some (ctI Mc (122 + 2 * i) k v) := sI_at (n := 24) (kC_row_ i hi).2.1 (kC_row_ i hi).2.2 hk (by decide)
theorem sl_at (pc : PC Mc) {i : Nat} (hi : i < 5) : aP kdC lnC 14 2 (nI i) Mc = some (129 + 4 * i) := (aP_at (n := 5) (by decide) (by decide) hi (by decide)).trans (pc.2.2.2.1 i hi).1
theorem sl_f (pc : PC Mc) {i : Nat} (hi : i < 5) : gP kdC 4 1 (129 + 4 * i) Mc = some (130 + 4 * i) := (gP_at (kC_slot_ i hi).1).trans (pc.2.2.2.1 i hi).2.1
theorem sl_r (pc : PC Mc) {i : Nat} (hi : i < 5) : gP kdC 4 2 (129 + 4 * i) Mc = some (131 + 4 * i) := (gP_at (kC_slot_ i hi).1).trans (pc.2.2.2.1 i hi).2.2.1
theorem sl_pl (pc : PC Mc) {i : Nat} (hi : i < 5) : gP kdC 3 2 (131 + 4 * i) Mc = some (132 + 4 * i) := (gP_at (kC_slot_ i hi).2.2.1).trans (pc.2.2.2.1 i hi).2.2.2
theorem sl_g {i k : Nat} (hi : i < 5) : gI kdC 4 k (129 + 4 * i) Mc = some (Mc.1 (129 + 4 * i) k) := gI_at (kC_slot_ i hi).1
theorem sl_p {i k : Nat} {v : Int32} (hi : i < 5) : pI kdC 4 k (129 + 4 * i) v Mc = some (ctI Mc (129 + 4 * i) k v) := pI_at (kC_slot_ i hi).1
theorem sl_cF {α : Type} {o : Option α} {i : Nat} (hi : i < 5) : cV kdC 0 (130 + 4 * i) o = o := cV_at (kC_slot_ i hi).2.1
theorem sl_cR {α : Type} {o : Option α} {i : Nat} (hi : i < 5) : cV kdC 3 (131 + 4 * i) o = o := cV_at (kC_slot_ i hi).2.2.1
theorem sl_rd {i k : Nat} (hi : i < 5) (hk : k < 24) : aI kdC lnC 9 (132 + 4 * i) (nI k) Mc = some (Mc.1 (132 + 4 * i) k) := aI_at (n := 24) (kC_slot_ i hi).2.2.2.1 (kC_slot_ i hi).2.2.2.2 hk (by decide)
theorem sl_wr {i k : Nat} {v : Int32} (hi : i < 5) (hk : k < 24) : sI kdC lnC 9 (132 + 4 * i) (nI k) v Mc = some (ctI Mc (132 + 4 * i) k v) := sI_at (n := 24) (kC_slot_ i hi).2.2.2.1 (kC_slot_ i hi).2.2.2.2 hk (by decide)
theorem mt4 {i : Nat} (hi : i < 4) : aI kdM lnM 9 4 (nI i) Mm = some (Mm.1 4 i) := aI_at (n := 4) rfl rfl hi (by decide)
theorem mt5 {i : Nat} (hi : i < 4) : aI kdM lnM 9 5 (nI i) Mm = some (Mm.1 5 i) := aI_at (n := 4) rfl rfl hi (by decide)
theorem mt6 {i : Nat} (hi : i < 96) : aI kdM lnM 9 6 (nI i) Mm = some (Mm.1 6 i) := aI_at (n := 96) rfl rfl hi (by decide)
theorem mw4 {i : Nat} {v : Int32} (hi : i < 4) : sI kdM lnM 9 4 (nI i) v Mm = some (ctI Mm 4 i v) := sI_at (n := 4) rfl rfl hi (by decide)
theorem mw5 {i : Nat} {v : Int32} (hi : i < 4) : sI kdM lnM 9 5 (nI i) v Mm = some (ctI Mm 5 i v) := sI_at (n := 4) rfl rfl hi (by decide)
theorem mw6 {i : Nat} {v : Int32} (hi : i < 96) : sI kdM lnM 9 6 (nI i) v Mm = some (ctI Mm 6 i v) := sI_at (n := 96) rfl rfl hi (by decide)
theorem mt7 {i : Nat} (hi : i < 5) : aI kdM lnM 9 7 (nI i) Mm = some (Mm.1 7 i) := aI_at (n := 5) rfl rfl hi (by decide)
theorem mt8 {i : Nat} (hi : i < 5) : aI kdM lnM 9 8 (nI i) Mm = some (Mm.1 8 i) := aI_at (n := 5) rfl rfl hi (by decide)
theorem mt9 {i : Nat} (hi : i < 5) : aI kdM lnM 9 9 (nI i) Mm = some (Mm.1 9 i) := aI_at (n := 5) rfl rfl hi (by decide)
theorem mt10 {i : Nat} (hi : i < 5) : aI kdM lnM 9 10 (nI i) Mm = some (Mm.1 10 i) := aI_at (n := 5) rfl rfl hi (by decide)
theorem mt11 {i : Nat} (hi : i < 120) : aI kdM lnM 9 11 (nI i) Mm = some (Mm.1 11 i) := aI_at (n := 120) rfl rfl hi (by decide)
theorem mw7 {i : Nat} {v : Int32} (hi : i < 5) : sI kdM lnM 9 7 (nI i) v Mm = some (ctI Mm 7 i v) := sI_at (n := 5) rfl rfl hi (by decide)
theorem mw8 {i : Nat} {v : Int32} (hi : i < 5) : sI kdM lnM 9 8 (nI i) v Mm = some (ctI Mm 8 i v) := sI_at (n := 5) rfl rfl hi (by decide)
theorem mw9 {i : Nat} {v : Int32} (hi : i < 5) : sI kdM lnM 9 9 (nI i) v Mm = some (ctI Mm 9 i v) := sI_at (n := 5) rfl rfl hi (by decide)
theorem mw10 {i : Nat} {v : Int32} (hi : i < 5) : sI kdM lnM 9 10 (nI i) v Mm = some (ctI Mm 10 i v) := sI_at (n := 5) rfl rfl hi (by decide)
theorem mw11 {i : Nat} {v : Int32} (hi : i < 120) : sI kdM lnM 9 11 (nI i) v Mm = some (ctI Mm 11 i v) := sI_at (n := 120) rfl rfl hi (by decide)
theorem i_24 (i k : Nat) : (24 : Int32) * nI i + nI k = nI (24 * i + k) := by
  rw [show (24 : Int32) * nI i = nI 24 * nI i from rfl, pk_mul, nI_add]
/-! what waits -/
theorem op_tell : opS1 Sim fX6_tell fX7_tell := by
  intro Mc Mm h v
  obtain ⟨pc, pm, _⟩ := id h
  obtain ⟨w, hw, c8, m33, hx⟩ := h.wt
  by_cases h60 : w = 60
  · subst h60
    refine ⟨-1000000003, Mc, Mm, ?_, ?_, h⟩
    · simp only [fX6_tell, o_g, bS, c8, if_neg (show ¬ nI 60 < 60 by decide)]
    · simp only [fX7_tell, m_g0, bS, m33, if_pos (show nI 60 = 60 from rfl)]
  · have hw60 : w < 60 := by omega
    refine ⟨nI (w + 1), ctI (ctI Mc 3 w v) 0 8 (nI (w + 1)), ctI (ctI Mm 19 w v) 0 33 (nI (w + 1)), ?_, ?_, ?_⟩
    · have e : sI kdC lnC 9 3 (nI w) v Mc = some (ctI Mc 3 w v) := sI_at (n := 60) (by decide) (by decide) hw60 (by decide)
      simp only [fX6_tell, o_g, bS, c8, if_pos (show nI w < 60 from nI_lt (b := 60) hw60 (by decide)), o_wait pc, e, ctI_ne (show 0 ≠ 3 by decide), nI_1, o_p, ctI_1, va_up_eq']
    · have e : sI kdM lnM 9 19 (nI w) v Mm = some (ctI Mm 19 w v) := sI_at (n := 60) rfl rfl hw60 (by decide)
      simp only [fX7_tell, m_g0, bS, m33, if_neg (show ¬ nI w = 60 from fun z => h60 ((nI_eq (b := 60) (by omega) (by decide)).mp z)), gM32 pm, e, ctI_ne (show 0 ≠ 19 by decide), nI_1, m_p0, ctI_1, va_up_eq']
    · refine h.side rfl rfl (fun b h1 h2 => by rw [ctI_ne (by omega), ctI_ne (by omega)]) ?_ (by rw [ctI_ne (by decide), ctI_ne (by decide)]) (by rw [ctI_ne (by decide), ctI_ne (by decide)]) ?_ (h.sh.congr (fun b _ _ => by rw [ctI_ne (by omega), ctI_ne (by omega)]) (by rw [ctI_ne (by decide), ctI_ne (by decide)]) (by rw [ctI_ne (by decide), ctI_ne (by decide)]) (by rw [ctI_ne (by decide), ctI_ne (by decide)])) (h.sl.congr (fun b _ _ => by rw [ctI_ne (by omega), ctI_ne (by omega)]) (fun b _ _ => by rw [ctI_ne (by omega), ctI_ne (by omega)])) (h.tp.congr (by rw [ctI_ne (by decide), ctI_ne (by decide)]) (by rw [ctI_ne (by decide), ctI_ne (by decide)]) ?_ (by rw [ctI_ne (by decide), ctI_ne (by decide)])) ⟨w + 1, by omega, ?_, ?_, fun i hi => ?_⟩
      · rw [ctI_1, va_up_ne' (by decide), ctI_ne (by decide)]
      · rw [ctI_1, va_up_ne' (by decide), ctI_ne (by decide)]
      · rw [ctI_1, va_up_ne' (by decide), ctI_ne (by decide)]
      · rw [ctI_1, va_up_eq']
      · rw [ctI_1, va_up_eq']
      · rw [ctI_ne (by decide), ctI_1, ctI_ne (by decide), ctI_1]
        by_cases e : i = w
        · subst e; rw [va_up_eq', va_up_eq']
        · rw [va_up_ne' e, va_up_ne' e]; exact hx i (by omega)
theorem op_trim : opS1 Sim fX6_trim fX7_trim := by
  intro Mc Mm h v
  obtain ⟨pc, pm, _⟩ := id h
  obtain ⟨len, hl, c4, m18, hx⟩ := h.tp
  have e4 : gI kdC 5 1 4 Mc = some (Mc.1 4 1) := gI_at (show kdC 4 = 5 from rfl)
  by_cases h1 : 0 ≤ v ∧ v ≤ nI len
  · obtain ⟨m, _, hm, rfl⟩ := rg_in (hi := len) nI_0.symm rfl (by omega) (by decide) h1
    refine ⟨nI m, ctI Mc 4 1 (nI m), ctI Mm 0 18 (nI m), ?_, ?_, ?_⟩
    · have e5 : pI kdC 5 1 4 (nI m) Mc = some (ctI Mc 4 1 (nI m)) := pI_at (show kdC 4 = 5 from rfl)
      simp only [fX6_trim, o_tape pc, bS, e4, c4, c_within, if_pos h1, if_neg i_10, e5]
    · simp only [fX7_trim, m_g0, bS, m18, m_isInL (nI m) 0 (nI len).toInt64 0 (nI len) (by decide) rfl, if_pos h1, if_neg i_10, m_p0]
    · refine h.side rfl rfl (fun b h1 h2 => ctI_ne (by omega)) (by rw [ctI_ne (by decide)]) (ctI_ne (by decide)) (ctI_ne (by decide)) ?_ (h.sh.congr (fun b _ _ => ctI_ne (by omega)) (ctI_ne (by decide)) (ctI_ne (by decide)) (ctI_ne (by decide))) (h.sl.congr (fun b _ _ => ctI_ne (by omega)) (fun b _ _ => ctI_ne (by omega))) ⟨m, by omega, by rw [ctI_1, va_up_eq'], by rw [ctI_1, va_up_eq'], fun i hi => ?_⟩ (h.wt.congr (by rw [ctI_ne (by decide)]) (ctI_ne (by decide)) ?_ (ctI_ne (by decide)))
      · rw [ctI_1, va_up_ne' (by decide)]
      · rw [ctI_ne (by decide), ctI_ne (by decide)]; exact hx i (by omega)
      · rw [ctI_1, va_up_ne' (by decide)]
  · exact ⟨-1000000001, Mc, Mm, by simp only [fX6_trim, o_tape pc, bS, e4, c4, c_within, if_neg h1, if_true], by simp only [fX7_trim, m_g0, bS, m18, m_isInL v 0 (nI len).toInt64 0 (nI len) (by decide) rfl, if_neg h1, if_true], h⟩
end
