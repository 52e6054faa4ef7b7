section
variable {Mc Mm M2 M3 : ctM} {n : Nat}
def SlI (Mc Mm : ctM) (i : Nat) : Prop := Mc.1 (129 + 4 * i) 0 = Mm.1 7 i ∧ rg (Mm.1 7 i) 0 4 ∧ (Mm.1 7 i = 1 → Mc.1 (130 + 4 * i) 0 = Mm.1 8 i ∧ Mm.1 9 i = kWorth (Mc.1 (130 + 4 * i) 0) (Mc.1 (130 + 4 * i) 3)) ∧ (Mm.1 7 i = 2 → Mc.1 (131 + 4 * i) 1 = Mm.1 10 i ∧ rg (Mm.1 10 i) 0 25 ∧ ∀ k, k < 24 → Mc.1 (132 + 4 * i) k = Mm.1 11 (24 * i + k)) ∧ (Mm.1 7 i = 3 → Mc.1 (129 + 4 * i) 3 = Mm.1 8 i)
theorem Sim.slnew {i : Nat} (h : Sim Mc Mm) (hi : i < 5) (c2 : M2.2 = Mc.2) (m2 : M3.2 = Mm.2) (c : ∀ b, b < 129 + 4 * i ∨ 133 + 4 * i ≤ b → M2.1 b = Mc.1 b) (m : ∀ b, b < 7 ∨ 11 < b → M3.1 b = Mm.1 b) (mo : ∀ b q, 7 ≤ b → b ≤ 10 → q ≠ i → M3.1 b q = Mm.1 b q) (m11 : ∀ q, q < 24 * i ∨ 24 * i + 24 ≤ q → M3.1 11 q = Mm.1 11 q) (sl : SlI M2 M3 i) : Sim M2 M3 := by
  refine h.side c2 m2 (fun b _ _ => c b (by omega)) (by rw [c 0 (by omega)]) (m 1 (by omega)) (m 2 (by omega)) (by rw [m 0 (by omega)]) (h.sh.congr (fun b _ _ => c b (by omega)) (m 4 (by omega)) (m 5 (by omega)) (m 6 (by omega))) (fun i2 hi2 => ?_) (h.tp.congr (by rw [c 4 (by omega)]) (c 5 (by omega)) (by rw [m 0 (by omega)]) (m 15 (by omega))) (h.wt.congr (by rw [c 0 (by omega)]) (c 3 (by omega)) (by rw [m 0 (by omega)]) (m 19 (by omega)))
  by_cases e : i2 = i
  · subst e; exact sl
  · rw [c (129 + 4 * i2) (by omega), c (130 + 4 * i2) (by omega), c (131 + 4 * i2) (by omega), c (132 + 4 * i2) (by omega), mo 7 i2 (by omega) (by omega) e, mo 8 i2 (by omega) (by omega) e, mo 9 i2 (by omega) (by omega) e, mo 10 i2 (by omega) (by omega) e]
    obtain ⟨t0, t1, t2, t3, t4⟩ := h.sl i2 hi2
    refine ⟨t0, t1, t2, fun z => ?_, t4⟩
    obtain ⟨q1, q2, q3⟩ := t3 z
    exact ⟨q1, q2, fun k hk => by rw [m11 _ (by omega)]; exact q3 k hk⟩
theorem c_rowLoop {i k : Nat} (pc : PC Mc) (hi : i < 5) (hk : k < 4) : ∀ (d j N : Nat) (M1 : ctM), j + d = 24 → d < N → FlS Mc (132 + 4 * i) 0 j (fun q => Mc.1 (122 + 2 * k) q) M1 → ∃ M2, fX3_become_h18 N (131 + 4 * i) (121 + 2 * k) (nI j) M1 = some M2 ∧ FlS Mc (132 + 4 * i) 0 24 (fun q => Mc.1 (122 + 2 * k) q) M2 := by
  intro d
  induction d with
  | zero =>
    intro j N M1 hj hN h
    obtain ⟨N, rfl⟩ : ∃ k, N = k + 1 := ⟨N - 1, by omega⟩
    have : j = 24 := by omega
    subst this
    exact ⟨M1, by rw [fX3_become_h18, if_pos (by decide)], h⟩
  | succ d ih =>
    intro j N M1 hj hN h
    obtain ⟨N, rfl⟩ : ∃ k, N = k + 1 := ⟨N - 1, by omega⟩
    have h2 := h.step (v := M1.1 (122 + 2 * k) j) (by rw [h.2.1 _ (by omega)])
    rw [Nat.zero_add] at h2
    obtain ⟨M2, w1, w2⟩ := ih (j + 1) N _ (by omega) (by omega) h2
    refine ⟨M2, ?_, w2⟩
    rw [fX3_become_h18, if_neg (i_24le (by omega)), sl_pl (h.pc pc) hi, bS, sh_pl (h.pc pc) hk, bS, sh_r hk (by omega), bS, sl_wr hi (by omega), bS, nI_1]
    exact w1
theorem m_rowLoop {i k : Nat} {x5 : Int32} (pm : PM Mm) (hi : i < 5) (hk : k < 4) : ∀ (d j N : Nat) (M1 : ctM), j + d = 24 → d < N → FlS Mm 11 (24 * i) j (fun q => Mm.1 6 (24 * k + q)) M1 → ∃ M2, fX7_lay_h150 N 0 (nI i) (nI k) x5 (nI j) M1 = some (x5, M2) ∧ FlS Mm 11 (24 * i) 24 (fun q => Mm.1 6 (24 * k + q)) M2 := by
  intro d
  induction d with
  | zero =>
    intro j N M1 hj hN h
    obtain ⟨N, rfl⟩ : ∃ k, N = k + 1 := ⟨N - 1, by omega⟩
    have : j = 24 := by omega
    subst this
    exact ⟨M1, by rw [fX7_lay_h150, if_pos (by decide)], h⟩
  | succ d ih =>
    intro j N M1 hj hN h
    obtain ⟨N, rfl⟩ : ∃ k, N = k + 1 := ⟨N - 1, by omega⟩
    obtain ⟨M2, w1, w2⟩ := ih (j + 1) N _ (by omega) (by omega) (h.step (v := M1.1 6 (24 * k + j)) (by rw [h.2.1 6 (by decide)]))
    refine ⟨M2, ?_, w2⟩
    rw [fX7_lay_h150, if_neg (i_24le (by omega)), gM11 (h.pm pm), bS, gM6 (h.pm pm), bS, i_24, mt6 (show 24 * k + j < 96 by omega), bS, i_24, mw11 (show 24 * i + j < 120 by omega), bS, nI_1]
    exact w1
/-- what is laid -/
theorem lay_flame {i f : Nat} (h : Sim Mc Mm) (hi : Inv (Mm.1 1) n) (hi5 : i < 5) (hf : f < n) : ∃ M2 M3, fX6_lay_b76 0 (nI i) 1 (nI f) Mc = some (Mm.1 7 i, M2) ∧ fX7_lay_b74 0 (nI i) 1 (nI f) Mm = some (Mm.1 7 i, M3) ∧ Sim M2 M3 := by
  obtain ⟨pc, pm, _, ag, _⟩ := id h
  have hn := hi.1
  have hf8 : f < 8 := by omega
  obtain ⟨t0, _⟩ := h.sl i hi5
  have pc1 : PC (ctI Mc (129 + 4 * i) 0 1) := pc
  have kf := (kC_slot_ i hi5).2.1
  have kg := kC_fl r82 hf8
  have ne1 : 82 + 5 + f ≠ 130 + 4 * i := by omega
  have ne2 : 82 + 5 + f ≠ 129 + 4 * i := by omega
  have g : ∀ k, k < 7 → Mc.1 (82 + 5 + f) k = fl (Mm.1 1) f k := fun k hk => by rw [ag.fl hf8 hk, rK_fl hf8 hk]
  have pm1 : PM (ctI Mm 7 i 1) := pm
  have pm2 : ∀ v, PM (ctI (ctI Mm 7 i 1) 8 i v) := fun v => pm
  have s1 : ∀ v, (ctI (ctI Mm 7 i 1) 8 i v).1 1 = Mm.1 1 := fun v => by rw [ctI_ne (by decide), ctI_ne (by decide)]
  have wm := m_worth (pm2 (fl (Mm.1 1) f 0)) hf8
  rw [s1] at wm
  have om := m_of0 pm1 hf8
  rw [ctI_ne (by decide)] at om
  refine ⟨ctI (ctI (ctI (ctI (ctI (ctI (ctI (ctI Mc (129 + 4 * i) 0 1) (130 + 4 * i) 0 (fl (Mm.1 1) f 0)) (130 + 4 * i) 1 (fl (Mm.1 1) f 1)) (130 + 4 * i) 2 (fl (Mm.1 1) f 2)) (130 + 4 * i) 3 (fl (Mm.1 1) f 3)) (130 + 4 * i) 4 (fl (Mm.1 1) f 4)) (130 + 4 * i) 5 (fl (Mm.1 1) f 5)) (130 + 4 * i) 6 (fl (Mm.1 1) f 6), ctI (ctI (ctI Mm 7 i 1) 8 i (fl (Mm.1 1) f 0)) 9 i (kWorth (fl (Mm.1 1) f 0) (fl (Mm.1 1) f 3)), ?_, ?_, ?_⟩
  · simp only [fX6_lay_b76, o_slots pc, bS, sl_at pc hi5, sl_g hi5, t0, sl_p hi5, if_true, sl_f pc1 hi5, o_now pc1, rm_f1 pc1 r82, rm_fl pc1 r82 hf8, sl_cF hi5, fX0_become, gI_at kg, pI_at kf, ctI_ne ne1, ctI_ne ne2, g 0 (by decide), g 1 (by decide), g 2 (by decide), g 3 (by decide), g 4 (by decide), g 5 (by decide), g 6 (by decide)]
  · simp only [fX7_lay_b74, fX7_lay_b109, fX7_lay_b129, gM7 pm, bS, mt7 hi5, mw7 hi5, gM8 pm1, if_true, m_cV, om, mw8 hi5, gM9 (pm2 _), wm, mw9 hi5, if_neg (show ¬ (1 : Int32) = 2 by decide)]
  · refine h.slnew hi5 rfl rfl (fun b hb => ?_) (fun b hb => ?_) (fun b q h1 h2 h3 => ?_) (fun q _ => ?_) ⟨?_, ?_, ?_, ?_, ?_⟩
    · rw [ctI_ne (by omega), ctI_ne (by omega), ctI_ne (by omega), ctI_ne (by omega), ctI_ne (by omega), ctI_ne (by omega), ctI_ne (by omega), ctI_ne (by omega)]
    · rw [ctI_ne (by omega), ctI_ne (by omega), ctI_ne (by omega)]
    · rcases (by omega : b = 7 ∨ b = 8 ∨ b = 9 ∨ b = 10) with rfl | rfl | rfl | rfl
      · rw [ctI_ne (by decide), ctI_ne (by decide), ctI_1, va_up_ne' h3]
      · rw [ctI_ne (by decide), ctI_1, va_up_ne' h3, ctI_ne (by decide)]
      · rw [ctI_1, va_up_ne' h3, ctI_ne (by decide), ctI_ne (by decide)]
      · rw [ctI_ne (by decide), ctI_ne (by decide), ctI_ne (by decide)]
    · rw [ctI_ne (by decide), ctI_ne (by decide), ctI_ne (by decide)]
    · rw [ctI_ne (by omega), ctI_ne (by omega), ctI_ne (by omega), ctI_ne (by omega), ctI_ne (by omega), ctI_ne (by omega), ctI_ne (by omega), ctI_1, va_up_eq', ctI_ne (by decide), ctI_ne (by decide), ctI_1, va_up_eq']
    · rw [ctI_ne (by decide), ctI_ne (by decide), ctI_1, va_up_eq']
      exact ⟨1, by omega, by omega, rfl⟩
    · intro _
      have e0 : (ctI (ctI (ctI (ctI (ctI (ctI (ctI (ctI Mc (129 + 4 * i) 0 1) (130 + 4 * i) 0 (fl (Mm.1 1) f 0)) (130 + 4 * i) 1 (fl (Mm.1 1) f 1)) (130 + 4 * i) 2 (fl (Mm.1 1) f 2)) (130 + 4 * i) 3 (fl (Mm.1 1) f 3)) (130 + 4 * i) 4 (fl (Mm.1 1) f 4)) (130 + 4 * i) 5 (fl (Mm.1 1) f 5)) (130 + 4 * i) 6 (fl (Mm.1 1) f 6)).1 (130 + 4 * i) 0 = fl (Mm.1 1) f 0 := by
        simp only [ctI_1]
        rw [va_up_ne' (by decide), va_up_ne' (by decide), va_up_ne' (by decide), va_up_ne' (by decide), va_up_ne' (by decide), va_up_ne' (by decide), va_up_eq']
      have e3 : (ctI (ctI (ctI (ctI (ctI (ctI (ctI (ctI Mc (129 + 4 * i) 0 1) (130 + 4 * i) 0 (fl (Mm.1 1) f 0)) (130 + 4 * i) 1 (fl (Mm.1 1) f 1)) (130 + 4 * i) 2 (fl (Mm.1 1) f 2)) (130 + 4 * i) 3 (fl (Mm.1 1) f 3)) (130 + 4 * i) 4 (fl (Mm.1 1) f 4)) (130 + 4 * i) 5 (fl (Mm.1 1) f 5)) (130 + 4 * i) 6 (fl (Mm.1 1) f 6)).1 (130 + 4 * i) 3 = fl (Mm.1 1) f 3 := by
        simp only [ctI_1]
        rw [va_up_ne' (by decide), va_up_ne' (by decide), va_up_ne' (by decide), va_up_eq']
      rw [e0, e3, ctI_ne (by decide), ctI_1, va_up_eq', ctI_1, va_up_eq']
      exact ⟨rfl, rfl⟩
    · intro z
      rw [ctI_ne (by decide), ctI_ne (by decide), ctI_1, va_up_eq'] at z
      exact absurd z (by decide)
    · intro z
      rw [ctI_ne (by decide), ctI_ne (by decide), ctI_1, va_up_eq'] at z
      exact absurd z (by decide)
theorem lay_num {i : Nat} {t k : Int32} (h : Sim Mc Mm) (hi5 : i < 5) (ht : t = 0 ∨ t = 3) : ∃ M2 M3, fX6_lay_b76 0 (nI i) t k Mc = some (Mm.1 7 i, M2) ∧ fX7_lay_b74 0 (nI i) t k Mm = some (Mm.1 7 i, M3) ∧ Sim M2 M3 := by
  obtain ⟨pc, pm, _, ag, _⟩ := id h
  obtain ⟨t0, _⟩ := h.sl i hi5
  have pm1 : PM (ctI Mm 7 i t) := pm
  have pm2 : PM (ctI (ctI Mm 7 i t) 8 i k) := pm
  have n1 : ¬ t = 1 := by rcases ht with rfl | rfl <;> decide
  have n2 : ¬ t = 2 := by rcases ht with rfl | rfl <;> decide
  refine ⟨ctI (ctI Mc (129 + 4 * i) 0 t) (129 + 4 * i) 3 k, ctI (ctI (ctI Mm 7 i t) 8 i k) 9 i 0, ?_, ?_, ?_⟩
  · simp only [fX6_lay_b76, o_slots pc, bS, sl_at pc hi5, sl_g hi5, t0, sl_p hi5, if_neg n1, if_neg n2]
  · simp only [fX7_lay_b74, fX7_lay_b109, fX7_lay_b129, gM7 pm, bS, mt7 hi5, mw7 hi5, gM8 pm1, if_neg n1, if_neg n2, mw8 hi5, gM9 pm2, mw9 hi5]
  · refine h.slnew hi5 rfl rfl (fun b hb => ?_) (fun b hb => ?_) (fun b q h1 h2 h3 => ?_) (fun q _ => ?_) ⟨?_, ?_, ?_, ?_, ?_⟩
    · rw [ctI_ne (by omega), ctI_ne (by omega)]
    · rw [ctI_ne (by omega), ctI_ne (by omega), ctI_ne (by omega)]
    · rcases (by omega : b = 7 ∨ b = 8 ∨ b = 9 ∨ b = 10) with rfl | rfl | rfl | rfl
      · rw [ctI_ne (by decide), ctI_ne (by decide), ctI_1, va_up_ne' h3]
      · rw [ctI_ne (by decide), ctI_1, va_up_ne' h3, ctI_ne (by decide)]
      · rw [ctI_1, va_up_ne' h3, ctI_ne (by decide), ctI_ne (by decide)]
      · rw [ctI_ne (by decide), ctI_ne (by decide), ctI_ne (by decide)]
    · rw [ctI_ne (by decide), ctI_ne (by decide), ctI_ne (by decide)]
    · rw [ctI_1, va_up_ne' (by decide), ctI_1, va_up_eq', ctI_ne (by decide), ctI_ne (by decide), ctI_1, va_up_eq']
    · rw [ctI_ne (by decide), ctI_ne (by decide), ctI_1, va_up_eq']
      rcases ht with rfl | rfl
      · exact ⟨0, by omega, by omega, rfl⟩
      · exact ⟨3, by omega, by omega, rfl⟩
    · intro z
      rw [ctI_ne (by decide), ctI_ne (by decide), ctI_1, va_up_eq'] at z
      exact absurd z n1
    · intro z
      rw [ctI_ne (by decide), ctI_ne (by decide), ctI_1, va_up_eq'] at z
      exact absurd z n2
    · intro _
      rw [ctI_1, va_up_eq', ctI_ne (by decide), ctI_1, va_up_eq']
theorem lay_row {i k : Nat} (h : Sim Mc Mm) (hi5 : i < 5) (hk : k < 4) : ∃ M2 M3, fX6_lay_b76 0 (nI i) 2 (nI k) Mc = some (Mm.1 7 i, M2) ∧ fX7_lay_b74 0 (nI i) 2 (nI k) Mm = some (Mm.1 7 i, M3) ∧ Sim M2 M3 := by
  obtain ⟨pc, pm, _, ag, _⟩ := id h
  obtain ⟨t0, _⟩ := h.sl i hi5
  obtain ⟨a1, a2, a3, a4, a5⟩ := h.sh k hk
  have n1 : ¬ (2 : Int32) = 1 := by decide
  have pc1 : PC (ctI Mc (129 + 4 * i) 0 2) := pc
  have pc3 : PC (ctI (ctI (ctI Mc (129 + 4 * i) 0 2) (131 + 4 * i) 0 (Mm.1 4 k)) (131 + 4 * i) 1 (Mm.1 5 k)) := pc
  have pm1 : PM (ctI Mm 7 i 2) := pm
  have pm2 : PM (ctI (ctI Mm 7 i 2) 8 i (nI k)) := pm
  have pm3 : PM (ctI (ctI (ctI Mm 7 i 2) 8 i (nI k)) 9 i 0) := pm
  have pm4 : PM (ctI (ctI (ctI (ctI Mm 7 i 2) 8 i (nI k)) 9 i 0) 10 i (Mm.1 5 k)) := pm
  obtain ⟨M2, w1, w2⟩ := c_rowLoop pc3 hi5 hk 24 0 4000 _ (by decide) (by decide) FlS.rf
  obtain ⟨M3, v1, v2⟩ := m_rowLoop (x5 := Mm.1 7 i) pm4 hi5 hk 24 0 4000 _ (by decide) (by decide) FlS.rf
  rw [nI_0] at w1 v1
  have k3 := (kC_slot_ i hi5).2.2.1
  have m5 : (ctI (ctI (ctI Mm 7 i 2) 8 i (nI k)) 9 i 0).1 5 = Mm.1 5 := by rw [ctI_ne (by decide), ctI_ne (by decide), ctI_ne (by decide)]
  refine ⟨M2, M3, ?_, ?_, ?_⟩
  · unfold fX6_lay_b76 fX3_become
    rw [o_slots pc, bS, sl_at pc hi5, bS, sl_g hi5, bS, t0, sl_p hi5, bS, if_neg n1, if_pos rfl, sl_r pc1 hi5, bS, o_sheets pc1, bS, sh_at pc1 hk, bS, sl_cR hi5, sh_g hk, bS, ctI_ne (show 121 + 2 * k ≠ 129 + 4 * i by omega), a1, pI_at k3, bS, sh_g hk, bS, ctI_ne (show 121 + 2 * k ≠ 131 + 4 * i by omega), ctI_ne (show 121 + 2 * k ≠ 129 + 4 * i by omega), a2, pI_at k3, bS, w1, bS]
  · unfold fX7_lay_b74 fX7_lay_b109 fX7_lay_b129
    rw [gM7 pm, bS, mt7 hi5, bS, bS, mw7 hi5, bS, gM8 pm1, bS, if_neg n1, mw8 hi5, bS, gM9 pm2, bS, if_neg n1, mw9 hi5, bS, if_pos rfl, gM10 pm3, bS, gM5 pm3, bS, mt5 hk, bS, m5, mw10 hi5, bS]
    exact v1
  · have cM : ∀ b, b ≠ 132 + 4 * i → b ≠ 131 + 4 * i → b ≠ 129 + 4 * i → M2.1 b = Mc.1 b := fun b h1 h2 h3 => by rw [w2.2.1 b h1, ctI_ne h2, ctI_ne h2, ctI_ne h3]
    have mM : ∀ b, b ≠ 11 → b ≠ 10 → b ≠ 9 → b ≠ 8 → b ≠ 7 → M3.1 b = Mm.1 b := fun b h1 h2 h3 h4 h5 => by rw [v2.2.1 b h1, ctI_ne h2, ctI_ne h3, ctI_ne h4, ctI_ne h5]
    have m7 : M3.1 7 = va_up (Mm.1 7) i 2 := by rw [v2.2.1 7 (by decide), ctI_ne (by decide), ctI_ne (by decide), ctI_ne (by decide), ctI_1]
    have m8 : M3.1 8 = va_up (Mm.1 8) i (nI k) := by rw [v2.2.1 8 (by decide), ctI_ne (by decide), ctI_ne (by decide), ctI_1, ctI_ne (by decide)]
    have m9 : M3.1 9 = va_up (Mm.1 9) i 0 := by rw [v2.2.1 9 (by decide), ctI_ne (by decide), ctI_1, ctI_ne (by decide), ctI_ne (by decide)]
    have m10 : M3.1 10 = va_up (Mm.1 10) i (Mm.1 5 k) := by rw [v2.2.1 10 (by decide), ctI_1, ctI_ne (by decide), ctI_ne (by decide), ctI_ne (by decide)]
    have n2 : ¬ (2 : Int32) = 3 := by decide
    refine h.slnew hi5 w2.1 v2.1 (fun b hb => cM b (by omega) (by omega) (by omega)) (fun b hb => mM b (by omega) (by omega) (by omega) (by omega) (by omega)) (fun b q h1 h2 h3 => ?_) (fun q hq => ?_) ⟨?_, ?_, ?_, ?_, ?_⟩
    · rcases (by omega : b = 7 ∨ b = 8 ∨ b = 9 ∨ b = 10) with rfl | rfl | rfl | rfl
      · rw [m7, va_up_ne' h3]
      · rw [m8, va_up_ne' h3]
      · rw [m9, va_up_ne' h3]
      · rw [m10, va_up_ne' h3]
    · rw [v2.2.2.2 q hq, ctI_ne (by decide), ctI_ne (by decide), ctI_ne (by decide), ctI_ne (by decide)]
    · rw [w2.2.1 _ (by omega), ctI_ne (by omega), ctI_ne (by omega), ctI_1, va_up_eq', m7, va_up_eq']
    · rw [m7, va_up_eq']; exact ⟨2, by omega, by omega, rfl⟩
    · intro z
      rw [m7, va_up_eq'] at z
      exact absurd z n1
    · intro _
      rw [w2.2.1 _ (by omega), ctI_1, va_up_eq', m10, va_up_eq']
      refine ⟨rfl, a4, fun q hq => ?_⟩
      have e1 := w2.2.2.1 q hq
      have e2 := v2.2.2.1 q hq
      rw [Nat.zero_add] at e1
      rw [e1, e2, ctI_ne (show 122 + 2 * k ≠ 131 + 4 * i by omega), ctI_ne (show 122 + 2 * k ≠ 131 + 4 * i by omega), ctI_ne (show 122 + 2 * k ≠ 129 + 4 * i by omega), ctI_ne (by decide), ctI_ne (by decide), ctI_ne (by decide), ctI_ne (by decide)]
      exact a5 q hq
    · intro z
      rw [m7, va_up_eq'] at z
      exact absurd z n2
end
