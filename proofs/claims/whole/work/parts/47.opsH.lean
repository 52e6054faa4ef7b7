/-- a stretch of a cell became f -/
def FlS (M : ctM) (b base m : Nat) (f : Nat → Int32) (M' : ctM) : Prop := M'.2 = M.2 ∧ (∀ c, c ≠ b → M'.1 c = M.1 c) ∧ (∀ j, j < m → M'.1 b (base + j) = f j) ∧ ∀ q, q < base ∨ base + m ≤ q → M'.1 b q = M.1 b q
section
variable {M M1 : ctM} {b base m : Nat} {f : Nat → Int32}
theorem FlS.rf : FlS M b base 0 f M := ⟨rfl, fun _ _ => rfl, fun j hj => by omega, fun _ _ => rfl⟩
theorem FlS.step (h : FlS M b base m f M1) {v : Int32} (hv : v = f m) : FlS M b base (m + 1) f (ctI M1 b (base + m) v) := by
  obtain ⟨h1, h2, h3, h4⟩ := h
  refine ⟨h1, fun c hc => (ctI_ne hc).trans (h2 c hc), fun j hj => ?_, fun q hq => ?_⟩
  · rw [ctI_1]
    by_cases e : j = m
    · subst e; rw [va_up_eq', hv]
    · rw [va_up_ne' (by omega)]; exact h3 j (by omega)
  · rw [ctI_1, va_up_ne' (by omega)]; exact h4 q (by omega)
theorem FlS.pc (h : FlS M b base m f M1) (p : PC M) : PC M1 := p.of2 h.1
theorem FlS.pm (h : FlS M b base m f M1) (p : PM M) : PM M1 := fun k hk => by rw [h.1]; exact p k hk
end
section
variable {Mc Mm : ctM} {n : Nat}
theorem i_24le {j : Nat} (hj : j < 24) : ¬ (24 : Int32) ≤ nI j := nI_ge (b := 24) hj (by decide)
theorem c_fill {i : Nat} (pc : PC Mc) (hi : i < 4) : ∀ (d j N : Nat) (M1 : ctM), j + d = 24 → d < N → FlS Mc (122 + 2 * i) 0 j (fun _ => 0) M1 → ∃ M2, fX3_begin_h12 N (121 + 2 * i) (nI j) M1 = some M2 ∧ FlS Mc (122 + 2 * i) 0 24 (fun _ => 0) M2 := by
  intro d
  induction d with
  | zero =>
    intro j N M1 hj hN h
    obtain ⟨N, rfl⟩ : ∃ k, N = k + 1 := ⟨N - 1, by omega⟩
    have : j = 24 := by omega
    subst this
    exact ⟨M1, by rw [fX3_begin_h12, if_pos (by decide)], h⟩
  | succ d ih =>
    intro j N M1 hj hN h
    obtain ⟨N, rfl⟩ : ∃ k, N = k + 1 := ⟨N - 1, by omega⟩
    have h2 := h.step (v := 0) rfl
    rw [Nat.zero_add] at h2
    obtain ⟨M2, w1, w2⟩ := ih (j + 1) N _ (by omega) (by omega) h2
    refine ⟨M2, ?_, w2⟩
    rw [fX3_begin_h12, if_neg (i_24le (by omega)), sh_pl (h.pc pc) hi, bS, sh_w hi (by omega), bS, nI_1]
    exact w1
theorem m_fill {i : Nat} (pm : PM Mm) (hi : i < 4) : ∀ (d j N : Nat) (M1 : ctM), j + d = 24 → d < N → FlS Mm 6 (24 * i) j (fun _ => 0) M1 → ∃ M2, fX7_sheet_h69 N 0 (nI i) (nI j) M1 = some (Mm.1 5 i, M2) ∧ FlS Mm 6 (24 * i) 24 (fun _ => 0) M2 := by
  intro d
  induction d with
  | zero =>
    intro j N M1 hj hN h
    obtain ⟨N, rfl⟩ : ∃ k, N = k + 1 := ⟨N - 1, by omega⟩
    have : j = 24 := by omega
    subst this
    refine ⟨M1, ?_, h⟩
    rw [fX7_sheet_h69, if_pos (by decide), gM5 (h.pm pm), bS, mt5 hi, bS, h.2.1 5 (by decide)]
  | succ d ih =>
    intro j N M1 hj hN h
    obtain ⟨N, rfl⟩ : ∃ k, N = k + 1 := ⟨N - 1, by omega⟩
    obtain ⟨M2, w1, w2⟩ := ih (j + 1) N _ (by omega) (by omega) (h.step (v := 0) rfl)
    refine ⟨M2, ?_, w2⟩
    rw [fX7_sheet_h69, if_neg (i_24le (by omega)), gM6 (h.pm pm), bS, i_24, mw6 (show 24 * i + j < 96 by omega), bS, nI_1]
    exact w1
theorem Sim.shnew {i l : Nat} {s : Int32} {M2 M3 : ctM} (h : Sim Mc Mm) (hi : i < 4) (hs : s = -1 ∨ s = 0 ∨ s = 1) (hl : l ≤ 24) (w : FlS (ctI (ctI Mc (121 + 2 * i) 0 s) (121 + 2 * i) 1 (nI l)) (122 + 2 * i) 0 24 (fun _ => 0) M2) (v : FlS (ctI (ctI Mm 4 i s) 5 i (nI l)) 6 (24 * i) 24 (fun _ => 0) M3) : Sim M2 M3 := by
  have c : ∀ b, b ≠ 121 + 2 * i → b ≠ 122 + 2 * i → M2.1 b = Mc.1 b := fun b h1 h2 => by rw [w.2.1 b h2, ctI_ne h1, ctI_ne h1]
  have m : ∀ b, b ≠ 4 → b ≠ 5 → b ≠ 6 → M3.1 b = Mm.1 b := fun b h1 h2 h3 => by rw [v.2.1 b h3, ctI_ne h2, ctI_ne h1]
  refine h.side w.1 v.1 (fun b _ _ => c b (by omega) (by omega)) (by rw [c 0 (by omega) (by omega)]) (m 1 (by decide) (by decide) (by decide)) (m 2 (by decide) (by decide) (by decide)) (by rw [m 0 (by decide) (by decide) (by decide)]) (fun i2 hi2 => ?_) (h.sl.congr (fun b _ _ => c b (by omega) (by omega)) (fun b _ _ => m b (by omega) (by omega) (by omega))) (h.tp.congr (by rw [c 4 (by omega) (by omega)]) (c 5 (by omega) (by omega)) (by rw [m 0 (by decide) (by decide) (by decide)]) (m 15 (by decide) (by decide) (by decide))) (h.wt.congr (by rw [c 0 (by omega) (by omega)]) (c 3 (by omega) (by omega)) (by rw [m 0 (by decide) (by decide) (by decide)]) (m 19 (by decide) (by decide) (by decide)))
  have m4 : M3.1 4 = va_up (Mm.1 4) i s := by rw [v.2.1 4 (by decide), ctI_ne (by decide), ctI_1]
  have m5 : M3.1 5 = va_up (Mm.1 5) i (nI l) := by rw [v.2.1 5 (by decide), ctI_1, ctI_ne (by decide)]
  obtain ⟨a1, a2, a3, a4, a5⟩ := h.sh i2 hi2
  by_cases e : i2 = i
  · subst e
    have c1 : M2.1 (121 + 2 * i2) = va_up (va_up (Mc.1 (121 + 2 * i2)) 0 s) 1 (nI l) := by rw [w.2.1 _ (by omega), ctI_1, ctI_1]
    rw [c1, m4, m5, va_up_eq', va_up_eq', va_up_eq', va_up_ne' (by decide), va_up_eq']
    refine ⟨rfl, rfl, hs, ⟨l, by omega, by omega, rfl⟩, fun k hk => ?_⟩
    have := w.2.2.1 k hk
    rw [Nat.zero_add] at this
    rw [this, v.2.2.1 k hk]
  · rw [c (121 + 2 * i2) (by omega) (by omega), m4, m5, va_up_ne' e, va_up_ne' e]
    refine ⟨a1, a2, a3, a4, fun k hk => ?_⟩
    rw [c (122 + 2 * i2) (by omega) (by omega), v.2.2.2 _ (by omega), ctI_ne (by decide), ctI_ne (by decide)]
    exact a5 k hk
theorem op_sheet : opS3 Sim fX6_sheet fX7_sheet := by
  intro Mc Mm h x s l
  obtain ⟨pc, pm, _⟩ := id h
  by_cases h1 : 0 ≤ x ∧ x ≤ 3
  · by_cases h2 : -1 ≤ s ∧ s ≤ 1
    · obtain ⟨i, _, hi4', rfl⟩ := rg_in (hi := 3) nI_0.symm rfl (by decide) (by decide) h1
      have hi4 : i < 4 := by omega
      have hs : s = -1 ∨ s = 0 ∨ s = 1 := by
        obtain ⟨q1, q2⟩ := h2
        rw [Int32.le_iff_toInt_le, show (-1 : Int32).toInt = -1 from by decide] at q1
        rw [Int32.le_iff_toInt_le, show (1 : Int32).toInt = 1 from by decide] at q2
        rcases (by omega : s.toInt = -1 ∨ s.toInt = 0 ∨ s.toInt = 1) with e | e | e
        · exact Or.inl (Int32.toInt_inj.mp e)
        · exact Or.inr (Or.inl (Int32.toInt_inj.mp e))
        · exact Or.inr (Or.inr (Int32.toInt_inj.mp e))
      have sn := sort_neg hs
      -- the good way on both sides
      have good : ∀ m, m ≤ 24 → ∃ M2 M3, fX6_sheet_b29 0 (nI i) s (nI m) Mc = some (nI m, M2) ∧ (∀ w, (if 0 ≤ s then w = nI m else m = 0) → fX7_sheet_b44 0 (nI i) s w Mm = some (nI m, M3)) ∧ Sim M2 M3 := by
        intro m hm
        have pc2 : PC (ctI (ctI Mc (121 + 2 * i) 0 s) (121 + 2 * i) 1 (nI m)) := pc
        have pm1 : PM (ctI Mm 4 i s) := pm
        have pm2 : PM (ctI (ctI Mm 4 i s) 5 i (nI m)) := pm
        obtain ⟨M2, w1, w2⟩ := c_fill pc2 hi4 24 0 4000 _ (by decide) (by decide) FlS.rf
        obtain ⟨M3, v1, v2⟩ := m_fill pm2 hi4 24 0 4000 _ (by decide) (by decide) FlS.rf
        rw [nI_0] at w1 v1
        rw [ctI_1, va_up_eq'] at v1
        refine ⟨M2, M3, ?_, fun w hw => ?_, h.shnew hi4 hs hm w2 v2⟩
        · unfold fX6_sheet_b29 fX3_begin
          rw [if_pos (show nI m ≤ 24 from nI_le (b := 24) hm (by decide)), if_pos (show (0 : Int32) ≤ nI m from nI_pos' (by omega)), o_sheets pc, bS, sh_at pc hi4, bS, sh_cV hi4, sh_p hi4, bS, sh_p hi4, bS, w1, bS]
        · unfold fX7_sheet_b44 fX7_sheet_b65
          rw [gM4 pm, bS, mw4 hi4, bS, gM5 pm1, bS]
          by_cases h0 : 0 ≤ s
          · rw [if_pos h0] at hw ⊢
            rw [hw, mw5 hi4, bS, v1]
          · rw [if_neg h0] at hw ⊢
            subst hw
            rw [nI_0] at v1 ⊢
            rw [mw5 hi4, bS, v1]
      by_cases em : s = -1
      · have h0 : ¬ (0 : Int32) ≤ s := fun z => sn.1.mp z em
        have hl0 : s < 0 := sn.2.mpr em
        obtain ⟨M2, M3, g1, g2, g3⟩ := good 0 (by decide)
        have g2' := g2 l (by rw [if_neg h0])
        rw [nI_0] at g1 g2'
        refine ⟨0, M2, M3, ?_, ?_, g3⟩
        · unfold fX6_sheet
          rw [c_isSheet, bS, if_pos h1, if_neg i_10, c_within, bS, if_pos h2, if_neg i_10, if_pos em]
          exact g1
        · unfold fX7_sheet fX7_sheet_b32
          rw [m_isSheet, bS, if_pos h1, if_neg i_10, m_isInL s (-1) 1 (-1) 1 (by decide) (by decide), bS, if_pos h2, if_neg i_10, if_pos hl0, if_pos hl0]
          exact g2'
      · have h0 : (0 : Int32) ≤ s := sn.1.mpr em
        have hl0 : ¬ s < 0 := fun z => em (sn.2.mp z)
        by_cases h24 : l ≤ 24
        · by_cases hl : 0 ≤ l
          · obtain ⟨m, _, hm, rfl⟩ := rg_in (a := 0) (b := 24) (lo := 0) (hi := 24) rfl rfl (by decide) (by decide) ⟨hl, h24⟩
            obtain ⟨M2, M3, g1, g2, g3⟩ := good m (by omega)
            have g2' := g2 (nI m) (by rw [if_pos h0])
            refine ⟨nI m, M2, M3, ?_, ?_, g3⟩
            · unfold fX6_sheet
              rw [c_isSheet, bS, if_pos h1, if_neg i_10, c_within, bS, if_pos h2, if_neg i_10, if_neg em]
              exact g1
            · unfold fX7_sheet fX7_sheet_b32
              rw [m_isSheet, bS, if_pos h1, if_neg i_10, m_isInL s (-1) 1 (-1) 1 (by decide) (by decide), bS, if_pos h2, if_neg i_10, if_neg hl0, if_pos h24, if_neg hl0, if_pos hl]
              exact g2'
          · refine ⟨-1000000014, Mc, Mm, ?_, ?_, h⟩
            · unfold fX6_sheet fX6_sheet_b29
              rw [c_isSheet, bS, if_pos h1, if_neg i_10, c_within, bS, if_pos h2, if_neg i_10, if_neg em, if_pos h24, if_neg hl]
            · unfold fX7_sheet fX7_sheet_b32
              rw [m_isSheet, bS, if_pos h1, if_neg i_10, m_isInL s (-1) 1 (-1) 1 (by decide) (by decide), bS, if_pos h2, if_neg i_10, if_neg hl0, if_pos h24, if_neg hl0, if_neg hl]
        · refine ⟨-1000000001, Mc, Mm, ?_, ?_, h⟩
          · unfold fX6_sheet fX6_sheet_b29
            rw [c_isSheet, bS, if_pos h1, if_neg i_10, c_within, bS, if_pos h2, if_neg i_10, if_neg em, if_neg h24]
          · unfold fX7_sheet
            rw [m_isSheet, bS, if_pos h1, if_neg i_10, m_isInL s (-1) 1 (-1) 1 (by decide) (by decide), bS, if_pos h2, if_neg i_10, if_neg hl0, if_neg h24]
    · refine ⟨-1000000001, Mc, Mm, ?_, ?_, h⟩
      · unfold fX6_sheet
        rw [c_isSheet, bS, if_pos h1, if_neg i_10, c_within, bS, if_neg h2, if_pos rfl]
      · unfold fX7_sheet
        rw [m_isSheet, bS, if_pos h1, if_neg i_10, m_isInL s (-1) 1 (-1) 1 (by decide) (by decide), bS, if_neg h2, if_pos rfl]
  · refine ⟨-1000000001, Mc, Mm, ?_, ?_, h⟩
    · unfold fX6_sheet
      rw [c_isSheet, bS, if_neg h1, if_pos rfl]
    · unfold fX7_sheet
      rw [m_isSheet, bS, if_neg h1, if_pos rfl]
theorem pour_sim {i len : Nat} (hi4 : i < 4) (hl : len ≤ 24) : ∀ (d j N N2 : Nat) (w : Int32) (Mc Mm : ctM), Sim Mc Mm → Inv (Mm.1 1) n → Mm.1 5 i = nI len → j + d = min n len → d < N → d < N2 → ∃ (v : Int32) (Mc2 Mm2 : ctM), fX6_pour_h32 N 0 (121 + 2 * i) w (nI j) Mc = some (v, Mc2) ∧ fX7_pour_h27 N2 0 (nI i) w (nI j) Mm = some (v, Mm2) ∧ Sim Mc2 Mm2 := by
  intro d
  induction d with
  | zero =>
    intro j N N2 w Mc Mm h hi e5 hj hN hN2
    obtain ⟨N, rfl⟩ : ∃ k, N = k + 1 := ⟨N - 1, by omega⟩
    obtain ⟨N2, rfl⟩ : ∃ k, N2 = k + 1 := ⟨N2 - 1, by omega⟩
    obtain ⟨pc, pm, _, ag, _⟩ := id h
    have hn := hi.1
    have k0 : rK Mc 82 0 = nI n := (ag 0 (by decide)).symm.trans hi.2.1
    have a2 := (h.sh i hi4).2.1
    refine ⟨w, Mc, Mm, ?_, ?_, h⟩
    · rw [fX6_pour_h32, o_now pc, bS, rm_i5 r82, k0, bS]
      by_cases c : n ≤ j
      · rw [if_pos (nI_le c (by omega))]
      · rw [if_neg (nI_ge (by omega) (by omega)), sh_cV hi4, c_hasA (kC_row_ i hi4).1, bS, a2, e5, if_neg (show ¬ (0 ≤ nI j ∧ nI j ≤ nI len - 1) from fun z => by have := (ix_lt (show len ≤ 120 by omega) (show j < 200 by omega)).mp z; omega), if_pos rfl]
    · rw [fX7_pour_h27, gM5 pm, bS, mt5 hi4, e5, bS]
      by_cases c : len ≤ j
      · rw [if_pos (nI_le c (by omega))]
      · rw [if_neg (nI_ge (by omega) (by omega)), gM0 pm, bS, m_s0, hi.2.1, bS, if_pos (nI_le (by omega) (by omega))]
  | succ d ih =>
    intro j N N2 w Mc Mm h hi e5 hj hN hN2
    obtain ⟨N, rfl⟩ : ∃ k, N = k + 1 := ⟨N - 1, by omega⟩
    obtain ⟨N2, rfl⟩ : ∃ k, N2 = k + 1 := ⟨N2 - 1, by omega⟩
    obtain ⟨pc, pm, _, ag, _⟩ := id h
    have hn := hi.1
    have k0 : rK Mc 82 0 = nI n := (ag 0 (by decide)).symm.trans hi.2.1
    obtain ⟨_, a2, _, _, a5⟩ := h.sh i hi4
    have hj8 : j < 8 := by omega
    have hj24 : j < 24 := by omega
    have q := (ix_lt (show len ≤ 120 by omega) (show j < 200 by omega)).mpr (show j < len by omega)
    have pre1 : fX6_pour_h32 (N + 1) 0 (121 + 2 * i) w (nI j) Mc = if ¬ (0 ≤ Mm.1 6 (24 * i + j) ∧ Mm.1 6 (24 * i + j) ≤ 119) then fX6_pour_h32 N 0 (121 + 2 * i) w (nI (j + 1)) Mc else if Mm.1 6 (24 * i + j) = fl (Mm.1 1) j 4 then fX6_pour_h32 N 0 (121 + 2 * i) w (nI (j + 1)) Mc else fX6_pour_h32 N 0 (121 + 2 * i) (w + 1) (nI (j + 1)) (ctI Mc (82 + 5 + j) 4 (Mm.1 6 (24 * i + j))) := by
      rw [fX6_pour_h32]
      simp only [fX6_pour_b106, o_now pc, bS, rm_i5 r82, k0, if_neg (nI_ge (show j < n by omega) (show n < 2 ^ 31 by omega)), sh_cV hi4, c_hasA (kC_row_ i hi4).1, a2, e5, if_pos q, if_neg i_10, sh_pl pc hi4, sh_r hi4 hj24, a5 j hj24, c_isPhase, b0, rm_f1 pc r82, rm_fl pc r82 hj8, fl_g r82 hj8 (show 4 < 7 by decide), ← ag.fl hj8 (show 4 < 7 by decide), fl_p r82 hj8, nI_1]
    have pre2 : fX7_pour_h27 (N2 + 1) 0 (nI i) w (nI j) Mm = if ¬ (0 ≤ Mm.1 6 (24 * i + j) ∧ Mm.1 6 (24 * i + j) ≤ 119) then fX7_pour_h27 N2 0 (nI i) w (nI (j + 1)) Mm else if fl (Mm.1 1) j 4 = Mm.1 6 (24 * i + j) then fX7_pour_h27 N2 0 (nI i) w (nI (j + 1)) (ctI Mm 1 (14 + 7 * j + 4) (Mm.1 6 (24 * i + j))) else fX7_pour_h27 N2 0 (nI i) (w + 1) (nI (j + 1)) (ctI Mm 1 (14 + 7 * j + 4) (Mm.1 6 (24 * i + j))) := by
      rw [fX7_pour_h27]
      have hm : ∀ v, fX7_becomes 0 (nI (14 + 7 * j) + 4) v Mm = some (fl (Mm.1 1) j 4, ctI Mm 1 (14 + 7 * j + 4) v) := fun v => by
        rw [show nI (14 + 7 * j) + 4 = nI (14 + 7 * j + 4) from nI_add _ 4]
        exact m_becomes pm (by omega) v
      simp only [fX7_pour_b103, fX7_pour_b101, gM5 pm, bS, mt5 hi4, e5, if_neg (nI_ge (show j < len by omega) (show len < 2 ^ 31 by omega)), gM0 pm, m_s0, hi.2.1, if_neg (nI_ge (show j < n by omega) (show n < 2 ^ 31 by omega)), gM6 pm, i_24, mt6 (show 24 * i + j < 96 by omega), m_isInL (Mm.1 6 (24 * i + j)) 0 119 0 119 (by decide) (by decide), b0, m_cV, m_flameAt, hm, nI_1, Int32.add_zero]
    rw [pre1, pre2]
    by_cases hp : 0 ≤ Mm.1 6 (24 * i + j) ∧ Mm.1 6 (24 * i + j) ≤ 119
    · have hpn : ¬ ¬ (0 ≤ Mm.1 6 (24 * i + j) ∧ Mm.1 6 (24 * i + j) ≤ 119) := fun z => z hp
      rw [if_neg hpn, if_neg hpn]
      have hv : rg (Mm.1 6 (24 * i + j)) 0 120 := rg_in (hi := 119) nI_0.symm rfl (by decide) (by decide) hp
      have i1 : Inv ((ctI Mm 1 (14 + 7 * j + 4) (Mm.1 6 (24 * i + j))).1 1) n := by
        rw [ctI_1]; exact hi.up_fl (show j < n by omega) (by decide) ⟨by omega, by omega, by omega, by omega, fun _ => hv, by omega⟩
      have e5' : (ctI Mm 1 (14 + 7 * j + 4) (Mm.1 6 (24 * i + j))).1 5 i = nI len := by rw [ctI_ne (by decide)]; exact e5
      by_cases ee : Mm.1 6 (24 * i + j) = fl (Mm.1 1) j 4
      · rw [if_pos ee, if_pos ee.symm]
        have s1 : Sim Mc (ctI Mm 1 (14 + 7 * j + 4) (Mm.1 6 (24 * i + j))) := by
          refine h.put TkC.rf (WkM.rf.put _ _) ?_ (hi.up_fl (show j < n by omega) (by decide) ⟨by omega, by omega, by omega, by omega, fun _ => hv, by omega⟩) (fun k hk => va_up_ne' (by omega)) (h.sy.up (by omega))
          rw [va_up_id (show Mm.1 1 (14 + 7 * j + 4) = Mm.1 6 (24 * i + j) from ee.symm)]
          exact ag
        exact ih (j + 1) N N2 w Mc _ s1 i1 e5' (by omega) (by omega) (by omega)
      · have ee' : ¬ fl (Mm.1 1) j 4 = Mm.1 6 (24 * i + j) := fun z => ee z.symm
        rw [if_neg ee, if_neg ee']
        exact ih (j + 1) N N2 (w + 1) _ _ (h.put1 hi (show j < n by omega) (by decide) ⟨by omega, by omega, by omega, by omega, fun _ => hv, by omega⟩) i1 e5' (by omega) (by omega) (by omega)
    · rw [if_pos hp, if_pos hp]
      exact ih (j + 1) N N2 w Mc Mm h hi e5 (by omega) (by omega) (by omega)
theorem op_pour : opS1 Sim fX6_pour fX7_pour := by
  intro Mc Mm h x
  obtain ⟨pc, pm, _, ag, ⟨n, hi⟩, _⟩ := id h
  have hn := hi.1
  by_cases h1 : 0 ≤ x ∧ x ≤ 3
  · obtain ⟨i, _, hi4', rfl⟩ := rg_in (hi := 3) nI_0.symm rfl (by decide) (by decide) h1
    have hi4 : i < 4 := by omega
    obtain ⟨a1, a2, a3, ⟨len, _, hl, a4⟩, a5⟩ := h.sh i hi4
    have sn := sort_neg a3
    by_cases em : Mm.1 4 i = -1
    · refine ⟨-1000000011, Mc, Mm, ?_, ?_, h⟩
      · unfold fX6_pour
        rw [c_isSheet, bS, if_pos h1, if_neg i_10, o_sheets pc, bS, sh_at pc hi4, bS, sh_cV hi4, c_missA (kC_row_ i hi4).1, bS, a1, if_pos em, if_neg i_10]
      · unfold fX7_pour
        rw [m_isSheet, bS, if_pos h1, if_neg i_10, gM4 pm, bS, mt4 hi4, bS, if_neg (show ¬ (0 : Int32) ≤ Mm.1 4 i from fun z => sn.1.mp z em)]
    · obtain ⟨v, Mc2, Mm2, b1, b2, b3⟩ := pour_sim (len := len) hi4 (by omega) (min n len) 0 4000 4000 0 Mc Mm h hi a4 (by omega) (by omega) (by omega)
      rw [nI_0] at b1 b2
      refine ⟨v, Mc2, Mm2, ?_, ?_, b3⟩
      · unfold fX6_pour
        rw [c_isSheet, bS, if_pos h1, if_neg i_10, o_sheets pc, bS, sh_at pc hi4, bS, sh_cV hi4, c_missA (kC_row_ i hi4).1, bS, a1, if_neg em, if_pos rfl]
        exact b1
      · unfold fX7_pour
        rw [m_isSheet, bS, if_pos h1, if_neg i_10, gM4 pm, bS, mt4 hi4, bS, if_pos (sn.1.mpr em)]
        exact b2
  · refine ⟨-1000000001, Mc, Mm, ?_, ?_, h⟩
    · unfold fX6_pour
      rw [c_isSheet, bS, if_neg h1, if_pos rfl]
    · unfold fX7_pour
      rw [m_isSheet, bS, if_neg h1, if_pos rfl]
end
