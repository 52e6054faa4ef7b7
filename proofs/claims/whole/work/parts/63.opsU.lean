/-! check -/
def itT (E : Ev) (n : Nat) (K : Kv) : Nat → Kv
  | 0 => K
  | k + 1 => tickS E (itT E n K k) n
def rwS (E : Ev) (n : Nat) (K : Kv) (i : Nat) : Int32 := if i % 2 = 0 then spS (itT E n K (i / 2 + 1)) n else fsumS E (itT E n K (i / 2)) n n
def fbS (W R : Nat → Int32) (w m : Nat) : Nat → Nat → Int32
  | 0, _ => 0
  | d + 1, i => if w ≤ i ∨ 2 * m ≤ i ∨ ¬ W i = R i then (if i = w ∧ i = 2 * m then 0 else nI (i + 1)) else fbS W R w m d (i + 1)
section
variable {Mc Mm Mc0 Mm0 : ctM} {n w m : Nat} {E : Ev} {K : Kv} {W R : Nat → Int32}
theorem nI_two (k : Nat) : (2 : Int32) * nI k = nI (2 * k) := (Int32.ofNat_mul 2 k).symm
theorem it_inv (hi : Inv K n) : ∀ k, Inv (itT E n K k) n := by
  intro k
  induction k with
  | zero => exact hi
  | succ k ih => exact tick_inv ih
theorem it_txt (hn : n ≤ 8) {j : Nat} (hj : j = 1 ∨ 70 ≤ j) : ∀ k, itT E n K k j = K j := by
  intro k
  induction k with
  | zero => rfl
  | succ k ih => exact (tick_txt hn hj).trans ih
theorem it_ev {nt : Nat} (hn : n ≤ 8) (h : EvM K nt E) (k : Nat) : EvM (itT E n K k) nt E := h.congr (fun j hj => it_txt hn hj k)
theorem rw_ev {k : Nat} : rwS E n K (2 * k) = spS (itT E n K (k + 1)) n := by unfold rwS; rw [if_pos (by omega), show 2 * k / 2 = k by omega]
theorem rw_od {k : Nat} : rwS E n K (2 * k + 1) = fsumS E (itT E n K k) n n := by unfold rwS; rw [if_neg (by omega), show (2 * k + 1) / 2 = k by omega]
theorem fb_end {d i : Nat} (h : w ≤ i ∨ 2 * m ≤ i ∨ ¬ W i = R i) (h2 : ¬ (i = w ∧ i = 2 * m)) : fbS W R w m (d + 1) i = nI (i + 1) := by rw [fbS, if_pos h, if_neg h2]
theorem fb_go {d i : Nat} (h1 : ¬ w ≤ i) (h2 : ¬ 2 * m ≤ i) (h3 : W i = R i) : fbS W R w m (d + 1) i = fbS W R w m d (i + 1) := by rw [fbS, if_neg (by rintro (z | z | z); exact h1 z; exact h2 z; exact z h3)]
theorem c_chk (hm : m ≤ 30) (hw : w ≤ 60) (hi : Inv K n) : ∀ (d k N : Nat) (Mc : ctM), k + d = m → d < N → PC Mc → EvC Mc 95 E → Ag (itT E n K k) (rK Mc 95) → (∀ i, i < w → Mc.1 3 i = W i) → ∃ Mc2, fX6_check_h46 N 0 (nI m) (nI w) (nI (2 * k)) Mc = some (fbS W (rwS E n K) w m (2 * d + 1) (2 * k), Mc2) ∧ Mc2.2 = Mc.2 ∧ ∀ b, ¬ isGv b → b < 95 ∨ 108 ≤ b → Mc2.1 b = Mc.1 b := by
  intro d
  induction d with
  | zero =>
    intro k N Mc hk hN pc ev ag hW
    obtain ⟨N, rfl⟩ : ∃ k, N = k + 1 := ⟨N - 1, by omega⟩
    have : k = m := by omega
    subst this
    refine ⟨Mc, ?_, rfl, fun _ _ _ => rfl⟩
    rw [fX6_check_h46, nI_two, if_pos (nI_le (Nat.le_refl _) (by omega)), fbS, if_pos (Or.inr (Or.inl (Nat.le_refl _)))]
    by_cases e : w = 2 * k
    · subst e
      rw [if_pos rfl, if_pos ⟨rfl, rfl⟩]
    · rw [if_neg (fun z => e ((nI_eq (by omega) (by omega)).mp z)), if_neg (fun z => e z.1.symm), nI_1]
  | succ d ih =>
    intro k N Mc hk hN pc ev ag hW
    obtain ⟨N, rfl⟩ : ∃ k, N = k + 1 := ⟨N - 1, by omega⟩
    have hik := it_inv (E := E) hi k
    have hn := hi.1
    obtain ⟨M2, w1, w2⟩ := c_goBy pc r95 (hik.ag ag) ev
    have pc2 := w2.pc pc
    have ag2 : Ag (itT E n K (k + 1)) (rK M2 95) := by rw [w2.2.1]; exact tickS_ag ag hn
    have fs : fsumS E (rK Mc 95) n n = rwS E n K (2 * k + 1) := by rw [rw_od]; exact (fsumS_ag ag hn n hn).symm
    have ar : fX2_arc 95 M2 = some (rwS E n K (2 * k), M2) := by rw [c_arc pc2 r95 ((it_inv hi (k + 1)).ag ag2), rw_ev, spS_ag ag2 hn]
    have h3 : M2.1 3 = Mc.1 3 := w2.2.2.2 3 (by decide) (by omega)
    have fr : M2.2 = Mc.2 ∧ ∀ b, ¬ isGv b → b < 95 ∨ 108 ≤ b → M2.1 b = Mc.1 b := ⟨w2.1, w2.2.2.2⟩
    have a3 : ∀ j, j < 60 → aI kdC lnC 9 3 (nI j) M2 = some (M2.1 3 j) := fun j hj => aI_at (n := 60) (by decide) (by decide) hj (by decide)
    have n2 : ¬ nI (2 * m) ≤ nI (2 * k) := nI_ge (by omega) (by omega)
    rw [show 2 * (d + 1) + 1 = 2 * d + 1 + 1 + 1 by omega]
    by_cases c1 : w ≤ 2 * k
    · refine ⟨M2, ?_, fr⟩
      rw [fX6_check_h46, nI_two, if_neg n2, o_tho pc, bS, rm_cV r95, w1, bS, if_pos (nI_le c1 (by omega)), fb_end (Or.inl c1) (by omega), fX6_check_b83, nI_1]
    have c1' : ¬ nI w ≤ nI (2 * k) := nI_ge (by omega) (by omega)
    by_cases c2 : W (2 * k) = rwS E n K (2 * k)
    · rw [fb_go c1 (by omega) c2]
      by_cases c3 : w ≤ 2 * k + 1
      · refine ⟨M2, ?_, fr⟩
        rw [fX6_check_h46, nI_two, if_neg n2, o_tho pc, bS, rm_cV r95, w1, bS, if_neg c1', o_wait pc2, bS, a3 _ (by omega), bS, o_tho pc2, bS, rm_cV r95, ar, bS, if_pos (show M2.1 3 (2 * k) = rwS E n K (2 * k) by rw [h3, hW _ (by omega)]; exact c2), nI_1, if_pos (nI_le c3 (by omega)), fb_end (Or.inl c3) (by omega), fX6_check_b107, show nI (2 * k) + 2 = nI (2 * k + 1 + 1) from nI_add (2 * k) 2]
      have c3' : ¬ nI w ≤ nI (2 * k + 1) := nI_ge (by omega) (by omega)
      by_cases c4 : W (2 * k + 1) = rwS E n K (2 * k + 1)
      · obtain ⟨Mc3, i1, i2, i3⟩ := ih (k + 1) N M2 (by omega) (by omega) pc2 (w2.ev r95 ev) ag2 (fun i h => by rw [h3]; exact hW i h)
        refine ⟨Mc3, ?_, i2.trans fr.1, fun b b1 b2 => (i3 b b1 b2).trans (fr.2 b b1 b2)⟩
        rw [fX6_check_h46, nI_two, if_neg n2, o_tho pc, bS, rm_cV r95, w1, bS, if_neg c1', o_wait pc2, bS, a3 _ (by omega), bS, o_tho pc2, bS, rm_cV r95, ar, bS, if_pos (show M2.1 3 (2 * k) = rwS E n K (2 * k) by rw [h3, hW _ (by omega)]; exact c2), nI_1, if_neg c3', o_wait pc2, bS, a3 _ (by omega), bS, if_pos (show M2.1 3 (2 * k + 1) = fsumS E (rK Mc 95) n n by rw [h3, hW _ (by omega), fs]; exact c4), show nI (2 * k) + 2 = nI (2 * (k + 1)) from nI_add (2 * k) 2, fb_go c3 (by omega) c4]
        exact i1
      · refine ⟨M2, ?_, fr⟩
        rw [fX6_check_h46, nI_two, if_neg n2, o_tho pc, bS, rm_cV r95, w1, bS, if_neg c1', o_wait pc2, bS, a3 _ (by omega), bS, o_tho pc2, bS, rm_cV r95, ar, bS, if_pos (show M2.1 3 (2 * k) = rwS E n K (2 * k) by rw [h3, hW _ (by omega)]; exact c2), nI_1, if_neg c3', o_wait pc2, bS, a3 _ (by omega), bS, if_neg (show ¬ M2.1 3 (2 * k + 1) = fsumS E (rK Mc 95) n n by rw [h3, hW _ (by omega), fs]; exact c4), fb_end (Or.inr (Or.inr c4)) (by omega), fX6_check_b107, show nI (2 * k) + 2 = nI (2 * k + 1 + 1) from nI_add (2 * k) 2]
    · refine ⟨M2, ?_, fr⟩
      rw [fX6_check_h46, nI_two, if_neg n2, o_tho pc, bS, rm_cV r95, w1, bS, if_neg c1', o_wait pc2, bS, a3 _ (by omega), bS, o_tho pc2, bS, rm_cV r95, ar, bS, if_neg (show ¬ M2.1 3 (2 * k) = rwS E n K (2 * k) by rw [h3, hW _ (by omega)]; exact c2), fb_end (Or.inr (Or.inr c2)) (by omega), fX6_check_b83, nI_1]
theorem m_chkEnd {i : Nat} (hm : m ≤ 30) (hw : w ≤ 60) (hi : i ≤ 2 * m) : fX7_check_b145 (nI m) (nI w) (nI i) Mm = some (if i = w ∧ i = 2 * m then 0 else nI (i + 1), Mm) := by
  unfold fX7_check_b145 fX7_check_b161
  rw [nI_two, show (1 : Int32) + nI i = nI (i + 1) by rw [show (1 : Int32) + nI i = nI (1 + i) from nI_add 1 i, Nat.add_comm]]
  by_cases c : i = w
  · rw [if_pos (by rw [c])]
    by_cases c2 : i = 2 * m
    · rw [if_pos (by rw [c2]), if_pos ⟨c, c2⟩]
    · rw [if_neg (fun z => c2 ((nI_eq (by omega) (by omega)).mp z)), if_neg (fun z => c2 z.2)]
  · rw [if_neg (fun z => c ((nI_eq (by omega) (by omega)).mp z)), if_neg (fun z => c z.1)]
theorem m_cmp (pm : PM Mm) (hm : m ≤ 30) (hw : w ≤ 60) (hW : ∀ i, i < w → Mm.1 19 i = W i) (hR : ∀ i, i < 2 * m → Mm.1 20 i = R i) : ∀ (d i N : Nat), i + d = 2 * m → d < N → fX7_check_h112 N 0 (nI m) (nI w) (nI i) Mm = some (fbS W R w m (d + 1) i, Mm) := by
  intro d
  induction d with
  | zero =>
    intro i N hi hN
    obtain ⟨N, rfl⟩ : ∃ k, N = k + 1 := ⟨N - 1, by omega⟩
    have : i = 2 * m := by omega
    rw [fX7_check_h112, fbS, if_pos (Or.inr (Or.inl (by omega))), nI_two]
    by_cases c : w ≤ i
    · rw [if_pos (nI_le c (by omega)), m_chkEnd hm hw (by omega)]
    · rw [if_neg (nI_ge (by omega) (by omega)), if_pos (nI_le (by omega) (by omega)), m_chkEnd hm hw (by omega)]
  | succ d ih =>
    intro i N hi hN
    obtain ⟨N, rfl⟩ : ∃ k, N = k + 1 := ⟨N - 1, by omega⟩
    have a19 : i < 60 → aI kdM lnM 9 19 (nI i) Mm = some (Mm.1 19 i) := fun hj => aI_at (n := 60) rfl rfl hj (by decide)
    have a20 : i < 60 → aI kdM lnM 9 20 (nI i) Mm = some (Mm.1 20 i) := fun hj => aI_at (n := 60) rfl rfl hj (by decide)
    rw [fX7_check_h112, nI_two]
    by_cases c : w ≤ i
    · rw [if_pos (nI_le c (by omega)), m_chkEnd hm hw (by omega), fbS, if_pos (Or.inl c)]
    · rw [if_neg (nI_ge (by omega) (by omega)), if_neg (nI_ge (by omega) (by omega)), gM32 pm, bS, a19 (by omega), bS, gM34 pm, bS, a20 (by omega), bS, hW i (by omega), hR i (by omega)]
      by_cases c2 : W i = R i
      · rw [if_pos c2, nI_1, ih (i + 1) N (by omega) (by omega), fb_go (d := d + 1) c (by omega) c2]
      · rw [if_neg c2, m_chkEnd hm hw (by omega), fbS, if_pos (Or.inr (Or.inr c2))]
theorem m_chk {nt : Nat} (pm0 : PM Mm0) (hm : m ≤ 30) (hw : w ≤ 60) (hi : Inv K n) (he : EvM K nt E) (hK : ∀ j, 2870 ≤ j → K j = Mm0.1 1 j) (hW : ∀ i, i < w → Mm0.1 19 i = W i) : ∀ (d k N : Nat) (Mm : ctM), k + d = m → d < N → WkM Mm0 (itT E n K k) Mm → (∀ j, j < 2870 → Mm.1 3 j = Mm0.1 1 j) → (∀ j, j < 2 * k → Mm.1 20 j = rwS E n K j) → ∃ Mm2, fX7_check_h61 N 0 (nI m) (nI w) (nI k) Mm = some (fbS W (rwS E n K) w m (2 * m + 1) 0, Mm2) ∧ WkM Mm0 (Mm0.1 1) Mm2 := by
  intro d
  induction d with
  | zero =>
    intro k N Mm hk hN wk h3 hR
    obtain ⟨N, rfl⟩ : ∃ k, N = k + 1 := ⟨N - 1, by omega⟩
    have : k = m := by omega
    subst this
    have pm := wk.pm pm0
    obtain ⟨M2, v1, v2⟩ := m_setAside (M := Mm) (a := 3) (b := 1) rfl rfl rfl rfl (by decide)
    have e1 : M2.1 1 = Mm0.1 1 := by
      funext j
      rcases Nat.lt_or_ge j 2870 with q | q
      · rw [v2.at0 q]; exact h3 j q
      · rw [v2.2.2.2 j (by omega), wk.2.1, it_txt hi.1 (by omega)]; exact hK j q
    have wk2 : WkM Mm0 (Mm0.1 1) M2 := ⟨v2.1.trans wk.1, e1, fun b a1 a2 a3 a4 a5 a6 a7 a8 a9 => (v2.2.1 b (by omega)).trans (wk.2.2.1 b a1 a2 a3 a4 a5 a6 a7 a8 a9), fun k a1 a2 => by rw [v2.2.1 0 (by decide)]; exact wk.2.2.2 k a1 a2⟩
    refine ⟨M2, ?_, wk2⟩
    have cm := m_cmp (W := W) (R := rwS E n K) (wk2.pm pm0) hm hw (fun i hi => by rw [wk2.2.2.1 19 (by decide) (by decide) (by decide) (by decide) (by decide) (by decide) (by decide) (by decide) (by decide)]; exact hW i hi) (fun i hi => by rw [v2.2.1 20 (by decide)]; exact hR i hi) (2 * k) 0 4000 (by omega) (by omega)
    rw [nI_0] at cm
    rw [fX7_check_h61, if_pos (nI_le (Nat.le_refl _) (by omega)), gM2 pm, bS, gM0 pm, bS, m_cV, v1, bS]
    exact cm
  | succ d ih =>
    intro k N Mm hk hN wk h3 hR
    obtain ⟨N, rfl⟩ : ∃ k, N = k + 1 := ⟨N - 1, by omega⟩
    have pm := wk.pm pm0
    have hik : Inv (Mm.1 1) n := by rw [wk.2.1]; exact it_inv hi k
    have hek : EvM (Mm.1 1) nt E := by rw [wk.2.1]; exact it_ev hi.1 he k
    obtain ⟨A, a1, a2⟩ := m_ticks pm hik hek
    have wa : WkM Mm0 (itT E n K (k + 1)) A := by have := wk.tk a2; rw [wk.2.1] at this; exact this
    have s20 : ∀ (M : ctM) (j : Nat) (v : Int32), j < 60 → sI kdM lnM 9 20 (nI j) v M = some (ctI M 20 j v) := fun M j v hj => sI_at (n := 60) rfl rfl hj (by decide)
    have hv1 : fsumS E (Mm.1 1) n n = rwS E n K (2 * k + 1) := by rw [rw_od, wk.2.1]
    have pmB : PM (ctI A 20 (2 * k + 1) (rwS E n K (2 * k + 1))) := wa.pm pm0
    have sB : (ctI A 20 (2 * k + 1) (rwS E n K (2 * k + 1))).1 1 = itT E n K (k + 1) := by rw [ctI_ne (by decide), wa.2.1]
    obtain ⟨C, c1, c2⟩ := m_spread (n := n) pmB (by rw [sB]; exact it_inv hi (k + 1))
    rw [sB, ← rw_ev] at c1
    have wb : WkM Mm0 (itT E n K (k + 1)) (ctI A 20 (2 * k + 1) (rwS E n K (2 * k + 1))) := ⟨wa.1, sB, fun b a1 a2 a3 a4 a5 a6 a7 a8 a9 => (ctI_ne a9).trans (wa.2.2.1 b a1 a2 a3 a4 a5 a6 a7 a8 a9), fun k a1 a2 => by rw [ctI_ne (by decide)]; exact wa.2.2.2 k a1 a2⟩
    have wc := wb.fd c2
    have wd : WkM Mm0 (itT E n K (k + 1)) (ctI C 20 (2 * k) (rwS E n K (2 * k))) := ⟨wc.1, by rw [ctI_ne (by decide)]; exact wc.2.1, fun b a1 a2 a3 a4 a5 a6 a7 a8 a9 => (ctI_ne a9).trans (wc.2.2.1 b a1 a2 a3 a4 a5 a6 a7 a8 a9), fun k a1 a2 => by rw [ctI_ne (by decide)]; exact wc.2.2.2 k a1 a2⟩
    obtain ⟨M2, i1, i2⟩ := ih (k + 1) N _ (by omega) (by omega) wd (fun j hj => by rw [ctI_ne (by decide), c2.2.1 3 (by decide) (by decide), ctI_ne (by decide), a2.2.2 3 (by decide) (by decide) (by decide) (by decide)]; exact h3 j hj) (fun j hj => by
      rw [ctI_1]
      by_cases q : j = 2 * k
      · rw [q, va_up_eq']
      · rw [va_up_ne' q, c2.2.1 20 (by decide) (by decide), ctI_1]
        by_cases q2 : j = 2 * k + 1
        · rw [q2, va_up_eq']
        · rw [va_up_ne' q2, a2.2.2 20 (by decide) (by decide) (by decide) (by decide)]
          exact hR j (by omega))
    refine ⟨M2, ?_, i2⟩
    rw [fX7_check_h61, if_neg (nI_ge (by omega) (by omega)), gM34 pm, bS, m_cV, a1, bS, nI_two, nI_1, s20 _ _ _ (by omega), bS, hv1, gM34 pmB, bS, m_cV, c1, bS, s20 _ _ _ (by omega), bS, nI_1]
    exact i1
theorem op_check : opS1 Sim fX6_check fX7_check := by
  intro Mc Mm h x
  obtain ⟨w, hw, c8, m33, hx⟩ := h.wt
  have h0 : Sim (ctI Mc 0 8 0) (ctI Mm 0 33 0) := by
    refine h.side rfl rfl (fun b h1 h2 => ctI_ne (by omega)) (by rw [ctI_1, va_up_ne' (by decide)]) (ctI_ne (by decide)) (ctI_ne (by decide)) (by rw [ctI_1, va_up_ne' (by decide)]) (h.sh.congr (fun b _ _ => ctI_ne (by omega)) (ctI_ne (by decide)) (ctI_ne (by decide)) (ctI_ne (by decide))) (h.sl.congr (fun b _ _ => ctI_ne (by omega)) (fun b _ _ => ctI_ne (by omega))) (h.tp.congr (by rw [ctI_ne (by decide)]) (ctI_ne (by decide)) (by rw [ctI_1, va_up_ne' (by decide)]) (ctI_ne (by decide))) ⟨0, by decide, by rw [ctI_1, va_up_eq', nI_0], by rw [ctI_1, va_up_eq', nI_0], fun i hi => by omega⟩
  have hx0 : ∀ i, i < w → (ctI Mc 0 8 0).1 3 i = (ctI Mm 0 33 0).1 19 i := fun i hi => by rw [ctI_ne (by decide), ctI_ne (by decide)]; exact hx i hi
  generalize hMc : ctI Mc 0 8 0 = Mc0 at h0 hx0
  generalize hMm : ctI Mm 0 33 0 = Mm0 at h0 hx0
  obtain ⟨pc, pm, lw, ag, ⟨n, hi⟩, ⟨nt, tx, ct, im⟩, sh, sl, tp, wt, sy⟩ := id h0
  by_cases h1 : 1 ≤ x ∧ x ≤ 30
  · obtain ⟨m, m1, m2, rfl⟩ := rg_in (lo := 1) (hi := 30) rfl rfl (by decide) (by decide) h1
    rcases im with ⟨e1, e2⟩ | ⟨e1, e2, agI, ⟨nI', hiI⟩, ni, n1, n2, ctI', txI⟩
    · refine ⟨-1000000002, Mc0, Mm0, ?_, ?_, h0⟩
      · unfold fX6_check
        rw [o_g, bS, o_p, bS, hMc, c_within, bS, if_pos h1, if_neg i_10, o_g, bS, e1, if_pos rfl]
      · unfold fX7_check
        rw [m_g0, bS, m_p0, bS, hMm, m_isInL (nI m) 1 30 1 30 (by decide) (by decide), bS, if_pos h1, if_neg i_10, m_g0, bS, e2, if_pos rfl]
    · obtain ⟨A, a1, a2⟩ := m_setAside (M := Mm0) (a := 1) (b := 3) rfl rfl rfl rfl (by decide)
      obtain ⟨B, b1, b2⟩ := m_setAside (M := A) (a := 2) (b := 1) rfl rfl rfl rfl (by decide)
      have pmA : PM A := a2.pm pm
      have pmB : PM B := b2.pm pmA
      have sI : ∀ j, j < 2870 → B.1 1 j = Mm0.1 2 j := fun j hj => by rw [b2.at0 hj, a2.2.1 2 (by decide)]
      have sO : ∀ j, 2870 ≤ j → B.1 1 j = Mm0.1 1 j := fun j hj => by rw [b2.2.2.2 j (by omega), a2.2.1 1 (by decide)]
      have s3 : ∀ j, j < 2870 → B.1 3 j = Mm0.1 1 j := fun j hj => by rw [b2.2.1 3 (by decide), a2.at0 hj]
      have ntl := tx.1
      have txB : TxS Mc0 (B.1 1) ni := by
        refine ⟨by omega, (sI 1 (by decide)).trans n2, fun t ht => ?_⟩
        obtain ⟨key, g, a, q1, q2, q3, q4, q5, q6, q7, q8⟩ := tx.2.2 t (by omega)
        have eq : ∀ j, 70 + 200 * t ≤ j → j < 270 + 200 * t → B.1 1 j = Mm0.1 1 j := fun j j1 j2 => (sI j (by omega)).trans (txI t ht j j1 j2)
        exact ⟨key, g, a, q1, (eq _ (by omega) (by omega)).trans q2, q3, q4, q5, q6.trans (eq _ (by omega) (by omega)).symm, q7, q8.congr eq⟩
      have ctB : CtS Mc0 108 (B.1 1) ni := ctI'.congr (fun _ _ => rfl) (fun t ht => sI _ (by omega))
      obtain ⟨E, em, ec⟩ := ev_of txB ctB
      have agB : Ag (B.1 1) (rK Mc0 108) := fun j hj => (sI j (by omega)).trans (agI j hj)
      have hiB : Inv (B.1 1) nI' := hiI.ag (fun j hj => (sI j (by omega)).symm)
      obtain ⟨C, c1, c2⟩ := c_become pc r95 r108 (by decide)
      have evC : EvC C 95 E := ec.room c2.1 (fun k hk => by rw [c2.2.2.1 k hk]) (fun b h1 h2 _ => by rw [c2.2.2.2 b (by omega)])
      have wkB : WkM Mm0 (B.1 1) B := ⟨b2.1.trans a2.1, rfl, fun b x1 x2 x3 x4 x5 x6 x7 x8 x9 => (b2.2.1 b (by omega)).trans (a2.2.1 b (by omega)), fun k x1 x2 => by rw [b2.2.1 0 (by decide), a2.2.1 0 (by decide)]⟩
      obtain ⟨D, d1, d2, d3⟩ := c_chk (W := fun i => Mm0.1 19 i) (w := w) (m := m) (E := E) (K := B.1 1) (by omega) hw hiB m 0 4000 C (by omega) (by omega) (c2.pc pc) evC (by show Ag (B.1 1) (rK C 95); rw [c2.2.1]; exact agB) (fun i hi => by rw [c2.2.2.2 3 (by omega)]; exact hx0 i hi)
      obtain ⟨F, f1, f2⟩ := m_chk (W := fun i => Mm0.1 19 i) (w := w) (m := m) (E := E) (K := B.1 1) pm (by omega) hw hiB em sO (fun _ _ => rfl) m 0 4000 B (by omega) (by omega) wkB s3 (fun j hj => by omega)
      rw [Nat.mul_zero, nI_0] at d1
      rw [nI_0] at f1
      refine ⟨fbS (fun i => Mm0.1 19 i) (rwS E nI' (B.1 1)) w m (2 * m + 1) 0, D, F, ?_, ?_, h0.think (d2.trans c2.1) (fun b x1 x2 => (d3 b x1 x2).trans (c2.2.2.2 b (by omega))) f2 (fun _ => rfl)⟩
      · unfold fX6_check
        rw [o_g, bS, c8, o_p, bS, hMc, c_within, bS, if_pos h1, if_neg i_10, o_g, bS, e1, if_neg i_10, o_tho pc, bS, o_ima pc, bS, rm_cV r95, c1, bS]
        exact d1
      · unfold fX7_check
        rw [m_g0, bS, m33, m_p0, bS, hMm, m_isInL (nI m) 1 30 1 30 (by decide) (by decide), bS, if_pos h1, if_neg i_10, m_g0, bS, e2, if_neg i_10, gM0 pm, bS, gM2 pm, bS, m_cV, a1, bS, gM1 pmA, bS, gM0 pmA, bS, m_cV, b1, bS]
        exact f1
  · refine ⟨-1000000001, Mc0, Mm0, ?_, ?_, h0⟩
    · unfold fX6_check
      rw [o_g, bS, o_p, bS, hMc, c_within, bS, if_neg h1, if_pos rfl]
    · unfold fX7_check
      rw [m_g0, bS, m_p0, bS, hMm, m_isInL x 1 30 1 30 (by decide) (by decide), bS, if_neg h1, if_pos rfl]
end
