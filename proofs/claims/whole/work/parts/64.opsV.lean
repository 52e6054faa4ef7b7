/-! quiet -/
def qaS (s : Int32) : Int32 := if 0 ≤ s then s else 120
def qx (a i : Nat) : Int32 := nI (a + i) - 3
theorem qx_lt : ∀ a, a < 30 → ∀ i, i ≤ 7 → (nI a + 3 < qx a i ↔ i = 7) := by decide +kernel
theorem qx_in : ∀ a, a < 30 → ∀ i, i ≤ 7 → ((0 ≤ qx a i ∧ qx a i ≤ 29) ↔ (3 ≤ a + i ∧ a + i ≤ 32)) := by decide +kernel
theorem qx_eq : ∀ a, a < 30 → ∀ i, i ≤ 7 → 3 ≤ a + i → qx a i = nI (a + i - 3) := by decide +kernel
theorem qx_1 : ∀ a, a < 30 → ∀ i, i ≤ 7 → qx a i + 1 = qx a (i + 1) := by decide +kernel
theorem qp_nn : ∀ p, p < 30 → ∀ q, q < 30 → ¬ (100 : Int32) * nI p + nI q < 0 := by decide +kernel
/-- nothing yet, and something -/
def Q0 (le pl be : Int32) : Prop := le = 121 ∧ pl = -1000000005 ∧ be = -1
def Q1 (le pl be lo to : Int32) : Prop := ∃ a, a ≤ 120 ∧ le = nI a ∧ lo = nI a ∧ pl = be ∧ ¬ be < 0 ∧ ((a < 120 ∧ to = nI a) ∨ (a = 120 ∧ to = -1))
section
variable {Mc Mm Mc0 Mm0 : ctM} {n : Nat} {E : Ev}
theorem sn_cases {K : Kv} (hi : Inv K n) : (∃ a, a < 120 ∧ snS K n = nI a ∧ spS K n = nI a) ∨ (snS K n = -1 ∧ spS K n = -1000000005) := by
  unfold snS spS
  by_cases h : anS K n = true
  · rw [if_pos h, if_pos h]
    have := (grS_pos (fun f hf => (hi.2.2.1 f hf).2.2.2.2.1)).mp h
    exact Or.inl ⟨_, by omega, rfl, rfl⟩
  · rw [if_neg h, if_neg h]
    exact Or.inr ⟨rfl, rfl⟩
theorem many10 (s : Sim Mc0 Mm0) : ∀ (d j N N2 : Nat) (Mc Mm : ctM), Th Mc0 Mm0 n E Mc Mm → j + d = 10 → d < N → d < N2 → ∃ Mc2 Mm2, Th Mc0 Mm0 n E Mc2 Mm2 ∧ fX7_ticksMany_h2 N 0 10 (nI j) Mm = some Mm2 ∧ fX6_arcFrom_h40 N2 0 (nI j) Mc = some (qaS (snS (Mm2.1 1) n), Mc2) := by
  intro d
  induction d with
  | zero =>
    intro j N N2 Mc Mm h hj hN hN2
    obtain ⟨N, rfl⟩ : ∃ k, N = k + 1 := ⟨N - 1, by omega⟩
    obtain ⟨N2, rfl⟩ : ∃ k, N2 = k + 1 := ⟨N2 - 1, by omega⟩
    have : j = 10 := by omega
    subst this
    refine ⟨Mc, Mm, h, by rw [fX7_ticksMany_h2, if_pos (by decide)], ?_⟩
    rw [fX6_arcFrom_h40, if_pos (by decide), o_tho (h.pc s.1), bS, rm_cV r95, (th_sn s h).1, bS]
    rcases sn_cases h.2.2.2 with ⟨a, a1, a2, a3⟩ | ⟨a2, a3⟩
    · rw [a2, a3]
      unfold qaS
      rw [if_pos (nI_pos' (by omega)), if_neg (fun z : nI a = -1000000005 => nI_pos (n := a) (by omega) (by rw [z]; decide))]
    · rw [a2, a3, if_pos rfl]
      unfold qaS
      rw [if_neg (by decide)]
  | succ d ih =>
    intro j N N2 Mc Mm h hj hN hN2
    obtain ⟨N, rfl⟩ : ∃ k, N = k + 1 := ⟨N - 1, by omega⟩
    obtain ⟨N2, rfl⟩ : ∃ k, N2 = k + 1 := ⟨N2 - 1, by omega⟩
    obtain ⟨u, Mc1, Mm1, t1, t2, t3⟩ := th_tick s h
    obtain ⟨Mc2, Mm2, a1, a2, a3⟩ := ih (j + 1) N N2 Mc1 Mm1 t3 (by omega) (by omega) (by omega)
    refine ⟨Mc2, Mm2, a1, ?_, ?_⟩
    · rw [fX7_ticksMany_h2, if_neg (show ¬ (10 : Int32) ≤ nI j from nI_ge (b := 10) (by omega) (by decide)), m_cV, t2, bS, nI_1]
      exact a2
    · rw [fX6_arcFrom_h40, if_neg (show ¬ (10 : Int32) ≤ nI j from nI_ge (b := 10) (by omega) (by decide)), o_tho (h.pc s.1), bS, rm_cV r95, t1, bS, nI_1]
      exact a3
/-- the arc from another place, on both sides -/
theorem q_arc (s : Sim Mc0 Mm0) (hi : Inv (Mm0.1 1) n) {nt : Nat} (e1 : EvM (Mm0.1 1) nt E) (e2 : EvC Mc0 82 E) {f p q : Nat} (hf : f < n) (hp : p < 30) (hq : q < 30) (h : Rs Mc0 Mm0 Mc Mm) : ∃ (v : Int32) (Mc2 A B Mm2 : ctM), fX6_arcFrom 0 (nI f) (nI p) (nI q) Mc = some (qaS v, Mc2) ∧ fX7_ticksMany 0 10 (ctI (ctI Mm 1 (14 + 7 * f + 1) (nI p)) 1 (14 + 7 * f + 2) (nI q)) = some A ∧ fX7_spreadNow 0 A = some (v, B) ∧ fX7_laysBack 0 B = some Mm2 ∧ Rs Mc0 Mm0 Mc2 Mm2 ∧ ((∃ a, a < 120 ∧ v = nI a) ∨ v = -1) := by
  have hn := hi.1
  have hf8 : f < 8 := by omega
  have pc := h.pc s
  obtain ⟨Mc1, a1, t⟩ := rs_th s hi e1 e2 h
  have t1 := th_put (v := nI p) t hf (show 1 < 7 by decide) ⟨by omega, fun _ => ⟨p, by omega, by omega, rfl⟩, by omega, by omega, by omega, by omega⟩
  have t2 := th_put (v := nI q) t1 hf (show 2 < 7 by decide) ⟨by omega, by omega, fun _ => ⟨q, by omega, by omega, rfl⟩, by omega, by omega, by omega⟩
  obtain ⟨Mc3, Mm3, b1, b2, b3⟩ := many10 s 10 0 4000 4000 _ _ t2 (by decide) (by decide) (by decide)
  rw [nI_0] at b2 b3
  obtain ⟨_, Mm4, c1, c2, c3⟩ := th_sn s b1
  obtain ⟨Mm5, d1, d2⟩ := th_rs s c3
  have q1 := t.pc s.1
  have q2 := t1.pc s.1
  refine ⟨snS (Mm3.1 1) n, Mc3, Mm3, Mm4, Mm5, ?_, b2, c1, d1, d2, ?_⟩
  · unfold fX6_arcFrom
    rw [o_tho pc, bS, o_now pc, bS, rm_cV r95, a1, bS, o_tho q1, bS, rm_f1 q1 r95, bS, rm_fl q1 r95 hf8, bS, fl_p r95 hf8, bS, o_tho q2, bS, rm_f1 q2 r95, bS, rm_fl q2 r95 hf8, bS, fl_p r95 hf8, bS]
    exact b3
  · rcases sn_cases b1.2.2.2 with ⟨a, x1, x2, _⟩ | ⟨x2, _⟩
    · exact Or.inl ⟨a, x1, x2⟩
    · exact Or.inr x2
/-- one place -/
theorem q_step (s : Sim Mc0 Mm0) (hi : Inv (Mm0.1 1) n) {nt : Nat} (e1 : EvM (Mm0.1 1) nt E) (e2 : EvC Mc0 82 E) {f a b i j : Nat} {w le pl be lo to : Int32} (hf : f < n) (ha : a < 30) (hb : b < 30) (hA : fl (Mm0.1 1) f 1 = nI a) (hB : fl (Mm0.1 1) f 2 = nI b) (h : Rs Mc0 Mm0 Mc Mm) (hi7 : i < 7) (hj7 : j < 7) (hq : Q0 le pl be ∨ Q1 le pl be lo to) {k46 : Nat → Int32 → Int32 → Nat → Int32 → Int32 → Int32 → ctM → Option (Int32 × ctM)} {k54 : Nat → Int32 → Int32 → Int32 → Int32 → Int32 → Int32 → Int32 → Int32 → ctM → Option (Int32 × ctM)} {N N2 : Nat} : ∃ (le2 pl2 be2 lo2 to2 : Int32) (Mc2 Mm2 : ctM), Rs Mc0 Mm0 Mc2 Mm2 ∧ (Q0 le2 pl2 be2 ∨ Q1 le2 pl2 be2 lo2 to2) ∧ (Q1 le pl be lo to ∨ (i = 3 ∧ j = 3) → Q1 le2 pl2 be2 lo2 to2) ∧ fX6_quiet_h65 k46 (N + 1) 0 (nI f) w (82 + 5 + f) le pl (qx a i) (qx b j) Mc = fX6_quiet_h65 k46 N 0 (nI f) w (82 + 5 + f) le2 pl2 (qx a i) (qx b (j + 1)) Mc2 ∧ fX7_quiet_h68 k54 (N2 + 1) 0 (nI f) w (nI a) (nI b) be lo to (qx a i) (qx b j) Mm = fX7_quiet_h68 k54 N2 0 (nI f) w (nI a) (nI b) be2 lo2 to2 (qx a i) (qx b (j + 1)) Mm2 := by
  have hn := hi.1
  have hf8 : f < 8 := by omega
  have ag := s.2.2.2.1
  have gy : gI kdC 0 2 (82 + 5 + f) Mc = some (nI b) := by
    rw [fl_g r82 hf8 (by decide), h.k82, ← hB]
    exact congrArg some (ag (14 + 7 * f + 2) (by omega)).symm
  have nlt : ¬ nI b + 3 < qx b j := fun z => by have := (qx_lt b hb j (by omega)).mp z; omega
  have e1b : qx b j + 1 = qx b (j + 1) := qx_1 b hb j (by omega)
  have on := qx_in a ha i (by omega)
  have on2 := qx_in b hb j (by omega)
  have le121 : le ≤ 121 := by
    rcases hq with ⟨z, _⟩ | ⟨k, k1, z, _⟩
    · rw [z]; decide
    · rw [z]; exact nI_le (b := 121) (by omega) (by decide)
  by_cases c1 : 0 ≤ qx a i ∧ qx a i ≤ 29
  · by_cases c2 : 0 ≤ qx b j ∧ qx b j ≤ 29
    · have ex := qx_eq a ha i (by omega) (on.mp c1).1
      have ey := qx_eq b hb j (by omega) (on2.mp c2).1
      have l1 := on.mp c1
      have l2 := on2.mp c2
      have pm := h.pm s
      have pm1 : PM (ctI Mm 1 (14 + 7 * f + 1) (nI (a + i - 3))) := pm
      obtain ⟨v, Mc2, A, B, Mm2, u1, u2, u3, u4, u5, u6⟩ := q_arc s hi e1 e2 hf (show a + i - 3 < 30 by omega) (show b + j - 3 < 30 by omega) h
      have pn := qp_nn (a + i - 3) (by omega) (b + j - 3) (by omega)
      have hc : ∀ (le2 pl2 : Int32), (if le ≤ qaS v then (le2 = le ∧ pl2 = pl) else (le2 = qaS v ∧ pl2 = 100 * nI (a + i - 3) + nI (b + j - 3))) → fX6_quiet_h65 k46 (N + 1) 0 (nI f) w (82 + 5 + f) le pl (qx a i) (qx b j) Mc = fX6_quiet_h65 k46 N 0 (nI f) w (82 + 5 + f) le2 pl2 (qx a i) (qx b (j + 1)) Mc2 := by
        intro le2 pl2 hh
        rw [fX6_quiet_h65, gy, bS, if_neg nlt]
        unfold fX6_isOnBoard
        rw [c_within, bS, if_pos c1, if_neg i_10, c_within, bS, if_pos c2, if_neg i_10, bS, if_neg i_10, o_cV, ex, ey, u1, bS]
        unfold fX6_quiet_b100 fX6_quiet_b123
        rw [← ey, e1b]
        by_cases cc : le ≤ qaS v
        · rw [if_pos cc] at hh
          rw [if_pos cc, hh.1, hh.2]
        · rw [if_neg cc] at hh
          rw [if_neg cc, hh.1, hh.2, ← ey]
      have hm : ∀ (be2 lo2 to2 : Int32), (if be < 0 ∨ ¬ lo ≤ qaS v then (be2 = 100 * nI (a + i - 3) + nI (b + j - 3) ∧ lo2 = qaS v ∧ to2 = v) else (be2 = be ∧ lo2 = lo ∧ to2 = to)) → fX7_quiet_h68 k54 (N2 + 1) 0 (nI f) w (nI a) (nI b) be lo to (qx a i) (qx b j) Mm = fX7_quiet_h68 k54 N2 0 (nI f) w (nI a) (nI b) be2 lo2 to2 (qx a i) (qx b (j + 1)) Mm2 := by
        intro be2 lo2 to2 hh
        have b155 : fX7_quiet_b155 k54 (fX7_quiet_h68 k54 N2) 0 (nI f) w (nI a) (nI b) be lo to (nI (a + i - 3)) (nI (b + j - 3)) v (qaS v) B = fX7_quiet_h68 k54 N2 0 (nI f) w (nI a) (nI b) be2 lo2 to2 (nI (a + i - 3)) (qx b (j + 1)) Mm2 := by
          unfold fX7_quiet_b155 fX7_quiet_b169 fX7_quiet_b187 fX7_quiet_b191
          rw [m_cV, u4, bS, bS, ← ey, e1b]
          by_cases cc : be < 0
          · rw [if_pos (Or.inl cc)] at hh
            rw [if_pos cc, hh.1, hh.2.1, hh.2.2, ← ey]
          · rw [if_neg cc]
            by_cases cd : lo ≤ qaS v
            · rw [if_neg (by rintro (z | z); exact cc z; exact z cd)] at hh
              rw [if_pos cd, hh.1, hh.2.1, hh.2.2]
            · rw [if_pos (Or.inr cd)] at hh
              rw [if_neg cd, hh.1, hh.2.1, hh.2.2, ← ey]
        rw [fX7_quiet_h68, if_neg nlt, m_isInL (qx a i) 0 29 0 29 (by decide) (by decide), bS, if_pos c1, if_neg i_10, m_isInL (qx b j) 0 29 0 29 (by decide) (by decide), bS, if_pos c2, if_neg i_10, gM0 pm, bS, m_cV, m_flameAt, bS, show nI (14 + 7 * f) + 1 = nI (14 + 7 * f + 1) from nI_add _ 1, ex, ey, m_ss (by omega), bS, gM0 pm1, bS, m_cV, m_flameAt, bS, show nI (14 + 7 * f) + 2 = nI (14 + 7 * f + 2) from nI_add _ 2, m_ss (by omega), bS, m_cV, u2, bS, m_cV, u3, bS]
        by_cases cv : 0 ≤ v
        · have qv : qaS v = v := by unfold qaS; rw [if_pos cv]
          rw [qv] at b155
          rw [if_pos cv]
          exact b155
        · have qv : qaS v = 120 := by unfold qaS; rw [if_neg cv]
          rw [qv] at b155
          rw [if_neg cv]
          exact b155
      obtain ⟨k, k1, k2, k3⟩ : ∃ k, k ≤ 120 ∧ qaS v = nI k ∧ ((k < 120 ∧ v = nI k) ∨ (k = 120 ∧ v = -1)) := by
        rcases u6 with ⟨k, k1, rfl⟩ | rfl
        · exact ⟨k, by omega, by unfold qaS; rw [if_pos (nI_pos' (by omega))], Or.inl ⟨k1, rfl⟩⟩
        · exact ⟨120, by omega, by unfold qaS; rw [if_neg (by decide)]; rfl, Or.inr ⟨rfl, rfl⟩⟩
      have new : Q1 (qaS v) (100 * nI (a + i - 3) + nI (b + j - 3)) (100 * nI (a + i - 3) + nI (b + j - 3)) (qaS v) v := ⟨k, k1, k2, k2, rfl, pn, k3⟩
      rcases hq with ⟨z1, z2, z3⟩ | hq1
      · have nl : ¬ le ≤ qaS v := by rw [z1, k2]; exact nI_ge (b := 121) (by omega) (by decide)
        exact ⟨_, _, _, _, _, Mc2, Mm2, u5, Or.inr new, fun _ => new, hc _ _ (by rw [if_neg nl]; exact ⟨rfl, rfl⟩), hm _ _ _ (by rw [if_pos (Or.inl (by rw [z3]; decide))]; exact ⟨rfl, rfl, rfl⟩)⟩
      · obtain ⟨r, r1, r2, r3, r4, r5, r6⟩ := id hq1
        by_cases cc : le ≤ qaS v
        · exact ⟨le, pl, be, lo, to, Mc2, Mm2, u5, Or.inr hq1, fun _ => hq1, hc _ _ (by rw [if_pos cc]; exact ⟨rfl, rfl⟩), hm _ _ _ (by rw [if_neg (by rintro (z | z); exact r5 z; exact z (by rw [r3, ← r2]; exact cc))]; exact ⟨rfl, rfl, rfl⟩)⟩
        · exact ⟨_, _, _, _, _, Mc2, Mm2, u5, Or.inr new, fun _ => new, hc _ _ (by rw [if_neg cc]; exact ⟨rfl, rfl⟩), hm _ _ _ (by rw [if_pos (Or.inr (by rw [r3, ← r2]; exact cc))]; exact ⟨rfl, rfl, rfl⟩)⟩
    · refine ⟨le, pl, be, lo, to, Mc, Mm, h, hq, fun z => ?_, ?_, ?_⟩
      · rcases z with z | ⟨_, z⟩
        · exact z
        · exact absurd (on2.mpr (by omega)) c2
      · rw [fX6_quiet_h65, gy, bS, if_neg nlt]
        unfold fX6_isOnBoard
        rw [c_within, bS, if_pos c1, if_neg i_10, c_within, bS, if_neg c2, if_pos rfl, bS, if_pos rfl]
        unfold fX6_quiet_b100 fX6_quiet_b123
        rw [if_pos le121, e1b]
      · rw [fX7_quiet_h68, if_neg nlt, m_isInL (qx a i) 0 29 0 29 (by decide) (by decide), bS, if_pos c1, if_neg i_10, m_isInL (qx b j) 0 29 0 29 (by decide) (by decide), bS, if_neg c2, if_pos rfl]
        unfold fX7_quiet_b191
        rw [e1b]
  · refine ⟨le, pl, be, lo, to, Mc, Mm, h, hq, fun z => ?_, ?_, ?_⟩
    · rcases z with z | ⟨z, _⟩
      · exact z
      · exact absurd (on.mpr (by omega)) c1
    · rw [fX6_quiet_h65, gy, bS, if_neg nlt]
      unfold fX6_isOnBoard
      rw [c_within, bS, if_neg c1, if_pos rfl, bS, if_pos rfl]
      unfold fX6_quiet_b100 fX6_quiet_b123
      rw [if_pos le121, e1b]
    · rw [fX7_quiet_h68, if_neg nlt, m_isInL (qx a i) 0 29 0 29 (by decide) (by decide), bS, if_neg c1, if_pos rfl]
      unfold fX7_quiet_b191
      rw [e1b]
theorem q_row (s : Sim Mc0 Mm0) (hi : Inv (Mm0.1 1) n) {nt : Nat} (e1 : EvM (Mm0.1 1) nt E) (e2 : EvC Mc0 82 E) {f a b i : Nat} {w : Int32} (hf : f < n) (ha : a < 30) (hb : b < 30) (hA : fl (Mm0.1 1) f 1 = nI a) (hB : fl (Mm0.1 1) f 2 = nI b) (hi7 : i < 7) {k46 : Nat → Int32 → Int32 → Nat → Int32 → Int32 → Int32 → ctM → Option (Int32 × ctM)} {k54 : Nat → Int32 → Int32 → Int32 → Int32 → Int32 → Int32 → Int32 → Int32 → ctM → Option (Int32 × ctM)} : ∀ (d j N N2 : Nat) (le pl be lo to : Int32) (Mc Mm : ctM), Rs Mc0 Mm0 Mc Mm → j + d = 7 → d < N → d < N2 → (Q0 le pl be ∨ Q1 le pl be lo to) → ∃ (le2 pl2 be2 lo2 to2 : Int32) (Mc2 Mm2 : ctM), Rs Mc0 Mm0 Mc2 Mm2 ∧ (Q0 le2 pl2 be2 ∨ Q1 le2 pl2 be2 lo2 to2) ∧ (Q1 le pl be lo to ∨ (i = 3 ∧ j ≤ 3) → Q1 le2 pl2 be2 lo2 to2) ∧ fX6_quiet_h65 k46 N 0 (nI f) w (82 + 5 + f) le pl (qx a i) (qx b j) Mc = k46 0 (nI f) w (82 + 5 + f) le2 pl2 (qx a (i + 1)) Mc2 ∧ fX7_quiet_h68 k54 N2 0 (nI f) w (nI a) (nI b) be lo to (qx a i) (qx b j) Mm = k54 0 (nI f) w (nI a) (nI b) be2 lo2 to2 (qx a (i + 1)) Mm2 := by
  intro d
  induction d with
  | zero =>
    intro j N N2 le pl be lo to Mc Mm h hj hN hN2 hq
    obtain ⟨N, rfl⟩ : ∃ k, N = k + 1 := ⟨N - 1, by omega⟩
    obtain ⟨N2, rfl⟩ : ∃ k, N2 = k + 1 := ⟨N2 - 1, by omega⟩
    have hf8 : f < 8 := by have := hi.1; omega
    have gy : gI kdC 0 2 (82 + 5 + f) Mc = some (nI b) := by
      rw [fl_g r82 hf8 (by decide), h.k82, ← hB]
      exact congrArg some (s.2.2.2.1 (14 + 7 * f + 2) (by omega)).symm
    have lt : nI b + 3 < qx b j := (qx_lt b hb j (by omega)).mpr (by omega)
    refine ⟨le, pl, be, lo, to, Mc, Mm, h, hq, fun z => ?_, ?_, ?_⟩
    · rcases z with z | z
      · exact z
      · omega
    · rw [fX6_quiet_h65, gy, bS, if_pos lt, qx_1 a ha i (by omega)]
    · rw [fX7_quiet_h68, if_pos lt, qx_1 a ha i (by omega)]
  | succ d ih =>
    intro j N N2 le pl be lo to Mc Mm h hj hN hN2 hq
    obtain ⟨N, rfl⟩ : ∃ k, N = k + 1 := ⟨N - 1, by omega⟩
    obtain ⟨N2, rfl⟩ : ∃ k, N2 = k + 1 := ⟨N2 - 1, by omega⟩
    obtain ⟨le1, pl1, be1, lo1, to1, Mc1, Mm1, a1, a2, a3, a4, a5⟩ := q_step (w := w) (k46 := k46) (k54 := k54) (N := N) (N2 := N2) s hi e1 e2 hf ha hb hA hB h hi7 (show j < 7 by omega) hq
    obtain ⟨le2, pl2, be2, lo2, to2, Mc2, Mm2, b1, b2, b3, b4, b5⟩ := ih (j + 1) N N2 le1 pl1 be1 lo1 to1 Mc1 Mm1 a1 (by omega) (by omega) (by omega) a2
    refine ⟨le2, pl2, be2, lo2, to2, Mc2, Mm2, b1, b2, fun z => ?_, a4.trans b4, a5.trans b5⟩
    by_cases cj : i = 3 ∧ j < 3
    · exact b3 (Or.inr (by omega))
    · exact b3 (Or.inl (a3 (by
        rcases z with z | z
        · exact Or.inl z
        · exact Or.inr (by omega))))
theorem q_all (s : Sim Mc0 Mm0) (hi : Inv (Mm0.1 1) n) {nt : Nat} (e1 : EvM (Mm0.1 1) nt E) (e2 : EvC Mc0 82 E) {f a b : Nat} {w : Int32} (hf : f < n) (ha : a < 30) (hb : b < 30) (hA : fl (Mm0.1 1) f 1 = nI a) (hB : fl (Mm0.1 1) f 2 = nI b) : ∀ (d i N N2 : Nat) (le pl be lo to : Int32) (Mc Mm : ctM), Rs Mc0 Mm0 Mc Mm → i + d = 7 → d < N → d < N2 → (Q0 le pl be ∨ Q1 le pl be lo to) → (i ≤ 3 ∨ Q1 le pl be lo to) → ∃ (v : Int32) (Mc2 Mm2 : ctM), fX6_quiet_h46 N 0 (nI f) w (82 + 5 + f) le pl (qx a i) Mc = some (v, Mc2) ∧ fX7_quiet_h54 N2 0 (nI f) w (nI a) (nI b) be lo to (qx a i) Mm = some (v, Mm2) ∧ Sim Mc2 Mm2 := by
  intro d
  have hf8 : f < 8 := by have := hi.1; omega
  have gx : ∀ {Mc Mm : ctM}, Rs Mc0 Mm0 Mc Mm → gI kdC 0 1 (82 + 5 + f) Mc = some (nI a) := fun {Mc Mm} h => by
    rw [fl_g r82 hf8 (by decide), h.k82, ← hA]
    exact congrArg some (s.2.2.2.1 (14 + 7 * f + 1) (by omega)).symm
  have gy : ∀ {Mc Mm : ctM}, Rs Mc0 Mm0 Mc Mm → gI kdC 0 2 (82 + 5 + f) Mc = some (nI b) := fun {Mc Mm} h => by
    rw [fl_g r82 hf8 (by decide), h.k82, ← hB]
    exact congrArg some (s.2.2.2.1 (14 + 7 * f + 2) (by omega)).symm
  induction d with
  | zero =>
    intro i N N2 le pl be lo to Mc Mm h hj hN hN2 hq hp
    obtain ⟨N, rfl⟩ : ∃ k, N = k + 1 := ⟨N - 1, by omega⟩
    obtain ⟨N2, rfl⟩ : ∃ k, N2 = k + 1 := ⟨N2 - 1, by omega⟩
    have lt : nI a + 3 < qx a i := (qx_lt a ha i (by omega)).mpr (by omega)
    obtain ⟨r, r1, r2, r3, r4, r5, r6⟩ : Q1 le pl be lo to := by
      rcases hp with z | z
      · omega
      · exact z
    by_cases cw : w = 1
    · refine ⟨pl, Mc, Mm, ?_, ?_, h.sim s⟩
      · rw [fX6_quiet_h46, gx h, bS, if_pos lt, if_pos cw]
      · rw [fX7_quiet_h54, if_pos lt, if_pos cw, r4]
    · rcases r6 with ⟨l, e⟩ | ⟨l, e⟩
      · refine ⟨nI r, Mc, Mm, ?_, ?_, h.sim s⟩
        · rw [fX6_quiet_h46, gx h, bS, if_pos lt, if_neg cw, r2, if_pos (show nI r < 120 from nI_lt (b := 120) l (by decide))]
        · rw [fX7_quiet_h54, if_pos lt, if_neg cw, e, fX7_orNone, if_pos (nI_pos' (by omega)), bS]
      · refine ⟨-1000000005, Mc, Mm, ?_, ?_, h.sim s⟩
        · rw [fX6_quiet_h46, gx h, bS, if_pos lt, if_neg cw, r2, l, if_neg (by decide)]
        · rw [fX7_quiet_h54, if_pos lt, if_neg cw, e, fX7_orNone, if_neg (by decide), bS]
  | succ d ih =>
    intro i N N2 le pl be lo to Mc Mm h hj hN hN2 hq hp
    obtain ⟨N, rfl⟩ : ∃ k, N = k + 1 := ⟨N - 1, by omega⟩
    obtain ⟨N2, rfl⟩ : ∃ k, N2 = k + 1 := ⟨N2 - 1, by omega⟩
    have nlt : ¬ nI a + 3 < qx a i := fun z => by have := (qx_lt a ha i (by omega)).mp z; omega
    obtain ⟨le1, pl1, be1, lo1, to1, Mc1, Mm1, a1, a2, a3, a4, a5⟩ := q_row (w := w) (k46 := fX6_quiet_h46 N) (k54 := fX7_quiet_h54 N2) s hi e1 e2 hf ha hb hA hB (show i < 7 by omega) 7 0 4000 4000 le pl be lo to Mc Mm h (by decide) (by decide) (by decide) hq
    obtain ⟨v, Mc2, Mm2, b1, b2, b3⟩ := ih (i + 1) N N2 le1 pl1 be1 lo1 to1 Mc1 Mm1 a1 (by omega) (by omega) (by omega) a2 (by
      by_cases c : i < 3
      · exact Or.inl (by omega)
      · refine Or.inr (a3 ?_)
        rcases hp with z | z
        · exact Or.inr (by omega)
        · exact Or.inl z)
    have q0 : nI b - 3 = qx b 0 := rfl
    refine ⟨v, Mc2, Mm2, ?_, ?_, b3⟩
    · rw [fX6_quiet_h46, gx h, bS, if_neg nlt, gy h, bS, q0]
      exact a4.trans b1
    · rw [fX7_quiet_h54, if_neg nlt, q0]
      exact a5.trans b2
theorem op_quiet : opS2 Sim fX6_quiet fX7_quiet := by
  intro Mc Mm h x w
  obtain ⟨pc, pm, _, ag, ⟨n, hi⟩, _⟩ := id h
  obtain ⟨nt, E, e1, e2⟩ := h.ev
  have hn := hi.1
  have k0 : rK Mc 82 0 = nI n := (ag 0 (by decide)).symm.trans hi.2.1
  by_cases h1 : 0 ≤ x ∧ x ≤ nI n - 1
  · by_cases h2 : 0 ≤ w ∧ w ≤ 1
    · obtain ⟨f, hf, rfl⟩ := (ix_iff (by omega)).mp h1
      have hf8 : f < 8 := by omega
      obtain ⟨a, _, ha, hA⟩ := (hi.2.2.1 f hf).2.1
      obtain ⟨b, _, hb, hB⟩ := (hi.2.2.1 f hf).2.2.1
      obtain ⟨Mm1, b1, b2⟩ := rs_by h
      have pm1 := b2.pm h
      obtain ⟨v, Mc2, Mm2, d1, d2, d3⟩ := q_all (w := w) h hi e1 e2 hf ha hb hA hB 7 0 4000 4000 121 (-1000000005) (-1) 0 0 Mc Mm1 b2 (by decide) (by decide) (by decide) (Or.inl ⟨rfl, rfl, rfl⟩) (Or.inl (by decide))
      have q0 : nI a - 3 = qx a 0 := rfl
      have gx : gI kdC 0 1 (82 + 5 + f) Mc = some (nI a) := by
        rw [fl_g r82 hf8 (by decide), ← hA]
        exact congrArg some (ag (14 + 7 * f + 1) (by omega)).symm
      refine ⟨v, Mc2, Mm2, ?_, ?_, d3⟩
      · unfold fX6_quiet
        rw [o_cV, c_isFlame pc k0, bS, if_pos h1, if_neg i_10, c_within, bS, if_pos h2, if_neg i_10, o_now pc, bS, rm_f1 pc r82, bS, rm_fl pc r82 hf8, bS, gx, bS, q0]
        exact d1
      · unfold fX7_quiet
        rw [m_cV, m_isFlame pm hi.2.1, bS, if_pos h1, if_neg i_10, m_isInL w 0 1 0 1 (by decide) (by decide), bS, if_pos h2, if_neg i_10, m_cV, b1, bS, m_cV, m_of1 pm1 hf8, bS, m_cV, m_of2 pm1 hf8, bS, b2.s, hA, hB, q0]
        exact d2
    · refine ⟨-1000000001, Mc, Mm, ?_, ?_, h⟩
      · unfold fX6_quiet
        rw [o_cV, c_isFlame pc k0, bS, if_pos h1, if_neg i_10, c_within, bS, if_neg h2, if_pos rfl]
      · unfold fX7_quiet
        rw [m_cV, m_isFlame pm hi.2.1, bS, if_pos h1, if_neg i_10, m_isInL w 0 1 0 1 (by decide) (by decide), bS, if_neg h2, if_pos rfl]
  · refine ⟨-1000000001, Mc, Mm, ?_, ?_, h⟩
    · unfold fX6_quiet
      rw [o_cV, c_isFlame pc k0, bS, if_neg h1, if_pos rfl]
    · unfold fX7_quiet
      rw [m_cV, m_isFlame pm hi.2.1, bS, if_neg h1, if_pos rfl]
end
