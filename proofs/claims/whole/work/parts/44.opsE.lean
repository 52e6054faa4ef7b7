theorem nI_mod {a b : Nat} (ha : a < 2 ^ 31) (hb : b < 2 ^ 31) : nI a % nI b = nI (a % b) := by
  apply Int32.toInt_inj.mp
  rw [Int32.toInt_mod, nI_toInt ha, nI_toInt hb, nI_toInt (Nat.lt_of_le_of_lt (Nat.mod_le a b) ha)]
  exact (Int.ofNat_tmod a b).symm
theorem drV_n (z : Int32) : ∃ j, j < 2 ^ 24 ∧ drV z = nI j := by
  have e := pk_ushr z 8 8 (by decide)
  have hz : z.toBitVec.toNat < 2 ^ 32 := z.toBitVec.isLt
  refine ⟨z.toBitVec.toNat / 2 ^ 8, by omega, ?_⟩
  apply Int32.toBitVec_inj.mp
  apply BitVec.eq_of_toNat_eq
  have e2 : (drV z).toBitVec.toNat = z.toBitVec.toNat / 2 ^ 8 := e
  rw [e2]
  show _ = (BitVec.ofNat 32 (z.toBitVec.toNat / 2 ^ 8)).toNat
  rw [BitVec.toNat_ofNat, Nat.mod_eq_of_lt (by omega)]
theorem dr_rg (z : Int32) {b : Nat} (h0 : 0 < b) (hb : b < 2 ^ 31) : rg (drV z % nI b) 0 b := by
  obtain ⟨j, h1, h2⟩ := drV_n z
  rw [h2, nI_mod (by omega) hb]
  exact ⟨j % b, by omega, Nat.mod_lt _ h0, rfl⟩
theorem dr_rg9 (z : Int32) : rg (1 + drV z % 9) 1 10 := by
  obtain ⟨j, h1, h2, h3⟩ := dr_rg z (b := 9) (by decide) (by decide)
  refine ⟨1 + j, by omega, by omega, ?_⟩
  rw [show (9 : Int32) = nI 9 from rfl, h3]
  exact nI_add 1 j
/-- a new flame -/
def nwS (S : Kv) (n : Nat) (k x y s p : Int32) : Kv := fun j => if j = 0 then nI (n + 1) else if j = 14 + 7 * n then k else if j = 14 + 7 * n + 1 then x else if j = 14 + 7 * n + 2 then y else if j = 14 + 7 * n + 3 then s else if j = 14 + 7 * n + 4 then p else if j = 14 + 7 * n + 5 then 999 else if j = 14 + 7 * n + 6 then 0 else S j
section
variable {Mc Mm : ctM} {n : Nat} {k x y s p : Int32}
theorem nwS_ag {A B : Kv} (h : Ag A B) : Ag (nwS A n k x y s p) (nwS B n k x y s p) := by
  intro j hj
  unfold nwS
  rw [h j hj]
theorem nwS_o {A : Kv} {j : Nat} (h0 : j ≠ 0) (h : j < 14 + 7 * n ∨ 14 + 7 * n + 7 ≤ j) : nwS A n k x y s p j = A j := by
  unfold nwS
  rw [if_neg h0, if_neg (by omega), if_neg (by omega), if_neg (by omega), if_neg (by omega), if_neg (by omega), if_neg (by omega), if_neg (by omega)]
theorem nwS_inv {A : Kv} (h : Inv A n) (hn : n < 8) (hk : rg k 0 6) (hx : rg x 0 30) (hy : rg y 0 30) (hs : rg s 1 10) (hp : rg p 0 120) : Inv (nwS A n k x y s p) (n + 1) := by
  obtain ⟨h1, h2, h3, h4, h5⟩ := h
  refine ⟨by omega, rfl, fun f hf => ?_, fun i hi => ?_, fun i hi hj => ?_⟩
  · rcases Nat.lt_or_ge f n with q | q
    · have e : ∀ i, i < 7 → fl (nwS A n k x y s p) f i = fl A f i := fun i hi => nwS_o (by omega) (by omega)
      rw [e 0 (by decide), e 1 (by decide), e 2 (by decide), e 3 (by decide), e 4 (by decide), e 5 (by decide)]
      exact h3 f q
    · have : f = n := by omega
      subst this
      have e0 : fl (nwS A f k x y s p) f 0 = k := by
        unfold fl nwS; rw [if_neg (by omega), if_pos (by omega)]
      have e1 : fl (nwS A f k x y s p) f 1 = x := by
        unfold fl nwS; rw [if_neg (by omega), if_neg (by omega), if_pos rfl]
      have e2 : fl (nwS A f k x y s p) f 2 = y := by
        unfold fl nwS; rw [if_neg (by omega), if_neg (by omega), if_neg (by omega), if_pos rfl]
      have e3 : fl (nwS A f k x y s p) f 3 = s := by
        unfold fl nwS; rw [if_neg (by omega), if_neg (by omega), if_neg (by omega), if_neg (by omega), if_pos rfl]
      have e4 : fl (nwS A f k x y s p) f 4 = p := by
        unfold fl nwS; rw [if_neg (by omega), if_neg (by omega), if_neg (by omega), if_neg (by omega), if_neg (by omega), if_pos rfl]
      have e5 : fl (nwS A f k x y s p) f 5 = 999 := by
        unfold fl nwS; rw [if_neg (by omega), if_neg (by omega), if_neg (by omega), if_neg (by omega), if_neg (by omega), if_neg (by omega), if_pos rfl]
      rw [e0, e1, e2, e3, e4, e5]
      exact ⟨hk, hx, hy, hs, hp, ⟨999, by omega, by omega, rfl⟩⟩
  · rw [nwS_o (by omega) (by omega)]; exact h4 i hi
  · rw [nwS_o (by omega) (by omega)]; exact h5 i (by omega) hj
theorem nw_chC {K : Kv} : va_up (va_up (va_up (va_up (va_up (va_up (va_up (va_up K (14 + 7 * n + 0) k) (14 + 7 * n + 1) x) (14 + 7 * n + 2) y) (14 + 7 * n + 3) s) (14 + 7 * n + 4) 0) (14 + 7 * n + 5) 999) (14 + 7 * n + 6) 0) 0 (nI (n + 1)) = nwS K n k x y s 0 := by
  funext j
  unfold va_up nwS
  repeat' split
  all_goals first | rfl | omega
theorem nw_chP {K : Kv} : va_up (nwS K n k x y s 0) (14 + 7 * n + 4) p = nwS K n k x y s p := by
  funext j
  unfold va_up nwS
  repeat' split
  all_goals first | rfl | omega
theorem nw_chM {S : Kv} (hz : S (6 + n) = 0) : va_up (va_up (va_up (va_up (va_up (va_up (va_up (va_up (va_up S (14 + 7 * n) k) (14 + 7 * n + 1) x) (14 + 7 * n + 2) y) (14 + 7 * n + 3) s) (14 + 7 * n + 4) p) (14 + 7 * n + 5) 999) (14 + 7 * n + 6) 0) (6 + n) 0) 0 (nI (n + 1)) = nwS S n k x y s p := by
  funext j
  unfold va_up nwS
  by_cases e : j = 6 + n
  · subst e
    rw [if_neg (by omega), if_pos rfl, if_neg (by omega), if_neg (by omega), if_neg (by omega), if_neg (by omega), if_neg (by omega), if_neg (by omega), if_neg (by omega), if_neg (by omega), hz]
  · rw [if_neg e]
    repeat' split
    all_goals first | rfl | omega
theorem c_lightOne {K : Kv} {M1 : ctM} (pc : PC Mc) (h : TkC 82 Mc K M1) (hn : n < 8) (h0 : K 0 = nI n) : ∃ M2, fX2_lightOne 82 k x y s M1 = some (nI n, M2) ∧ TkC 82 Mc (nwS K n k x y s 0) M2 := by
  have q := h.pc pc
  have t7 := ((((((h.pf (v := k) hn (show 0 < 7 by decide)).pf (v := x) hn (show 1 < 7 by decide)).pf (v := y) hn (show 2 < 7 by decide)).pf (v := s) hn (show 3 < 7 by decide)).pf (v := 0) hn (show 4 < 7 by decide)).pf (v := 999) hn (show 5 < 7 by decide)).pf (v := 0) hn (show 6 < 7 by decide)
  have t8 := t7.pr (j := 0) (v := nI (n + 1)) (by decide)
  rw [nw_chC] at t8
  refine ⟨_, ?_, t8⟩
  have n0 : (rK M1 82 0) = nI n := by rw [h.2.1, h0]
  have n7 := t7.2.1
  have n7' := congrFun n7 0
  rw [va_up_ne' (by omega), va_up_ne' (by omega), va_up_ne' (by omega), va_up_ne' (by omega), va_up_ne' (by omega), va_up_ne' (by omega), va_up_ne' (by omega), h0] at n7'
  have n8 := congrFun t8.2.1 0
  have n8' : nwS K n k x y s 0 0 = nI (n + 1) := rfl
  rw [n8'] at n8
  have lt8 : nI n < 8 := nI_lt (b := 8) hn (by decide)
  have m1 : nI (n + 1) - 1 = nI n := by rw [nI_m1 (n + 1) (by omega) (by omega)]; rfl
  simp only [fX2_lightOne, rm_i5 r82, n0, bS, if_pos lt8, rm_f1 q r82, rm_fl q r82 hn, fl_cV r82 hn, fX0_light, fl_p r82 hn, n7', rm_p r82, nI_1]
  rw [show rF 0 = 5 from rfl] at n8
  rw [n8, m1]
  rfl
theorem m_comes {S : Kv} {M1 : ctM} (pm : PM Mm) (h : WkM Mm S M1) (hn : n < 8) (h0 : S 0 = nI n) (hz : S (6 + n) = 0) : ∃ M2, fX7_comes 0 k x y s p M1 = some M2 ∧ WkM Mm (nwS S n k x y s p) M2 := by
  have t0 := h.put (14 + 7 * n) k
  have t1 := t0.put (14 + 7 * n + 1) x
  have t2 := t1.put (14 + 7 * n + 2) y
  have t3 := t2.put (14 + 7 * n + 3) s
  have t4 := t3.put (14 + 7 * n + 4) p
  have t5 := t4.put (14 + 7 * n + 5) 999
  have t6 := t5.put (14 + 7 * n + 6) 0
  have t7 := t6.put (6 + n) 0
  have t8 := t7.put 0 (nI (n + 1))
  rw [nw_chM hz] at t8
  refine ⟨_, ?_, t8⟩
  have n0 : M1.1 1 0 = nI n := by rw [h.2.1, h0]
  have n6 := congrFun t6.2.1 0
  rw [va_up_ne' (by omega), va_up_ne' (by omega), va_up_ne' (by omega), va_up_ne' (by omega), va_up_ne' (by omega), va_up_ne' (by omega), va_up_ne' (by omega), h0] at n6
  have n7 := congrFun t7.2.1 0
  rw [va_up_ne' (by omega), va_up_ne' (by omega), va_up_ne' (by omega), va_up_ne' (by omega), va_up_ne' (by omega), va_up_ne' (by omega), va_up_ne' (by omega), va_up_ne' (by omega), h0] at n7
  simp only [fX7_comes, gM0 (h.pm pm), gM0 (t0.pm pm), gM0 (t1.pm pm), gM0 (t2.pm pm), gM0 (t3.pm pm), gM0 (t4.pm pm), gM0 (t5.pm pm), gM0 (t6.pm pm), gM0 (t7.pm pm), bS, m_s0, n0, m_cV, m_flameAt, m_ss (show 14 + 7 * n < 3070 by omega), show nI (14 + 7 * n) + 1 = nI (14 + 7 * n + 1) from nI_add _ 1, show nI (14 + 7 * n) + 2 = nI (14 + 7 * n + 2) from nI_add _ 2, show nI (14 + 7 * n) + 3 = nI (14 + 7 * n + 3) from nI_add _ 3, show nI (14 + 7 * n) + 4 = nI (14 + 7 * n + 4) from nI_add _ 4, show nI (14 + 7 * n) + 5 = nI (14 + 7 * n + 5) from nI_add _ 5, show nI (14 + 7 * n) + 6 = nI (14 + 7 * n + 6) from nI_add _ 6, m_ss (show 14 + 7 * n + 1 < 3070 by omega), m_ss (show 14 + 7 * n + 2 < 3070 by omega), m_ss (show 14 + 7 * n + 3 < 3070 by omega), m_ss (show 14 + 7 * n + 4 < 3070 by omega), m_ss (show 14 + 7 * n + 5 < 3070 by omega), m_ss (show 14 + 7 * n + 6 < 3070 by omega), n6, show (6 : Int32) + nI n = nI (6 + n) from nI_add 6 n, m_ss (show 6 + n < 3070 by omega), n7, nI_1, m_ss0]
theorem nw_sy {A : Kv} (h : Sy A) (hn : n < 8) : Sy (nwS A n k x y s p) := h.of (fun i hi => nwS_o (by omega) (by omega))
theorem op_flame : opS3 Sim fX6_flame fX7_flame := by
  intro Mc Mm h kd pl sz
  obtain ⟨pc, pm, _, ag, ⟨n, hi⟩, _⟩ := id h
  have hn := hi.1
  have k0 : rK Mc 82 0 = nI n := (ag 0 (by decide)).symm.trans hi.2.1
  by_cases h1 : 0 ≤ kd ∧ kd ≤ 5
  · by_cases h2 : okPl pl
    · by_cases h3 : 1 ≤ sz ∧ sz ≤ 9
      · by_cases h8 : n = 8
        · subst h8
          refine ⟨-1000000003, Mc, Mm, ?_, ?_, h⟩
          · simp only [fX6_flame, c_isKind, bS, if_pos h1, if_neg i_10, c_isPlaceT h2, c_within, if_pos h3, o_now pc, rm_i5 r82, k0, if_neg (show ¬ nI 8 < 8 by decide)]
          · simp only [fX7_flame, m_isInL kd 0 5 0 5 (by decide) (by decide), bS, if_pos h1, if_neg i_10, m_isPlaceT h2, m_isInL sz 1 9 1 9 (by decide) (by decide), if_pos h3, gM0 pm, m_s0, hi.2.1, if_pos (show nI 8 = 8 from rfl)]
        · have hn8 : n < 8 := by omega
          obtain ⟨g1, g2⟩ := pl_rg h2
          obtain ⟨M2, w1, w2⟩ := c_lightOne (k := kd) (x := pl / 100) (y := pl % 100) (s := sz) pc TkC.rf hn8 k0
          obtain ⟨M3, v1, v2⟩ := m_comes (k := kd) (x := pl / 100) (y := pl % 100) (s := sz) (p := 0) pm WkM.rf hn8 hi.2.1 (hi.2.2.2.2 n (Nat.le_refl _) hn8)
          have e0 : M3.1 1 0 = nI (n + 1) := by rw [v2.2.1]; rfl
          have m1 : nI (n + 1) - 1 = nI n := by rw [nI_m1 (n + 1) (by omega) (by omega)]; rfl
          refine ⟨nI n, M2, M3, ?_, ?_, h.put w2 v2 (nwS_ag ag) (nwS_inv hi hn8 (rg_in (hi := 5) nI_0.symm rfl (by decide) (by decide) h1) g1 g2 (rg_in (lo := 1) (hi := 9) rfl rfl (by decide) (by decide) h3) ⟨0, by omega, by omega, rfl⟩) (fun j hj => nwS_o (by omega) (by omega)) (nw_sy h.sy hn8)⟩
          · simp only [fX6_flame, c_isKind, bS, if_pos h1, if_neg i_10, c_isPlaceT h2, c_within, if_pos h3, o_now pc, rm_i5 r82, k0, if_pos (show nI n < 8 from nI_lt (b := 8) hn8 (by decide)), rm_cV r82, w1]
          · simp only [fX7_flame, m_isInL kd 0 5 0 5 (by decide) (by decide), bS, if_pos h1, if_neg i_10, m_isPlaceT h2, m_isInL sz 1 9 1 9 (by decide) (by decide), if_pos h3, gM0 pm, m_s0, hi.2.1, if_neg (show ¬ nI n = 8 from fun z => h8 ((nI_eq (b := 8) (by omega) (by decide)).mp z)), m_cV, v1, gM0 (v2.pm pm), e0, m1]
      · exact ⟨-1000000001, Mc, Mm, by simp only [fX6_flame, c_isKind, bS, if_pos h1, if_neg i_10, c_isPlaceT h2, c_within, if_neg h3, if_true], by simp only [fX7_flame, m_isInL kd 0 5 0 5 (by decide) (by decide), bS, if_pos h1, if_neg i_10, m_isPlaceT h2, m_isInL sz 1 9 1 9 (by decide) (by decide), if_neg h3, if_true], h⟩
    · exact ⟨-1000000001, Mc, Mm, by simp only [fX6_flame, c_isKind, bS, if_pos h1, if_neg i_10, c_isPlaceF h2, if_true], by simp only [fX7_flame, m_isInL kd 0 5 0 5 (by decide) (by decide), bS, if_pos h1, if_neg i_10, m_isPlaceF h2, if_true], h⟩
  · exact ⟨-1000000001, Mc, Mm, by simp only [fX6_flame, c_isKind, bS, if_neg h1, if_true], by simp only [fX7_flame, m_isInL kd 0 5 0 5 (by decide) (by decide), bS, if_neg h1, if_true], h⟩
theorem m_drawnW {S : Kv} {M1 : ctM} (pm : PM Mm) (h : WkM Mm S M1) : fX7_drawn 0 M1 = some (drV (drZ (S 5)), ctI M1 1 5 (drZ (S 5))) := by
  have q := h.pm pm
  have q2 : PM (ctI M1 1 5 (S 5 * 1103515245 + 12345)) := q
  have e5 : M1.1 1 5 = S 5 := by rw [h.2.1]
  have e6 : (ctI M1 1 5 (S 5 * 1103515245 + 12345)).1 1 5 = S 5 * 1103515245 + 12345 := by rw [ctI_1, va_up_eq']
  simp only [fX7_drawn, gM0 q, bS, m_s5, m_ss5, e5, gM0 q2, e6]
  rfl
theorem draw_sim (h : Sim Mc Mm) (hi : Inv (Mm.1 1) n) (hn : n < 8) : ∃ Mc2 Mm2, fX2_drawOne 82 Mc = some Mc2 ∧ (∀ N m j, m < 2 ^ 31 → j < m → fX7_deal_h17 (N + 1) 0 (nI m) (nI j) Mm = fX7_deal_h17 N 0 (nI m) (nI (j + 1)) Mm2) ∧ Sim Mc2 Mm2 ∧ Inv (Mm2.1 1) (n + 1) := by
  obtain ⟨pc, pm, _, ag, _⟩ := id h
  have k0 : rK Mc 82 0 = nI n := (ag 0 (by decide)).symm.trans hi.2.1
  obtain ⟨z1, e1⟩ : ∃ z, z = drZ (Mm.1 1 5) := ⟨_, rfl⟩
  obtain ⟨z2, e2⟩ : ∃ z, z = drZ z1 := ⟨_, rfl⟩
  obtain ⟨z3, e3⟩ : ∃ z, z = drZ z2 := ⟨_, rfl⟩
  obtain ⟨z4, e4⟩ : ∃ z, z = drZ z3 := ⟨_, rfl⟩
  obtain ⟨z5, e5⟩ : ∃ z, z = drZ z4 := ⟨_, rfl⟩
  have c5 : rK Mc 82 5 = Mm.1 1 5 := (ag 5 (by decide)).symm
  -- the class
  have t1 : TkC 82 Mc (va_up (rK Mc 82) 5 z1) (ctI Mc 82 9 z1) := TkC.rf.pr (j := 5) (by decide)
  have t2 : TkC 82 Mc (va_up (rK Mc 82) 5 z2) (ctI (ctI Mc 82 9 z1) 82 9 z2) := by have := t1.pr (j := 5) (v := z2) (by decide); rw [bx_uu] at this; exact this
  have t3 : TkC 82 Mc (va_up (rK Mc 82) 5 z3) (ctI (ctI (ctI Mc 82 9 z1) 82 9 z2) 82 9 z3) := by have := t2.pr (j := 5) (v := z3) (by decide); rw [bx_uu] at this; exact this
  have t4 : TkC 82 Mc (va_up (rK Mc 82) 5 z4) (ctI (ctI (ctI (ctI Mc 82 9 z1) 82 9 z2) 82 9 z3) 82 9 z4) := by have := t3.pr (j := 5) (v := z4) (by decide); rw [bx_uu] at this; exact this
  have t5 : TkC 82 Mc (va_up (rK Mc 82) 5 z5) (ctI (ctI (ctI (ctI (ctI Mc 82 9 z1) 82 9 z2) 82 9 z3) 82 9 z4) 82 9 z5) := by have := t4.pr (j := 5) (v := z5) (by decide); rw [bx_uu] at this; exact this
  have d1 := c_draw r82 (TkC.rf (M := Mc) (r := 82))
  rw [c5, ← e1] at d1
  have d2 := c_draw r82 t1
  rw [va_up_eq', ← e2] at d2
  have d3 := c_draw r82 t2
  rw [va_up_eq', ← e3] at d3
  have d4 := c_draw r82 t3
  rw [va_up_eq', ← e4] at d4
  have d5 := c_draw r82 t4
  rw [va_up_eq', ← e5] at d5
  obtain ⟨M6, l1, l2⟩ := c_lightOne (k := drV z1 % 5) (x := drV z2 % 30) (y := drV z3 % 30) (s := 1 + drV z4 % 9) pc t5 hn (by rw [va_up_ne' (by decide)]; exact k0)
  have q6 := l2.pc pc
  have l3 := l2.pf (v := drV z5 % 120) hn (show 4 < 7 by decide)
  rw [nw_chP] at l3
  -- the model
  have s1 : WkM Mm (va_up (Mm.1 1) 5 z1) (ctI Mm 1 5 z1) := WkM.rf.put 5 z1
  have s2 : WkM Mm (va_up (Mm.1 1) 5 z2) (ctI (ctI Mm 1 5 z1) 1 5 z2) := by have := s1.put 5 z2; rw [bx_uu] at this; exact this
  have s3 : WkM Mm (va_up (Mm.1 1) 5 z3) (ctI (ctI (ctI Mm 1 5 z1) 1 5 z2) 1 5 z3) := by have := s2.put 5 z3; rw [bx_uu] at this; exact this
  have s4 : WkM Mm (va_up (Mm.1 1) 5 z4) (ctI (ctI (ctI (ctI Mm 1 5 z1) 1 5 z2) 1 5 z3) 1 5 z4) := by have := s3.put 5 z4; rw [bx_uu] at this; exact this
  have s5 : WkM Mm (va_up (Mm.1 1) 5 z5) (ctI (ctI (ctI (ctI (ctI Mm 1 5 z1) 1 5 z2) 1 5 z3) 1 5 z4) 1 5 z5) := by have := s4.put 5 z5; rw [bx_uu] at this; exact this
  have g1 := m_drawnW pm (WkM.rf (Mm := Mm))
  rw [← e1] at g1
  have g2 := m_drawnW pm s1
  rw [va_up_eq', ← e2] at g2
  have g3 := m_drawnW pm s2
  rw [va_up_eq', ← e3] at g3
  have g4 := m_drawnW pm s3
  rw [va_up_eq', ← e4] at g4
  have g5 := m_drawnW pm s4
  rw [va_up_eq', ← e5] at g5
  obtain ⟨M7, v1, v2⟩ := m_comes (k := drV z1 % 5) (x := drV z2 % 30) (y := drV z3 % 30) (s := 1 + drV z4 % 9) (p := drV z5 % 120) pm s5 hn (by rw [va_up_ne' (by decide)]; exact hi.2.1) (by rw [va_up_ne' (by omega)]; exact hi.2.2.2.2 n (Nat.le_refl _) hn)
  have k5 := dr_rg z1 (b := 5) (by decide) (by decide)
  obtain ⟨k5a, k5b, k5c, k5d⟩ := k5
  have iv : Inv (nwS (va_up (Mm.1 1) 5 z5) n (drV z1 % 5) (drV z2 % 30) (drV z3 % 30) (1 + drV z4 % 9) (drV z5 % 120)) (n + 1) := nwS_inv (hi.up_lo (by omega)) hn ⟨k5a, k5b, by omega, k5d⟩ (dr_rg z2 (b := 30) (by decide) (by decide)) (dr_rg z3 (b := 30) (by decide) (by decide)) (dr_rg9 z4) (dr_rg z5 (b := 120) (by decide) (by decide))
  refine ⟨_, M7, ?_, fun N m j hm hj => ?_, h.put l3 v2 (nwS_ag (ag.up _ _)) iv (fun j hj => by rw [nwS_o (by omega) (by omega), va_up_ne' (by omega)]) (nw_sy (h.sy.up (by omega)) hn), by rw [v2.2.1]; exact iv⟩
  · simp only [fX2_drawOne, rm_cV r82, d1, d2, d3, d4, d5, bS, l1, if_neg (show ¬ nI n < 0 from nI_pos (by omega)), rm_f1 q6 r82, rm_fl q6 r82 hn, fl_p r82 hn]
  · rw [fX7_deal_h17, if_neg (nI_ge hj hm), gM0 pm, bS, m_s0, hi.2.1, bS, if_neg (show ¬ (8 : Int32) ≤ nI n from nI_ge (b := 8) hn (by decide)), m_cV, g1, bS, m_cV, g2, bS, m_cV, g3, bS, m_cV, g4, bS, m_cV, g5, bS, m_cV, v1, bS, nI_1]
theorem deal_sim {m c : Nat} (hm : m ≤ 8) : ∀ (d j n N N2 : Nat) (Mc Mm : ctM), Sim Mc Mm → Inv (Mm.1 1) n → j + d = c → d < N → d < N2 → c ≤ m → n + d ≤ 8 → (c = m ∨ n + d = 8) → ∃ (w : Int32) (Mc2 Mm2 : ctM), fX6_deal_h30 N 0 (nI c) (nI j) Mc = some (w, Mc2) ∧ fX7_deal_h17 N2 0 (nI m) (nI j) Mm = some (w, Mm2) ∧ Sim Mc2 Mm2 := by
  intro d
  induction d with
  | zero =>
    intro j n N N2 Mc Mm h hi hj hN hN2 hc hn he
    obtain ⟨N, rfl⟩ : ∃ k, N = k + 1 := ⟨N - 1, by omega⟩
    obtain ⟨N2, rfl⟩ : ∃ k, N2 = k + 1 := ⟨N2 - 1, by omega⟩
    have : j = c := by omega
    subst this
    refine ⟨nI j, Mc, Mm, ?_, ?_, h⟩
    · rw [fX6_deal_h30, if_pos (nI_le (Nat.le_refl _) (by omega))]
    · rw [fX7_deal_h17]
      by_cases e : m ≤ j
      · rw [if_pos (nI_le e (by omega))]
      · have : n = 8 := by omega
        subst this
        rw [if_neg (nI_ge (by omega) (by omega)), gM0 h.2.1, bS, m_s0, hi.2.1, bS, if_pos (by decide)]
  | succ d ih =>
    intro j n N N2 Mc Mm h hi hj hN hN2 hc hn he
    obtain ⟨N, rfl⟩ : ∃ k, N = k + 1 := ⟨N - 1, by omega⟩
    obtain ⟨N2, rfl⟩ : ∃ k, N2 = k + 1 := ⟨N2 - 1, by omega⟩
    obtain ⟨Mc1, Mm1, a1, a2, a3, a4⟩ := draw_sim h hi (by omega)
    obtain ⟨w, Mc2, Mm2, b1, b2, b3⟩ := ih (j + 1) (n + 1) N N2 Mc1 Mm1 a3 a4 (by omega) (by omega) (by omega) hc (by omega) (by omega)
    refine ⟨w, Mc2, Mm2, ?_, ?_, b3⟩
    · rw [fX6_deal_h30, if_neg (nI_ge (show j < c by omega) (by omega)), o_now h.1, bS, rm_cV r82, a1, bS, nI_1]
      exact b1
    · rw [a2 N2 m j (by omega) (by omega)]
      exact b2
theorem i_min : ∀ n, n ≤ 8 → ∀ m, m ≤ 8 → (if (8 : Int32) - nI n < nI m then (8 : Int32) - nI n else nI m) = nI (min m (8 - n)) := by decide +kernel
theorem op_deal : opS1 Sim fX6_deal fX7_deal := by
  intro Mc Mm h x
  obtain ⟨pc, pm, _, ag, ⟨n, hi⟩, _⟩ := id h
  have hn := hi.1
  have k0 : rK Mc 82 0 = nI n := (ag 0 (by decide)).symm.trans hi.2.1
  by_cases h1 : 1 ≤ x ∧ x ≤ 8
  · obtain ⟨m, _, hm, rfl⟩ := rg_in (lo := 1) (hi := 8) rfl rfl (by decide) (by decide) h1
    obtain ⟨w, Mc2, Mm2, b1, b2, b3⟩ := deal_sim (m := m) (c := min m (8 - n)) (by omega) (min m (8 - n)) 0 n 4000 4000 Mc Mm h hi (by omega) (by omega) (by omega) (by omega) (by omega) (by omega)
    rw [nI_0] at b1 b2
    refine ⟨w, Mc2, Mm2, ?_, ?_, b3⟩
    · unfold fX6_deal
      rw [c_within, bS, if_pos h1, if_neg i_10, o_now pc, bS, rm_i5 r82, k0, bS, i_min n hn m (by omega)]
      exact b1
    · unfold fX7_deal
      rw [m_isInL (nI m) 1 8 1 8 (by decide) (by decide), bS, if_pos h1, if_neg i_10]
      exact b2
  · refine ⟨-1000000001, Mc, Mm, ?_, ?_, h⟩
    · unfold fX6_deal
      rw [c_within, bS, if_neg h1, if_pos rfl]
    · unfold fX7_deal
      rw [m_isInL x 1 8 1 8 (by decide) (by decide), bS, if_neg h1, if_pos rfl]
end
