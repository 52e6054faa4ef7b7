/-! arguments -/
def okI (x : Int32) (a b : Int32) : Prop := a ≤ x ∧ x ≤ b
theorem b01 {c : Prop} [Decidable c] : (if c then (1 : Int32) else 0) = 0 ∨ (if c then (1 : Int32) else 0) = 1 := by
  by_cases h : c
  · exact Or.inr (if_pos h)
  · exact Or.inl (if_neg h)
theorem b0 {c : Prop} [Decidable c] : ((if c then (1 : Int32) else 0) = 0) ↔ ¬ c := by
  by_cases h : c
  · rw [if_pos h]; exact ⟨fun z => absurd z (by decide), fun z => absurd h z⟩
  · rw [if_neg h]; exact ⟨fun _ => h, fun _ => rfl⟩
theorem rg_in {x a b : Int32} {lo hi : Nat} (ha : a = nI lo) (hb : b = nI hi) (hh : hi < 2 ^ 31) (hl : lo < 2 ^ 31) (h : a ≤ x ∧ x ≤ b) : rg x lo (hi + 1) := by
  obtain ⟨h1, h2⟩ := h
  subst ha; subst hb
  rw [Int32.le_iff_toInt_le, nI_toInt hl] at h1
  rw [Int32.le_iff_toInt_le, nI_toInt hh] at h2
  refine ⟨x.toInt.toNat, by omega, by omega, ?_⟩
  apply Int32.toInt_inj.mp
  rw [nI_toInt (by omega)]
  omega
theorem rg_le {x : Int32} {lo hi : Nat} (h : rg x lo (hi + 1)) (hh : hi < 2 ^ 31) : nI lo ≤ x ∧ x ≤ nI hi := by
  obtain ⟨j, h1, h2, rfl⟩ := h
  exact ⟨nI_le h1 (by omega), nI_le (by omega) hh⟩
theorem nI_m1 : ∀ n, n ≤ 120 → 1 ≤ n → nI n - 1 = nI (n - 1) := by decide +kernel
/-- an index below a number of things -/
theorem ix_iff {x : Int32} {n : Nat} (hn : n ≤ 120) : (0 ≤ x ∧ x ≤ nI n - 1) ↔ ∃ f, f < n ∧ x = nI f := by
  rcases Nat.eq_zero_or_pos n with h | h
  · subst h
    constructor
    · rintro ⟨h1, h2⟩
      have e : nI 0 - 1 = (-1 : Int32) := by decide
      rw [e] at h2
      rw [Int32.le_iff_toInt_le, show (0 : Int32).toInt = 0 from rfl] at h1
      rw [Int32.le_iff_toInt_le, show (-1 : Int32).toInt = -1 from by decide] at h2
      omega
    · rintro ⟨f, h1, _⟩; omega
  · rw [nI_m1 n hn h]
    constructor
    · intro hh
      obtain ⟨j, _, h2, h3⟩ := rg_in (lo := 0) (hi := n - 1) nI_0.symm rfl (by omega) (by decide) hh
      exact ⟨j, by omega, h3⟩
    · rintro ⟨f, h1, rfl⟩
      exact ⟨nI_pos' (by omega), nI_le (by omega) (by omega)⟩
section
variable {M : ctM} {n : Nat}
theorem o_cV {α : Type} {o : Option α} : cV kdC 6 0 o = o := cV_at rfl
theorem o_now (h : PC M) : gP kdC 6 1 0 M = some 82 := (gP_at rfl).trans h.1.2.1
theorem o_tho (h : PC M) : gP kdC 6 2 0 M = some 95 := (gP_at rfl).trans h.1.2.2.1
theorem o_ima (h : PC M) : gP kdC 6 3 0 M = some 108 := (gP_at rfl).trans h.1.2.2.2.1
theorem o_laws (h : PC M) : gP kdC 6 0 0 M = some 11 := (gP_at rfl).trans h.1.1
theorem o_sheets (h : PC M) : gP kdC 6 5 0 M = some 1 := (gP_at rfl).trans h.1.2.2.2.2.1
theorem o_slots (h : PC M) : gP kdC 6 6 0 M = some 2 := (gP_at rfl).trans h.1.2.2.2.2.2.1
theorem o_wait (h : PC M) : gP kdC 6 7 0 M = some 3 := (gP_at rfl).trans h.1.2.2.2.2.2.2.1
theorem o_tape (h : PC M) : gP kdC 6 9 0 M = some 4 := (gP_at rfl).trans h.1.2.2.2.2.2.2.2.1
theorem o_g {k : Nat} : gI kdC 6 k 0 M = some (M.1 0 k) := gI_at rfl
theorem o_p {k : Nat} {v : Int32} : pI kdC 6 k 0 v M = some (ctI M 0 k v) := pI_at rfl
theorem r82 : isRm 82 := Or.inl rfl
theorem r95 : isRm 95 := Or.inr (Or.inl rfl)
theorem r108 : isRm 108 := Or.inr (Or.inr rfl)
theorem c_isKind (x : Int32) : fX6_isKind x M = some (if 0 ≤ x ∧ x ≤ 5 then 1 else 0, M) := by
  unfold fX6_isKind
  rw [c_within, Option.bind_some, if_pos b01]
theorem c_isPhase (x : Int32) : fX6_isPhase x M = some (if 0 ≤ x ∧ x ≤ 119 then 1 else 0, M) := by
  unfold fX6_isPhase
  rw [c_within, Option.bind_some, if_pos b01]
theorem c_isSheet (x : Int32) : fX6_isSheet x M = some (if 0 ≤ x ∧ x ≤ 3 then 1 else 0, M) := by
  unfold fX6_isSheet
  rw [c_within, Option.bind_some, if_pos b01]
theorem c_isSlot (x : Int32) : fX6_isSlot x M = some (if 0 ≤ x ∧ x ≤ 4 then 1 else 0, M) := by
  unfold fX6_isSlot
  rw [c_within, Option.bind_some, if_pos b01]
theorem c_isFlame (h : PC M) (h0 : rK M 82 0 = nI n) (x : Int32) : fX6_isFlame 0 x M = some (if 0 ≤ x ∧ x ≤ nI n - 1 then 1 else 0, M) := by
  unfold fX6_isFlame
  rw [o_now h, Option.bind_some, rm_i5 r82, h0, Option.bind_some, c_within, Option.bind_some, if_pos b01]
theorem m_isFlame (h : PM M) (h0 : M.1 1 0 = nI n) (x : Int32) : fX7_isFlame 0 x M = some (if 0 ≤ x ∧ x ≤ nI n - 1 then 1 else 0, M) := by
  unfold fX7_isFlame
  rw [gM0 h, Option.bind_some, m_s0, h0, Option.bind_some, m_isInL x 0 (nI n - 1).toInt64 0 (nI n - 1) (by decide) rfl, Option.bind_some, if_pos b01]
theorem m_isText (h : PM M) (h0 : M.1 1 1 = nI n) (x : Int32) : fX7_isText 0 x M = some (if 0 ≤ x ∧ x ≤ nI n - 1 then 1 else 0, M) := by
  unfold fX7_isText
  rw [gM0 h, Option.bind_some, m_s1, h0, Option.bind_some, m_isInL x 0 (nI n - 1).toInt64 0 (nI n - 1) (by decide) rfl, Option.bind_some, if_pos b01]
theorem m_isSheet (x : Int32) : fX7_isSheet x M = some (if 0 ≤ x ∧ x ≤ 3 then 1 else 0, M) := by
  unfold fX7_isSheet
  rw [m_isInL x 0 3 0 3 (by decide) (by decide), Option.bind_some, if_pos b01]
theorem m_isSlot (x : Int32) : fX7_isSlot x M = some (if 0 ≤ x ∧ x ≤ 4 then 1 else 0, M) := by
  unfold fX7_isSlot
  rw [m_isInL x 0 4 0 4 (by decide) (by decide), Option.bind_some, if_pos b01]
theorem m_isBound (x : Int32) : fX7_isBound x M = some (if 0 ≤ x ∧ x ≤ 119 then 1 else 0, M) := by
  unfold fX7_isBound
  rw [m_isInL x 0 119 0 119 (by decide) (by decide), Option.bind_some, if_pos b01]
theorem m_becomes (h : PM M) {j : Nat} (hj : j < 3070) (v : Int32) : fX7_becomes 0 (nI j) v M = some (M.1 1 j, ctI M 1 j v) := by
  unfold fX7_becomes
  rw [gM0 h, Option.bind_some, m_s hj, Option.bind_some, Option.bind_some, m_ss hj, Option.bind_some]
/-! places -/
def okPl (x : Int32) : Prop := 0 ≤ x ∧ x / 100 ≤ 29 ∧ x % 100 ≤ 29
theorem pl_rg {x : Int32} (h : okPl x) : rg (x / 100) 0 30 ∧ rg (x % 100) 0 30 := by
  obtain ⟨h1, h2, h3⟩ := h
  have h100 : (100 : Int32).toInt = 100 := by decide
  rw [Int32.le_iff_toInt_le, show (0 : Int32).toInt = 0 from rfl] at h1
  have d : (x / 100).toInt = x.toInt.tdiv 100 := by rw [Int32.toInt_div_of_ne_right _ _ (by decide), h100]
  have m : (x % 100).toInt = x.toInt.tmod 100 := by rw [Int32.toInt_mod, h100]
  have d0 : 0 ≤ x.toInt.tdiv 100 := Int.tdiv_nonneg h1 (by decide)
  have m0 : 0 ≤ x.toInt.tmod 100 := Int.tmod_nonneg _ h1
  refine ⟨rg_in (a := 0) (b := 29) (lo := 0) (hi := 29) rfl rfl (by decide) (by decide) ⟨?_, h2⟩, rg_in (a := 0) (b := 29) (lo := 0) (hi := 29) rfl rfl (by decide) (by decide) ⟨?_, h3⟩⟩
  · rw [Int32.le_iff_toInt_le, d]; exact d0
  · rw [Int32.le_iff_toInt_le, m]; exact m0
theorem c_isPlaceT {x : Int32} (h : okPl x) : fX6_isPlace x M = some (1, M) := by
  obtain ⟨r1, r2⟩ := pl_rg h
  have e1 := rg_le r1 (by decide)
  have e2 := rg_le r2 (by decide)
  unfold fX6_isPlace fX6_isOnBoard
  rw [if_neg (Int32.not_lt.mpr h.1), c_within, Option.bind_some, if_neg (by rw [b0]; exact fun z => z e1), c_within, Option.bind_some, if_neg (by rw [b0]; exact fun z => z e2), Option.bind_some, if_neg (show ¬ (1 : Int32) = 0 by decide)]
theorem c_isPlaceF {x : Int32} (h : ¬ okPl x) : fX6_isPlace x M = some (0, M) := by
  unfold fX6_isPlace fX6_isOnBoard
  by_cases h1 : x < 0
  · rw [if_pos h1]
  · rw [if_neg h1, c_within, Option.bind_some]
    by_cases h2 : 0 ≤ x / 100 ∧ x / 100 ≤ 29
    · rw [if_neg (by rw [b0]; exact fun z => z h2), c_within, Option.bind_some]
      by_cases h3 : 0 ≤ x % 100 ∧ x % 100 ≤ 29
      · exact absurd ⟨Int32.not_lt.mp h1, h2.2, h3.2⟩ h
      · rw [if_pos (b0.mpr h3), Option.bind_some, if_pos rfl]
    · rw [if_pos (b0.mpr h2), Option.bind_some, if_pos rfl]
theorem i_30 (x : Int32) : 30 ≤ x ↔ ¬ x ≤ 29 := by
  rw [Int32.le_iff_toInt_le, Int32.le_iff_toInt_le, show (30 : Int32).toInt = 30 from by decide, show (29 : Int32).toInt = 29 from by decide]
  omega
theorem m_isPlaceT {x : Int32} (h : okPl x) : fX7_isPlace x M = some (1, M) := by
  unfold fX7_isPlace
  rw [if_neg (Int32.not_lt.mpr h.1), if_neg (by rw [i_30]; exact fun z => z h.2.1), if_neg (by rw [i_30]; exact fun z => z h.2.2)]
theorem m_isPlaceF {x : Int32} (h : ¬ okPl x) : fX7_isPlace x M = some (0, M) := by
  unfold fX7_isPlace
  by_cases h1 : x < 0
  · rw [if_pos h1]
  · rw [if_neg h1]
    by_cases h2 : x / 100 ≤ 29
    · rw [if_neg (by rw [i_30]; exact fun z => z h2)]
      by_cases h3 : x % 100 ≤ 29
      · exact absurd ⟨Int32.not_lt.mp h1, h2, h3⟩ h
      · rw [if_pos (by rw [i_30]; exact h3)]
    · rw [if_pos (by rw [i_30]; exact h2)]
end
/-! frames of the model -/
def WkM (M : ctM) (S : Kv) (M' : ctM) : Prop := M'.2 = M.2 ∧ M'.1 1 = S ∧ (∀ b, 2 ≤ b → b ≠ 3 → b ≠ 12 → b ≠ 13 → b ≠ 14 → b ≠ 16 → b ≠ 17 → b ≠ 18 → b ≠ 20 → M'.1 b = M.1 b) ∧ ∀ k, k ≠ 14 → k ≠ 15 → M'.1 0 k = M.1 0 k
section
variable {Mc Mm Mc' Mm' : ctM} {n : Nat}
theorem WkM.rf : WkM Mm (Mm.1 1) Mm := ⟨rfl, rfl, fun _ _ _ _ _ _ _ _ _ _ => rfl, fun _ _ _ => rfl⟩
theorem WkM.pm {S : Kv} (h : WkM Mm S Mm') (p : PM Mm) : PM Mm' := fun k hk => by rw [h.1]; exact p k hk
theorem WkM.put {S : Kv} (h : WkM Mm S Mm') (j : Nat) (v : Int32) : WkM Mm (va_up S j v) (ctI Mm' 1 j v) := ⟨h.1, by rw [ctI_1, h.2.1], fun b a1 a2 a3 a4 a5 a6 a7 a8 a9 => (ctI_ne (by omega)).trans (h.2.2.1 b a1 a2 a3 a4 a5 a6 a7 a8 a9), fun k a1 a2 => by rw [ctI_ne (by decide)]; exact h.2.2.2 k a1 a2⟩
theorem WkM.tk {S K : Kv} {M2 : ctM} (h : WkM Mm S Mm') (t : TkM Mm' K M2) : WkM Mm K M2 := ⟨t.1.trans h.1, t.2.1, fun b a1 a2 a3 a4 a5 a6 a7 a8 a9 => (t.2.2 b (by omega) a3 a6 a7).trans (h.2.2.1 b a1 a2 a3 a4 a5 a6 a7 a8 a9), fun k a1 a2 => by rw [t.2.2 0 (by decide) (by decide) (by decide) (by decide)]; exact h.2.2.2 k a1 a2⟩
theorem WkM.fd {S : Kv} {M2 : ctM} (h : WkM Mm S Mm') (t : FdM Mm' M2) : WkM Mm S M2 := ⟨t.1.trans h.1, t.s.trans h.2.1, fun b a1 a2 a3 a4 a5 a6 a7 a8 a9 => (t.2.1 b (by omega) a4).trans (h.2.2.1 b a1 a2 a3 a4 a5 a6 a7 a8 a9), fun k a1 a2 => (t.2.2 k a1 a2).trans (h.2.2.2 k a1 a2)⟩
theorem WkM.sc {S : Kv} {M2 : ctM} (h : WkM Mm S Mm') (t : ScrM Mm' M2) : WkM Mm S M2 := ⟨t.1.trans h.1, t.s.trans h.2.1, fun b a1 a2 a3 a4 a5 a6 a7 a8 a9 => (t.2 b a6 a7).trans (h.2.2.1 b a1 a2 a3 a4 a5 a6 a7 a8 a9), fun k a1 a2 => by rw [t.2 0 (by decide) (by decide)]; exact h.2.2.2 k a1 a2⟩
/-- behind a change of the flames -/
theorem Sim.put {S K : Kv} (h : Sim Mc Mm) (c : TkC 82 Mc K Mc') (m : WkM Mm S Mm') (ag : Ag S K) (inv : Inv S n) (tx : ∀ j, j = 1 ∨ 70 ≤ j → S j = Mm.1 1 j) (sy : Sy S) : Sim Mc' Mm' :=
  h.upd c.1 m.1 (fun b h1 h2 => by
    rcases h2 with e | e | e
    · exact c.2.2.2 b h1 (Or.inl e)
    · exact c.2.2.2 b h1 (Or.inr (by omega))
    · subst e; exact c.2.2.1) m.2.2.1 m.2.2.2 (by rw [m.2.1, c.2.1]; exact ag) ⟨n, by rw [m.2.1]; exact inv⟩ (fun j hj => by rw [m.2.1]; exact tx j hj) (by rw [m.2.1]; exact sy)
/-- behind what was only thought -/
theorem Sim.think {S : Kv} (h : Sim Mc Mm) (c2 : Mc'.2 = Mc.2) (cc : ∀ b, ¬ isGv b → b < 95 ∨ 108 ≤ b → Mc'.1 b = Mc.1 b) (m : WkM Mm S Mm') (ag : ∀ j, S j = Mm.1 1 j) : Sim Mc' Mm' := by
  have hs : S = Mm.1 1 := funext ag
  subst hs
  refine h.upd c2 m.1 (fun b h1 h2 => cc b h1 (by omega)) m.2.2.1 m.2.2.2 ?_ (by rw [m.2.1]; exact h.2.2.2.2.1) (fun j hj => by rw [m.2.1]) (by rw [m.2.1]; exact h.sy)
  rw [m.2.1]
  have e : rK Mc' 82 = rK Mc 82 := rK_congr (fun k _ _ => by rw [cc 82 (by decide) (by omega)]) (fun i _ => by rw [cc (82 + 2) (by decide) (by omega)]) (fun f k _ _ => by rw [cc (82 + 5 + f) (gv_rm r82 (by omega)) (by omega)])
  rw [e]
  exact h.2.2.2.1
theorem Sim.scr {S : Kv} (h : Sim Mc Mm) (c : ScrC Mc Mc') (m : WkM Mm S Mm') (ag : ∀ j, S j = Mm.1 1 j) : Sim Mc' Mm' := h.think c.1 (fun b h1 _ => c.2 b h1) m ag
end
