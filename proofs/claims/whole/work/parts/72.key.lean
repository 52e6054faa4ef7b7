/-! the word that a text is for -/
def kc (key i : Nat) : Nat := ([112, 97, 99, 101, 106, 111, 105, 110, 119, 105, 110, 100] : List Nat).getD (4 * key + i) 0
theorem ch_kw : ∀ key, key < 3 → ∀ i, i < 4 → chA 0 ((4 * nI key) + nI i) = some (nI (kc key i)) := by decide +kernel
theorem kc_lt : ∀ key, key < 3 → ∀ i, i < 4 → kc key i < 128 := by decide +kernel
abbrev mtS (B : Nat → Nat) (st key : Nat) : Prop := B st = kc key 0 ∧ B (st + 1) = kc key 1 ∧ B (st + 2) = kc key 2 ∧ B (st + 3) = kc key 3
def kyS (B : Nat → Nat) (st : Nat) : Int32 := if mtS B st 0 then 0 else if mtS B st 1 then 1 else if mtS B st 2 then 2 else -1
section
variable {B : Nat → Nat} {len key c base : Nat} {Mc0 Mm0 Mc Mm Mc' Mm' M : ctM} {st en m o t : Nat}
theorem c_kwStep (tb : TB B len Mc Mm) (p : PC Mc) (h2 : Mc.1 4 2 = nI st) (hl : st + 4 ≤ len) (hb : ∀ i, st ≤ i → i < st + 4 → B i < 128) (hk : key < 3) {i N : Nat} (hi : i < 4) {x : Int32} {k2 : Nat → Int32 → ctM → Option (Int32 × ctM)} : fX5_keyOfWord_h24 k2 (N + 1) 4 (nI key) x (nI i) Mc = fX5_keyOfWord_h24 k2 N 4 (nI key) (x + (if B (st + i) = kc key i then 1 else 0)) (nI (i + 1)) Mc := by
  have l := tb.1
  rw [fX5_keyOfWord_h24, if_neg (show ¬ (4 : Int32) ≤ nI i from nI_ge (b := 4) hi (by decide)), t_by p, bS, t_g, bS, h2, nI_add, t_b (by omega), bS, (tb.2.2.2 (st + i) (by omega)).2.2, sx_lo _ (hb _ (by omega) (by omega)), ch_kw key hk i hi, bS]
  unfold fX5_keyOfWord_b59
  rw [nI_1]
  have e : nI (B (st + i)) = nI (kc key i) ↔ B (st + i) = kc key i := nI_eq (by have := hb (st + i) (by omega) (by omega); omega) (by have := kc_lt key hk i hi; omega)
  by_cases q : B (st + i) = kc key i
  · rw [if_pos (e.mpr q), if_pos q]
  · rw [if_neg (mt e.mp q), if_neg q]
theorem c_kwAll (tb : TB B len Mc Mm) (p : PC Mc) (h2 : Mc.1 4 2 = nI st) (hl : st + 4 ≤ len) (hb : ∀ i, st ≤ i → i < st + 4 → B i < 128) (hk : key < 3) {N : Nat} (hN : 4 < N) {k2 : Nat → Int32 → ctM → Option (Int32 × ctM)} : fX5_keyOfWord_h24 k2 N 4 (nI key) 0 0 Mc = if mtS B st key then some (nI key, Mc) else k2 4 (nI (key + 1)) Mc := by
  obtain ⟨N, rfl⟩ : ∃ k, N = k + 5 := ⟨N - 5, by omega⟩
  have e0 : fX5_keyOfWord_h24 k2 (N + 5) 4 (nI key) 0 0 Mc = fX5_keyOfWord_h24 k2 (N + 1) 4 (nI key) (0 + (if B (st + 0) = kc key 0 then 1 else 0) + (if B (st + 1) = kc key 1 then 1 else 0) + (if B (st + 2) = kc key 2 then 1 else 0) + (if B (st + 3) = kc key 3 then 1 else 0)) (nI 4) Mc := by
    rw [show fX5_keyOfWord_h24 k2 (N + 5) 4 (nI key) 0 0 Mc = fX5_keyOfWord_h24 k2 (N + 5) 4 (nI key) 0 (nI 0) Mc by rw [nI_0], show N + 5 = N + 4 + 1 from rfl, c_kwStep tb p h2 hl hb hk (by decide), show N + 4 = N + 3 + 1 from rfl, c_kwStep tb p h2 hl hb hk (by decide), show N + 3 = N + 2 + 1 from rfl, c_kwStep tb p h2 hl hb hk (by decide), show N + 2 = N + 1 + 1 from rfl, c_kwStep tb p h2 hl hb hk (by decide)]
  rw [e0, fX5_keyOfWord_h24, if_pos (by decide), nI_1, Nat.add_zero]
  by_cases q0 : B st = kc key 0
  · by_cases q1 : B (st + 1) = kc key 1
    · by_cases q2 : B (st + 2) = kc key 2
      · by_cases q3 : B (st + 3) = kc key 3
        · rw [if_pos q0, if_pos q1, if_pos q2, if_pos q3, if_pos (by decide), if_pos ⟨q0, q1, q2, q3⟩]
        · rw [if_pos q0, if_pos q1, if_pos q2, if_neg q3, if_neg (by decide), if_neg (fun z => q3 z.2.2.2)]
      · rw [if_pos q0, if_pos q1, if_neg q2, if_neg (fun z : mtS B st key => q2 z.2.2.1)]
        by_cases q3 : B (st + 3) = kc key 3
        · rw [if_pos q3, if_neg (by decide)]
        · rw [if_neg q3, if_neg (by decide)]
    · rw [if_pos q0, if_neg q1, if_neg (fun z : mtS B st key => q1 z.2.1)]
      by_cases q2 : B (st + 2) = kc key 2
      · by_cases q3 : B (st + 3) = kc key 3
        · rw [if_pos q2, if_pos q3, if_neg (by decide)]
        · rw [if_pos q2, if_neg q3, if_neg (by decide)]
      · by_cases q3 : B (st + 3) = kc key 3
        · rw [if_neg q2, if_pos q3, if_neg (by decide)]
        · rw [if_neg q2, if_neg q3, if_neg (by decide)]
  · rw [if_neg q0, if_neg (fun z : mtS B st key => q0 z.1)]
    by_cases q1 : B (st + 1) = kc key 1
    · by_cases q2 : B (st + 2) = kc key 2
      · by_cases q3 : B (st + 3) = kc key 3
        · rw [if_pos q1, if_pos q2, if_pos q3, if_neg (by decide)]
        · rw [if_pos q1, if_pos q2, if_neg q3, if_neg (by decide)]
      · by_cases q3 : B (st + 3) = kc key 3
        · rw [if_pos q1, if_neg q2, if_pos q3, if_neg (by decide)]
        · rw [if_pos q1, if_neg q2, if_neg q3, if_neg (by decide)]
    · by_cases q2 : B (st + 2) = kc key 2
      · by_cases q3 : B (st + 3) = kc key 3
        · rw [if_neg q1, if_pos q2, if_pos q3, if_neg (by decide)]
        · rw [if_neg q1, if_pos q2, if_neg q3, if_neg (by decide)]
      · by_cases q3 : B (st + 3) = kc key 3
        · rw [if_neg q1, if_neg q2, if_pos q3, if_neg (by decide)]
        · rw [if_neg q1, if_neg q2, if_neg q3, if_neg (by decide)]
theorem c_keyOf (tb : TB B len Mc Mm) (p : PC Mc) (h2 : Mc.1 4 2 = nI st) (h3 : Mc.1 4 3 = nI en) (hse : st < en) (hel : en ≤ len) (hb : ∀ i, st ≤ i → i < en → B i < 128) : fX5_keyOfWord 4 Mc = some (if en - st = 4 then kyS B st else -1, Mc) := by
  have l := tb.1
  have go : ∀ N, 4 < N → fX5_keyOfWord_h2 N 4 0 Mc = some (if en - st = 4 then kyS B st else -1, Mc) := by
    intro N hN
    obtain ⟨N, rfl⟩ : ∃ k, N = k + 4 := ⟨N - 4, by omega⟩
    by_cases q : en - st = 4
    · have st1 : ∀ (key N : Nat), key < 3 → fX5_keyOfWord_h2 (N + 1) 4 (nI key) Mc = if mtS B st key then some (nI key, Mc) else fX5_keyOfWord_h2 N 4 (nI (key + 1)) Mc := by
        intro key N hk
        rw [fX5_keyOfWord_h2, if_neg (show ¬ (3 : Int32) ≤ nI key from nI_ge (b := 3) hk (by decide)), t_g, bS, t_g, bS, h3, h2, i_sub (by omega), q, if_pos (show nI 4 = 4 from rfl), c_kwAll tb p h2 (by omega) (fun i i1 i2 => hb i i1 (by omega)) hk (by decide)]
      rw [show fX5_keyOfWord_h2 (N + 4) 4 0 Mc = fX5_keyOfWord_h2 (N + 4) 4 (nI 0) Mc by rw [nI_0], show N + 4 = N + 3 + 1 from rfl, st1 0 _ (by decide), show N + 3 = N + 2 + 1 from rfl, st1 (0 + 1) _ (by decide), show N + 2 = N + 1 + 1 from rfl, st1 (0 + 1 + 1) _ (by decide), fX5_keyOfWord_h2, if_pos (show (3 : Int32) ≤ nI (0 + 1 + 1 + 1) by decide), if_pos q]
      unfold kyS
      by_cases m0 : mtS B st 0
      · rw [if_pos m0, if_pos m0]; rfl
      rw [if_neg m0, if_neg m0]
      by_cases m1 : mtS B st (0 + 1)
      · rw [if_pos m1, if_pos m1]; rfl
      rw [if_neg m1, if_neg m1]
      by_cases m2 : mtS B st (0 + 1 + 1)
      · rw [if_pos m2, if_pos m2]; rfl
      rw [if_neg m2, if_neg m2]
    · rw [show N + 4 = N + 3 + 1 from rfl, fX5_keyOfWord_h2, if_neg (by decide), t_g, bS, t_g, bS, h3, h2, i_sub (by omega), if_neg (show ¬ nI (en - st) = 4 from fun z => q ((nI_eq (b := 4) (by omega) (by decide)).mp z)), if_neg q]
  exact go 4000 (by decide)
theorem m_isWord (tb : TB B len Mc Mm) (p : PM Mm) (h19 : Mm.1 0 19 = nI st) (h20 : Mm.1 0 20 = nI en) (h21 : Mm.1 0 21 = 1) (hse : st < en) (hel : en ≤ len) (hb : ∀ i, st ≤ i → i < en → B i < 128) {w0 w1 w2 w3 : Nat} (hw : w0 < 128 ∧ w1 < 128 ∧ w2 < 128 ∧ w3 < 128 ∧ 0 < w3) : fX7_isWordAt 0 (nI w0) (nI w1) (nI w2) (nI w3) Mm = some (if en - st = 4 ∧ (B st = w0 ∧ B (st + 1) = w1 ∧ B (st + 2) = w2 ∧ B (st + 3) = w3) then 1 else 0, Mm) := by
  have l := tb.1
  have n3 : ¬ nI w3 = 0 := nI_ne0 hw.2.2.2.2 (by omega)
  unfold fX7_isWordAt
  rw [if_neg n3]
  unfold fX7_isWordAt_b10 fX7_isWordAt_b98
  rw [m_g0, bS, h21, if_pos rfl, m_g0, bS, m_g0, bS, h20, h19, i_sub (by omega)]
  by_cases q : en - st = 4
  · rw [if_pos (show nI (en - st) = 4 by rw [q]; rfl), gM17 p, bS, bS, bS, bS, bS, bS, bS, bS, m_tp (by omega), bS, (tb.2.2.2 st (by omega)).2.1, show nI st + 1 = nI (st + 1) from nI_1 st, show nI st + 2 = nI (st + 2) from nI_add st 2, show nI st + 3 = nI (st + 3) from nI_add st 3, m_tp (by omega), bS, m_tp (by omega), bS, m_tp (by omega), bS, (tb.2.2.2 (st + 1) (by omega)).2.1, (tb.2.2.2 (st + 2) (by omega)).2.1, (tb.2.2.2 (st + 3) (by omega)).2.1, if_neg n3]
    have e : ∀ i k, st ≤ i → i < en → k < 128 → (nI (B i) = nI k ↔ B i = k) := fun i k i1 i2 hk => nI_eq (by have := hb i i1 i2; omega) (by omega)
    by_cases q0 : B st = w0
    · rw [if_pos ((e st w0 (by omega) (by omega) (by omega)).mpr q0)]
      by_cases q1 : B (st + 1) = w1
      · rw [if_pos ((e (st + 1) w1 (by omega) (by omega) (by omega)).mpr q1)]
        by_cases q2 : B (st + 2) = w2
        · rw [if_pos ((e (st + 2) w2 (by omega) (by omega) (by omega)).mpr q2)]
          by_cases q3 : B (st + 3) = w3
          · rw [if_pos ((e (st + 3) w3 (by omega) (by omega) (by omega)).mpr q3), if_pos ⟨q, q0, q1, q2, q3⟩]
          · rw [if_neg (mt (e (st + 3) w3 (by omega) (by omega) (by omega)).mp q3), if_neg (fun z => q3 z.2.2.2.2)]
        · rw [if_neg (mt (e (st + 2) w2 (by omega) (by omega) (by omega)).mp q2), if_neg (fun z => q2 z.2.2.2.1)]
      · rw [if_neg (mt (e (st + 1) w1 (by omega) (by omega) (by omega)).mp q1), if_neg (fun z => q1 z.2.2.1)]
    · rw [if_neg (mt (e st w0 (by omega) (by omega) (by omega)).mp q0), if_neg (fun z => q0 z.2.1)]
  · rw [if_neg (show ¬ nI (en - st) = 4 from fun z => q ((nI_eq (b := 4) (by omega) (by decide)).mp z)), if_neg (fun z => q z.1)]
theorem m_noWord (h21 : ¬ Mm.1 0 21 = 1) {a b c d : Int32} : fX7_isWordAt 0 a b c d Mm = some (0, Mm) := by
  unfold fX7_isWordAt fX7_isWordAt_b10
  rw [m_g0, bS, if_neg h21, bS, if_neg h21]
  by_cases q : d = 0
  · rw [if_pos q]
  · rw [if_neg q]
theorem key_ok (tb : TB B len Mc Mm) (pc : PC Mc) (pm : PM Mm) (ts : TS B len Mc Mm st en) : ∃ r : Int32, (r = -1 ∨ ∃ key, key < 3 ∧ r = nI key) ∧ (if Mc.1 4 4 = -2 then fX5_keyOfWord 4 Mc else some (-1, Mc)) = some (r, Mc) ∧ fX7_key 0 Mm = some (r, Mm) ∧ (¬ r = -1 → Mc.1 4 4 = -2 ∧ st + 4 ≤ en) := by
  have hb : ∀ i, i < len → B i < 256 := fun i hi => (tb.2.2.2 i hi).1
  have no : ¬ Mc.1 4 4 = -2 → ¬ Mm.1 0 21 = 1 → ∃ r : Int32, (r = -1 ∨ ∃ key, key < 3 ∧ r = nI key) ∧ (if Mc.1 4 4 = -2 then fX5_keyOfWord 4 Mc else some (-1, Mc)) = some (r, Mc) ∧ fX7_key 0 Mm = some (r, Mm) ∧ (¬ r = -1 → Mc.1 4 4 = -2 ∧ st + 4 ≤ en) := by
    intro n1 n2
    refine ⟨-1, Or.inl rfl, by rw [if_neg n1], ?_, fun z => absurd rfl z⟩
    unfold fX7_key
    rw [m_cV, m_noWord n2, bS, if_pos rfl, m_cV, m_noWord n2, bS, if_pos rfl, m_cV, m_noWord n2, bS, if_pos rfl]
  rcases ts.2.2.2.2 with ⟨_, _, e1, e2⟩ | ⟨a1, a2, e1, e2, _, e4⟩ | ⟨a1, _, e1, _, e2, _⟩ | ⟨a1, _, e1, _, e2⟩ | ⟨_, _, e1, e2⟩ | ⟨a1, _, e1, e2, e3, n1, n2⟩
  · exact no (by rw [e1]; decide) (by rw [e2]; decide)
  · have b128 : ∀ i, st ≤ i → i < en → B i < 128 := fun i i1 i2 => by have := e4 i i1 i2; omega
    have ky := c_keyOf tb pc ts.1 ts.2.1 a1 a2 b128
    have w0 := m_isWord (w0 := 112) (w1 := 97) (w2 := 99) (w3 := 101) tb pm ts.2.2.1 ts.2.2.2.1 e2 a1 a2 b128 (by decide)
    have w1 := m_isWord (w0 := 106) (w1 := 111) (w2 := 105) (w3 := 110) tb pm ts.2.2.1 ts.2.2.2.1 e2 a1 a2 b128 (by decide)
    have w2 := m_isWord (w0 := 119) (w1 := 105) (w2 := 110) (w3 := 100) tb pm ts.2.2.1 ts.2.2.2.1 e2 a1 a2 b128 (by decide)
    have k0 : mtS B st 0 ↔ (B st = 112 ∧ B (st + 1) = 97 ∧ B (st + 2) = 99 ∧ B (st + 3) = 101) := Iff.rfl
    have k1 : mtS B st 1 ↔ (B st = 106 ∧ B (st + 1) = 111 ∧ B (st + 2) = 105 ∧ B (st + 3) = 110) := Iff.rfl
    have k2 : mtS B st 2 ↔ (B st = 119 ∧ B (st + 1) = 105 ∧ B (st + 2) = 110 ∧ B (st + 3) = 100) := Iff.rfl
    have mk : fX7_key 0 Mm = some (if en - st = 4 then kyS B st else -1, Mm) := by
      have f0 : fX7_isWordAt 0 112 97 99 101 Mm = _ := w0
      have f1 : fX7_isWordAt 0 106 111 105 110 Mm = _ := w1
      have f2 : fX7_isWordAt 0 119 105 110 100 Mm = _ := w2
      unfold fX7_key
      simp only [m_cV, f0, f1, f2, bS]
      by_cases q : en - st = 4
      · rw [if_pos q]
        unfold kyS
        by_cases m0 : mtS B st 0
        · rw [if_pos (And.intro q (k0.mp m0)), if_neg i_10, if_pos m0]
        rw [if_neg (fun z : en - st = 4 ∧ _ => m0 (k0.mpr z.2)), if_pos rfl, if_neg m0]
        by_cases m1 : mtS B st 1
        · rw [if_pos (And.intro q (k1.mp m1)), if_neg i_10, if_pos m1]
        rw [if_neg (fun z : en - st = 4 ∧ _ => m1 (k1.mpr z.2)), if_pos rfl, if_neg m1]
        by_cases m2 : mtS B st 2
        · rw [if_pos (And.intro q (k2.mp m2)), if_neg i_10, if_pos m2]
        rw [if_neg (fun z : en - st = 4 ∧ _ => m2 (k2.mpr z.2)), if_pos rfl, if_neg m2]
      · rw [if_neg (fun z : en - st = 4 ∧ _ => q z.1), if_pos rfl, if_neg (fun z : en - st = 4 ∧ _ => q z.1), if_pos rfl, if_neg (fun z : en - st = 4 ∧ _ => q z.1), if_pos rfl, if_neg q]
    refine ⟨if en - st = 4 then kyS B st else -1, ?_, by rw [if_pos e1]; exact ky, mk, fun z => ⟨e1, ?_⟩⟩
    · by_cases q : en - st = 4
      · rw [if_pos q]
        unfold kyS
        (repeat' split)
        · exact Or.inr ⟨0, by decide, rfl⟩
        · exact Or.inr ⟨1, by decide, rfl⟩
        · exact Or.inr ⟨2, by decide, rfl⟩
        · exact Or.inl rfl
      · rw [if_neg q]; exact Or.inl rfl
    · by_cases q : en - st = 4
      · omega
      · rw [if_neg q] at z; exact absurd rfl z
  · exact no (by rw [e1]; decide) (by rw [e2]; decide)
  · exact no (by rw [e1]; decide) (by rw [e2]; decide)
  · exact no (by rw [e1]; decide) (by rw [e2]; decide)
  · exact no (by rw [e1]; exact (nb_ne (B st) (hb st a1)).2.1) (by rw [e2]; decide)
end
