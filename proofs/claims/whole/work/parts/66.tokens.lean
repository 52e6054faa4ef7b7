/-! tokens -/
def soS (b : Nat) : Int32 := if 97 ≤ b ∧ b ≤ 122 then -2 else if 48 ≤ b ∧ b ≤ 57 then -3 else nI b
def kE (B : Nat → Nat) : Nat → Nat → Nat
  | 0, s => s
  | d + 1, s => if B s = 32 then kE B d (s + 1) else s
def wE (B : Nat → Nat) (so : Int32) : Nat → Nat → Nat
  | 0, e => e
  | d + 1, e => if soS (B e) = so then wE B so d (e + 1) else e
def dgS (B : Nat → Nat) (st : Nat) : Nat → Int32
  | 0 => 0
  | k + 1 => 10 * dgS B st k + nI (B (st + k)) - 48
theorem kE_in {B : Nat → Nat} : ∀ d s, s ≤ kE B d s ∧ kE B d s ≤ s + d := by
  intro d
  induction d with
  | zero => intro s; exact ⟨Nat.le_refl _, Nat.le_refl _⟩
  | succ d ih =>
    intro s
    rw [kE]
    split
    · have := ih (s + 1); omega
    · omega
theorem wE_in {B : Nat → Nat} {so : Int32} : ∀ d e, (e ≤ wE B so d e ∧ wE B so d e ≤ e + d) ∧ ∀ i, e ≤ i → i < wE B so d e → soS (B i) = so := by
  intro d
  induction d with
  | zero => intro e; exact ⟨⟨Nat.le_refl _, Nat.le_refl _⟩, fun i h1 h2 => by unfold wE at h2; omega⟩
  | succ d ih =>
    intro e
    rw [wE]
    split
    · rename_i h
      have := ih (e + 1)
      refine ⟨by omega, fun i h1 h2 => ?_⟩
      by_cases q : i = e
      · rw [q]; exact h
      · exact this.2 i (by omega) h2
    · exact ⟨by omega, fun i h1 h2 => by omega⟩
theorem wE_st {B : Nat → Nat} {so : Int32} {d e : Nat} (hd : 0 < d) (h : soS (B e) = so) : e < wE B so d e := by
  obtain ⟨d, rfl⟩ : ∃ k, d = k + 1 := ⟨d - 1, by omega⟩
  rw [wE, if_pos h]
  have := (wE_in (B := B) (so := so) d (e + 1)).1
  omega
theorem so_cases : ∀ b, b < 256 → (soS b = -2 ↔ (97 ≤ b ∧ b ≤ 122)) ∧ (soS b = -3 ↔ (48 ≤ b ∧ b ≤ 57)) ∧ (¬ (97 ≤ b ∧ b ≤ 122) → ¬ (48 ≤ b ∧ b ≤ 57) → soS b = nI b) := by decide +kernel
theorem sx_and : ∀ b, b < 256 → sxB b &&& 255 = nI b := by decide +kernel
theorem sx_32 : ∀ b, b < 256 → (sxB b = 32 ↔ b = 32) ∧ (nI b = 32 ↔ b = 32) := by decide +kernel
theorem b_let : ∀ b, b < 256 → ((97 ≤ nI b ∧ nI b ≤ 122) ↔ (97 ≤ b ∧ b ≤ 122)) ∧ ((48 ≤ nI b ∧ nI b ≤ 57) ↔ (48 ≤ b ∧ b ≤ 57)) := by decide +kernel
def TB (B : Nat → Nat) (len : Nat) (Mc Mm : ctM) : Prop := len ≤ 96 ∧ Mc.1 4 1 = nI len ∧ Mm.1 0 18 = nI len ∧ ∀ i, i < len → B i < 256 ∧ Mm.1 15 i = nI (B i) ∧ Mc.1 5 i = sxB (B i)
/-- what going on leaves as it was -/
def TF (M M' : ctM) : Prop := M'.2 = M.2 ∧ (∀ b, b ≠ 4 → M'.1 b = M.1 b) ∧ ∀ k, k < 2 ∨ 5 ≤ k → M'.1 4 k = M.1 4 k
def TG (M M' : ctM) : Prop := M'.2 = M.2 ∧ (∀ b, b ≠ 0 → M'.1 b = M.1 b) ∧ ∀ k, k < 19 ∨ 24 ≤ k → M'.1 0 k = M.1 0 k
theorem TF.rf {M : ctM} : TF M M := ⟨rfl, fun _ _ => rfl, fun _ _ => rfl⟩
theorem TG.rf {M : ctM} : TG M M := ⟨rfl, fun _ _ => rfl, fun _ _ => rfl⟩
theorem TF.tr {A B C : ctM} (h : TF A B) (h2 : TF B C) : TF A C := ⟨h2.1.trans h.1, fun b x => (h2.2.1 b x).trans (h.2.1 b x), fun k x => (h2.2.2 k x).trans (h.2.2 k x)⟩
theorem TG.tr {A B C : ctM} (h : TG A B) (h2 : TG B C) : TG A C := ⟨h2.1.trans h.1, fun b x => (h2.2.1 b x).trans (h.2.1 b x), fun k x => (h2.2.2 k x).trans (h.2.2 k x)⟩
theorem TF.put {A B : ctM} (h : TF A B) {k : Nat} (hk : 2 ≤ k ∧ k < 5) (v : Int32) : TF A (ctI B 4 k v) := h.tr ⟨rfl, fun b x => ctI_ne x, fun j hj => by rw [ctI_1, va_up_ne' (by omega)]⟩
theorem TG.put {A B : ctM} (h : TG A B) {k : Nat} (hk : 19 ≤ k ∧ k < 24) (v : Int32) : TG A (ctI B 0 k v) := h.tr ⟨rfl, fun b x => ctI_ne x, fun j hj => by rw [ctI_1, va_up_ne' (by omega)]⟩
theorem TF.pc {A B : ctM} (h : TF A B) (p : PC A) : PC B := p.of2 h.1
theorem TG.pm {A B : ctM} (h : TG A B) (p : PM A) : PM B := fun k hk => by rw [h.1]; exact p k hk
section
variable {B : Nat → Nat} {len : Nat} {Mc Mm Mc' Mm' M : ctM}
theorem TB.c (h : TB B len Mc Mm) (f : TF Mc Mc') : TB B len Mc' Mm := ⟨h.1, (f.2.2 1 (by omega)).trans h.2.1, h.2.2.1, fun i hi => by rw [f.2.1 5 (by decide)]; exact h.2.2.2 i hi⟩
theorem TB.m (h : TB B len Mc Mm) (f : TG Mm Mm') : TB B len Mc Mm' := ⟨h.1, h.2.1, (f.2.2 18 (by omega)).trans h.2.2.1, fun i hi => by rw [f.2.1 15 (by decide)]; exact h.2.2.2 i hi⟩
theorem t_g {k : Nat} : gI kdC 5 k 4 M = some (M.1 4 k) := gI_at (show kdC 4 = 5 from rfl)
theorem t_p {k : Nat} {v : Int32} : pI kdC 5 k 4 v M = some (ctI M 4 k v) := pI_at (show kdC 4 = 5 from rfl)
theorem t_by (p : PC M) : gP kdC 5 0 4 M = some 5 := (gP_at (show kdC 4 = 5 from rfl)).trans p.1.2.2.2.2.2.2.2.2
theorem t_b {i : Nat} (hi : i < 96) : aI kdC lnC 8 5 (nI i) M = some (M.1 5 i) := aI_at (n := 96) rfl rfl hi (by decide)
theorem t_cV {α : Type} {o : Option α} : cV kdC 5 4 o = o := cV_at (show kdC 4 = 5 from rfl)
theorem m_tp {i : Nat} (hi : i < 96) : aI kdM lnM 9 15 (nI i) M = some (M.1 15 i) := aI_at (n := 96) rfl rfl hi (by decide)
theorem c_sortAt (h : TB B len Mc Mm) (p : PC Mc) {i : Nat} (hi : i < len) : fX5_sortAt 4 (nI i) Mc = some (soS (B i), Mc) := by
  obtain ⟨l, _, _, hb⟩ := h
  obtain ⟨b1, _, b3⟩ := hb i hi
  obtain ⟨s1, s2⟩ := b_let (B i) b1
  unfold fX5_sortAt soS
  rw [t_by p, bS, t_b (by omega), bS, b3, sx_and _ b1, c_within, bS]
  by_cases c1 : 97 ≤ B i ∧ B i ≤ 122
  · rw [if_pos c1, if_pos (s1.mpr c1), if_neg i_10]
  · rw [if_neg c1, if_neg (mt s1.mp c1), if_pos rfl, c_within, bS]
    by_cases c2 : 48 ≤ B i ∧ B i ≤ 57
    · rw [if_pos c2, if_pos (s2.mpr c2), if_neg i_10]
    · rw [if_neg c2, if_neg (mt s2.mp c2), if_pos rfl]
theorem m_isLetter (h : TB B len Mc Mm) (p : PM Mm) {i : Nat} (hi : i ≤ len) : fX7_isLetter 0 (nI i) Mm = some (if i < len ∧ soS (B i) = -2 then 1 else 0, Mm) := by
  obtain ⟨l, _, h18, hb⟩ := h
  unfold fX7_isLetter
  rw [m_g0, bS, h18]
  by_cases c : i < len
  · obtain ⟨b1, b2, _⟩ := hb i c
    rw [if_neg (nI_ge c (by omega)), gM17 p, bS, m_tp (by omega), bS, b2, m_isInL _ 97 122 97 122 (by decide) (by decide), bS]
    have e := (so_cases (B i) b1).1
    have s1 := (b_let (B i) b1).1
    by_cases c2 : 97 ≤ B i ∧ B i ≤ 122
    · rw [if_pos (s1.mpr c2), if_neg i_10, if_pos ⟨c, e.mpr c2⟩]
    · rw [if_neg (mt s1.mp c2), if_pos rfl, if_neg (fun z => c2 (e.mp z.2))]
  · rw [if_pos (nI_le (by omega) (by omega)), if_neg (fun z => c z.1)]
theorem m_isDigit (h : TB B len Mc Mm) (p : PM Mm) {i : Nat} (hi : i ≤ len) : fX7_isDigit 0 (nI i) Mm = some (if i < len ∧ soS (B i) = -3 then 1 else 0, Mm) := by
  obtain ⟨l, _, h18, hb⟩ := h
  unfold fX7_isDigit
  rw [m_g0, bS, h18]
  by_cases c : i < len
  · obtain ⟨b1, b2, _⟩ := hb i c
    rw [if_neg (nI_ge c (by omega)), gM17 p, bS, m_tp (by omega), bS, b2, m_isInL _ 48 57 48 57 (by decide) (by decide), bS]
    have e := (so_cases (B i) b1).2.1
    have s1 := (b_let (B i) b1).2
    by_cases c2 : 48 ≤ B i ∧ B i ≤ 57
    · rw [if_pos (s1.mpr c2), if_neg i_10, if_pos ⟨c, e.mpr c2⟩]
    · rw [if_neg (mt s1.mp c2), if_pos rfl, if_neg (fun z => c2 (e.mp z.2))]
  · rw [if_pos (nI_le (by omega) (by omega)), if_neg (fun z => c z.1)]
/-- blanks -/
theorem c_blank {x1 x2 : Int32} : ∀ (d s N : Nat) (Mc : ctM), TB B len Mc Mm → PC Mc → s + d = len → d < N → Mc.1 4 2 = nI s → ∃ M', fX5_advance_h34 N 4 x1 x2 Mc = fX5_advance_b72 4 x1 x2 M' ∧ TF Mc M' ∧ M'.1 4 2 = nI (kE B d s) ∧ M'.1 4 4 = Mc.1 4 4 := by
  intro d
  induction d with
  | zero =>
    intro s N Mc h p hs hN h2
    obtain ⟨N, rfl⟩ : ∃ k, N = k + 1 := ⟨N - 1, by omega⟩
    refine ⟨Mc, ?_, TF.rf, h2, rfl⟩
    rw [fX5_advance_h34, t_g, bS, t_g, bS, h2, h.2.1, if_pos (nI_le (by omega) (by have := h.1; omega))]
  | succ d ih =>
    intro s N Mc h p hs hN h2
    obtain ⟨N, rfl⟩ : ∃ k, N = k + 1 := ⟨N - 1, by omega⟩
    have l := h.1
    obtain ⟨b1, _, b3⟩ := h.2.2.2 s (by omega)
    rw [kE]
    by_cases c : B s = 32
    · have tf : TF Mc (ctI Mc 4 2 (nI (s + 1))) := TF.rf.put (by omega) _
      obtain ⟨M', a1, a2, a3, a4⟩ := ih (s + 1) N _ (h.c tf) (tf.pc p) (by omega) (by omega) (by rw [ctI_1, va_up_eq'])
      refine ⟨M', ?_, tf.tr a2, by rw [if_pos c]; exact a3, by rw [a4, ctI_1, va_up_ne' (by decide)]⟩
      rw [fX5_advance_h34, t_g, bS, t_g, bS, h2, h.2.1, if_neg (nI_ge (by omega) (by omega)), t_by p, bS, bS, t_b (by omega), bS, b3, if_pos ((sx_32 _ b1).1.mpr c), bS, t_p, bS, nI_1]
      exact a1
    · refine ⟨Mc, ?_, TF.rf, by rw [if_neg c]; exact h2, rfl⟩
      rw [fX5_advance_h34, t_g, bS, t_g, bS, h2, h.2.1, if_neg (nI_ge (by omega) (by omega)), t_by p, bS, bS, t_b (by omega), bS, b3, if_neg (mt (sx_32 _ b1).1.mp c)]
theorem m_blank {x1 x2 : Int32} : ∀ (d s N : Nat) (Mm : ctM), TB B len Mc Mm → PM Mm → s + d = len → d < N → Mm.1 0 20 = nI s → ∃ M', fX7_nextToken_h34 N 0 x1 x2 Mm = fX7_nextToken_b72 0 x1 x2 M' ∧ TG Mm M' ∧ M'.1 0 20 = nI (kE B d s) := by
  intro d
  induction d with
  | zero =>
    intro s N Mm h p hs hN h2
    obtain ⟨N, rfl⟩ : ∃ k, N = k + 1 := ⟨N - 1, by omega⟩
    refine ⟨Mm, ?_, TG.rf, h2⟩
    rw [fX7_nextToken_h34, m_g0, bS, m_g0, bS, h2, h.2.2.1, if_pos (nI_le (by omega) (by have := h.1; omega))]
  | succ d ih =>
    intro s N Mm h p hs hN h2
    obtain ⟨N, rfl⟩ : ∃ k, N = k + 1 := ⟨N - 1, by omega⟩
    have l := h.1
    obtain ⟨b1, b2, _⟩ := h.2.2.2 s (by omega)
    rw [kE]
    by_cases c : B s = 32
    · have tf : TG Mm (ctI Mm 0 20 (nI (s + 1))) := TG.rf.put (by omega) _
      obtain ⟨M', a1, a2, a3⟩ := ih (s + 1) N _ (h.m tf) (tf.pm p) (by omega) (by omega) (by rw [ctI_1, va_up_eq'])
      refine ⟨M', ?_, tf.tr a2, by rw [if_pos c]; exact a3⟩
      rw [fX7_nextToken_h34, m_g0, bS, m_g0, bS, h2, h.2.2.1, if_neg (nI_ge (by omega) (by omega)), gM17 p, bS, bS, m_tp (by omega), bS, b2, if_pos ((sx_32 _ b1).2.mpr c), bS, m_p0, bS, nI_1]
      exact a1
    · refine ⟨Mm, ?_, TG.rf, by rw [if_neg c]; exact h2⟩
      rw [fX7_nextToken_h34, m_g0, bS, m_g0, bS, h2, h.2.2.1, if_neg (nI_ge (by omega) (by omega)), gM17 p, bS, bS, m_tp (by omega), bS, b2, if_neg (mt (sx_32 _ b1).2.mp c)]
/-- a word -/
theorem c_word {x1 x2 so : Int32} : ∀ (d e N : Nat) (Mc : ctM), TB B len Mc Mm → PC Mc → e + d = len → d < N → Mc.1 4 3 = nI e → Mc.1 4 4 = so → ∃ M', fX5_advance_h131 N 4 x1 x2 1 Mc = fX5_advance_b174 4 x1 x2 1 M' ∧ TF Mc M' ∧ M'.1 4 2 = Mc.1 4 2 ∧ M'.1 4 3 = nI (wE B so d e) ∧ M'.1 4 4 = so := by
  intro d
  induction d with
  | zero =>
    intro e N Mc h p hs hN h3 h4
    obtain ⟨N, rfl⟩ : ∃ k, N = k + 1 := ⟨N - 1, by omega⟩
    refine ⟨Mc, ?_, TF.rf, rfl, h3, h4⟩
    rw [fX5_advance_h131, if_neg i_10, t_g, bS, t_g, bS, h3, h.2.1, if_pos (nI_le (by omega) (by have := h.1; omega))]
  | succ d ih =>
    intro e N Mc h p hs hN h3 h4
    obtain ⟨N, rfl⟩ : ∃ k, N = k + 1 := ⟨N - 1, by omega⟩
    have l := h.1
    rw [wE]
    by_cases c : soS (B e) = so
    · have tf : TF Mc (ctI Mc 4 3 (nI (e + 1))) := TF.rf.put (by omega) _
      obtain ⟨M', a1, a2, a3, a4, a5⟩ := ih (e + 1) N _ (h.c tf) (tf.pc p) (by omega) (by omega) (by rw [ctI_1, va_up_eq']) (by rw [ctI_1, va_up_ne' (by decide)]; exact h4)
      refine ⟨M', ?_, tf.tr a2, by rw [a3, ctI_1, va_up_ne' (by decide)], by rw [if_pos c]; exact a4, a5⟩
      rw [fX5_advance_h131, if_neg i_10, t_g, bS, t_g, bS, h3, h.2.1, if_neg (nI_ge (by omega) (by omega)), bS, t_cV, c_sortAt h p (by omega), bS, t_g, bS, h4, if_pos c, t_g, bS, h3, t_p, bS, nI_1]
      exact a1
    · refine ⟨Mc, ?_, TF.rf, rfl, by rw [if_neg c]; exact h3, h4⟩
      rw [fX5_advance_h131, if_neg i_10, t_g, bS, t_g, bS, h3, h.2.1, if_neg (nI_ge (by omega) (by omega)), bS, t_cV, c_sortAt h p (by omega), bS, t_g, bS, h4, if_neg c]
theorem m_letters {x1 : Int32} : ∀ (d e N : Nat) (Mm : ctM), TB B len Mc Mm → PM Mm → e + d = len → d < N → Mm.1 0 20 = nI e → ∃ M', fX7_nextToken_h128 N 0 x1 Mm = fX7_nextToken_b162 0 0 (if x1 = 0 then 1 else 4) M' ∧ TG Mm M' ∧ M'.1 0 19 = Mm.1 0 19 ∧ M'.1 0 20 = nI (wE B (-2) d e) := by
  intro d
  induction d with
  | zero =>
    intro e N Mm h p hs hN h2
    obtain ⟨N, rfl⟩ : ∃ k, N = k + 1 := ⟨N - 1, by omega⟩
    refine ⟨Mm, ?_, TG.rf, rfl, h2⟩
    rw [fX7_nextToken_h128, m_g0, bS, h2, m_cV, m_isLetter h p (by omega), bS, if_neg (by omega : ¬ (e < len ∧ soS (B e) = -2)), if_pos rfl]
    by_cases c : x1 = 0
    · rw [if_pos c, if_pos c]
    · rw [if_neg c, if_neg c]
  | succ d ih =>
    intro e N Mm h p hs hN h2
    obtain ⟨N, rfl⟩ : ∃ k, N = k + 1 := ⟨N - 1, by omega⟩
    rw [wE]
    by_cases c : soS (B e) = -2
    · have tf : TG Mm (ctI Mm 0 20 (nI (e + 1))) := TG.rf.put (by omega) _
      obtain ⟨M', a1, a2, a3, a4⟩ := ih (e + 1) N _ (h.m tf) (tf.pm p) (by omega) (by omega) (by rw [ctI_1, va_up_eq'])
      refine ⟨M', ?_, tf.tr a2, by rw [a3, ctI_1, va_up_ne' (by decide)], by rw [if_pos c]; exact a4⟩
      rw [fX7_nextToken_h128, m_g0, bS, h2, m_cV, m_isLetter h p (by omega), bS, if_pos (⟨by omega, c⟩ : e < len ∧ soS (B e) = -2), if_neg i_10, m_g0, bS, h2, m_p0, bS, nI_1]
      exact a1
    · refine ⟨Mm, ?_, TG.rf, rfl, by rw [if_neg c]; exact h2⟩
      rw [fX7_nextToken_h128, m_g0, bS, h2, m_cV, m_isLetter h p (by omega), bS, if_neg (fun z : e < len ∧ soS (B e) = -2 => c z.2), if_pos rfl]
      by_cases c : x1 = 0
      · rw [if_pos c, if_pos c]
      · rw [if_neg c, if_neg c]
theorem i_sub {a b : Nat} (h : b ≤ a) : nI a - nI b = nI (a - b) := by
  obtain ⟨k, rfl⟩ : ∃ k, a = b + k := ⟨a - b, by omega⟩
  rw [← nI_add, Nat.add_sub_cancel_left, Int32.add_comm, Int32.add_sub_cancel]
theorem m_digits {x1 : Int32} {st : Nat} : ∀ (d e N : Nat) (Mm : ctM), TB B len Mc Mm → PM Mm → st ≤ e → e + d = len → d < N → Mm.1 0 19 = nI st → Mm.1 0 20 = nI e → Mm.1 0 22 = dgS B st (min (e - st) 4) → ∃ M', fX7_nextToken_h214 N 0 x1 Mm = some M' ∧ TG Mm M' ∧ M'.1 0 19 = nI st ∧ M'.1 0 20 = nI (wE B (-3) d e) ∧ M'.1 0 21 = (if x1 = 0 ∧ wE B (-3) d e - st ≤ 4 then 2 else 4) ∧ M'.1 0 22 = dgS B st (min (wE B (-3) d e - st) 4) := by
  intro d
  have fin : ∀ (e : Nat) (Mm : ctM), len ≤ 96 → e ≤ len → st ≤ e → Mm.1 0 19 = nI st → Mm.1 0 20 = nI e → Mm.1 0 22 = dgS B st (min (e - st) 4) → ∃ M', (if x1 = 0 then (gI kdM 7 20 0 Mm).bind fun x25 => (gI kdM 7 19 0 Mm).bind fun x26 => if (x25 - x26) ≤ 4 then fX7_nextToken_b305 0 2 Mm else fX7_nextToken_b300 0 Mm else fX7_nextToken_b300 0 Mm) = some M' ∧ TG Mm M' ∧ M'.1 0 19 = nI st ∧ M'.1 0 20 = nI e ∧ M'.1 0 21 = (if x1 = 0 ∧ e - st ≤ 4 then 2 else 4) ∧ M'.1 0 22 = dgS B st (min (e - st) 4) := by
    intro e Mm hl96 hel hse h19 h20 h22
    refine ⟨ctI Mm 0 21 (if x1 = 0 ∧ e - st ≤ 4 then 2 else 4), ?_, TG.rf.put (by omega) _, by rw [ctI_1, va_up_ne' (by decide)]; exact h19, by rw [ctI_1, va_up_ne' (by decide)]; exact h20, by rw [ctI_1, va_up_eq'], by rw [ctI_1, va_up_ne' (by decide)]; exact h22⟩
    unfold fX7_nextToken_b300 fX7_nextToken_b305
    rw [m_p0, m_p0, bS, bS]
    by_cases c : x1 = 0
    · rw [if_pos c, m_g0, bS, m_g0, bS, h19, h20, i_sub hse]
      by_cases c2 : e - st ≤ 4
      · rw [if_pos (show nI (e - st) ≤ 4 from nI_le (b := 4) c2 (by decide)), if_pos ⟨c, c2⟩]
      · rw [if_neg (show ¬ nI (e - st) ≤ 4 from nI_ge (a := 4) (by omega) (by omega)), if_neg (fun z => c2 z.2)]
    · rw [if_neg c, if_neg (fun z => c z.1)]
  induction d with
  | zero =>
    intro e N Mm h p hse hs hN h19 h20 h22
    obtain ⟨N, rfl⟩ : ∃ k, N = k + 1 := ⟨N - 1, by omega⟩
    obtain ⟨M', f1, f2⟩ := fin e Mm h.1 (by omega) hse h19 h20 h22
    refine ⟨M', ?_, f2⟩
    rw [fX7_nextToken_h214, m_g0, bS, h20, m_cV, m_isDigit h p (by omega), bS, if_neg (by omega : ¬ (e < len ∧ soS (B e) = -3)), if_pos rfl]
    exact f1
  | succ d ih =>
    intro e N Mm h p hse hs hN h19 h20 h22
    obtain ⟨N, rfl⟩ : ∃ k, N = k + 1 := ⟨N - 1, by omega⟩
    have l := h.1
    rw [wE]
    by_cases c : soS (B e) = -3
    · obtain ⟨_, b2, _⟩ := h.2.2.2 e (by omega)
      have next : ∀ nu : Int32, nu = dgS B st (min (e + 1 - st) 4) → ∃ M', fX7_nextToken_b266 (fX7_nextToken_h214 N) 0 x1 0 nu Mm = some M' ∧ TG Mm M' ∧ M'.1 0 19 = nI st ∧ M'.1 0 20 = nI (wE B (-3) d (e + 1)) ∧ M'.1 0 21 = (if x1 = 0 ∧ wE B (-3) d (e + 1) - st ≤ 4 then 2 else 4) ∧ M'.1 0 22 = dgS B st (min (wE B (-3) d (e + 1) - st) 4) := by
        intro nu hnu
        have t1 : TG Mm (ctI Mm 0 22 nu) := TG.rf.put (by omega) _
        have t2 : TG Mm (ctI (ctI Mm 0 22 nu) 0 20 (nI (e + 1))) := t1.put (by omega) _
        obtain ⟨M', a1, a2, a3⟩ := ih (e + 1) N _ (h.m t2) (t2.pm p) (by omega) (by omega) (by omega) (by rw [ctI_1, va_up_ne' (by decide), ctI_1, va_up_ne' (by decide)]; exact h19) (by rw [ctI_1, va_up_eq']) (by rw [ctI_1, va_up_ne' (by decide), ctI_1, va_up_eq']; exact hnu)
        refine ⟨M', ?_, t2.tr a2, a3⟩
        unfold fX7_nextToken_b266
        rw [m_p0, bS, m_g0, bS, ctI_1, va_up_ne' (by decide), h20, m_p0, bS, nI_1]
        exact a1
      obtain ⟨M', n1, n2⟩ := next (dgS B st (min (e + 1 - st) 4)) rfl
      refine ⟨M', ?_, by rw [if_pos c]; exact n2⟩
      rw [fX7_nextToken_h214, m_g0, bS, h20, m_cV, m_isDigit h p (by omega), bS, if_pos (⟨by omega, c⟩ : e < len ∧ soS (B e) = -3), if_neg i_10, m_g0, bS, m_g0, bS, h20, h19, i_sub hse]
      by_cases c4 : 4 ≤ e - st
      · rw [if_pos (show (4 : Int32) ≤ nI (e - st) from nI_le (a := 4) c4 (by omega)), m_g0, bS, h22, show min (e - st) 4 = min (e + 1 - st) 4 by omega]
        exact n1
      · rw [if_neg (show ¬ (4 : Int32) ≤ nI (e - st) from nI_ge (b := 4) (by omega) (by decide)), m_g0, bS, gM17 p, bS, bS, m_tp (by omega), bS, h22, b2, show min (e - st) 4 = e - st by omega]
        rw [show min (e + 1 - st) 4 = e - st + 1 by omega, dgS, show st + (e - st) = e by omega] at n1
        exact n1
    · obtain ⟨M', f1, f2⟩ := fin e Mm h.1 (by omega) hse h19 h20 h22
      refine ⟨M', ?_, by rw [if_neg c]; exact f2⟩
      rw [fX7_nextToken_h214, m_g0, bS, h20, m_cV, m_isDigit h p (by omega), bS, if_neg (fun z : e < len ∧ soS (B e) = -3 => c z.2), if_pos rfl]
      exact f1
/-- the token that stands at st, up to en -/
def Tk (B : Nat → Nat) (len st en : Nat) (so tk nu le : Int32) : Prop :=
  (st = len ∧ en = st ∧ so = -1 ∧ tk = 0) ∨
  (st < en ∧ en ≤ len ∧ so = -2 ∧ tk = 1 ∧ le = (if en - st = 1 then nI (B st) else 0) ∧ ∀ i, st ≤ i → i < en → 97 ≤ B i ∧ B i ≤ 122) ∨
  (st < en ∧ en ≤ len ∧ so = -3 ∧ en - st ≤ 4 ∧ tk = 2 ∧ nu = dgS B st (en - st) ∧ ∀ i, st ≤ i → i < en → 48 ≤ B i ∧ B i ≤ 57) ∨
  (st < en ∧ en ≤ len ∧ so = -3 ∧ 4 < en - st ∧ tk = 4) ∨
  (st < en ∧ en ≤ len ∧ so = -4 ∧ tk = 4) ∨
  (st < len ∧ en = st + 1 ∧ so = nI (B st) ∧ tk = 3 ∧ le = nI (B st) ∧ ¬ (97 ≤ B st ∧ B st ≤ 122) ∧ ¬ (48 ≤ B st ∧ B st ≤ 57))
def TS (B : Nat → Nat) (len : Nat) (Mc Mm : ctM) (st en : Nat) : Prop := Mc.1 4 2 = nI st ∧ Mc.1 4 3 = nI en ∧ Mm.1 0 19 = nI st ∧ Mm.1 0 20 = nI en ∧ Tk B len st en (Mc.1 4 4) (Mm.1 0 21) (Mm.1 0 22) (Mm.1 0 23)
theorem c_adv (h : TB B len Mc Mm) (p : PC Mc) {en : Nat} (he : en ≤ len) (h3 : Mc.1 4 3 = nI en) : ∃ M', fX5_advance 4 Mc = some M' ∧ TF Mc M' ∧ M'.1 4 2 = nI (kE B (len - en) en) ∧ (kE B (len - en) en = len → M'.1 4 3 = nI len ∧ M'.1 4 4 = -1) ∧ (kE B (len - en) en < len → (soS (B (kE B (len - en) en)) = -2 ∨ soS (B (kE B (len - en) en)) = -3 → M'.1 4 3 = nI (wE B (soS (B (kE B (len - en) en))) (len - kE B (len - en) en) (kE B (len - en) en)) ∧ M'.1 4 4 = (if (Mc.1 4 4 = -2 ∨ Mc.1 4 4 = -3) ∧ kE B (len - en) en = en then -4 else soS (B (kE B (len - en) en)))) ∧ (¬ (soS (B (kE B (len - en) en)) = -2 ∨ soS (B (kE B (len - en) en)) = -3) → M'.1 4 3 = nI (kE B (len - en) en + 1) ∧ M'.1 4 4 = soS (B (kE B (len - en) en)))) := by
  have l := h.1
  have hk := kE_in (B := B) (len - en) en
  obtain ⟨s, es⟩ : ∃ s, s = kE B (len - en) en := ⟨_, rfl⟩
  rw [← es] at hk ⊢
  have t0 : TF Mc (ctI Mc 4 2 (nI en)) := TF.rf.put (by omega) _
  have main : ∀ f : Int32, (f = if Mc.1 4 4 = -2 ∨ Mc.1 4 4 = -3 then 1 else 0) → ∃ M', fX5_advance_b23 4 f Mc = some M' ∧ TF Mc M' ∧ M'.1 4 2 = nI s ∧ (s = len → M'.1 4 3 = nI len ∧ M'.1 4 4 = -1) ∧ (s < len → (soS (B s) = -2 ∨ soS (B s) = -3 → M'.1 4 3 = nI (wE B (soS (B s)) (len - s) s) ∧ M'.1 4 4 = (if (Mc.1 4 4 = -2 ∨ Mc.1 4 4 = -3) ∧ s = en then -4 else soS (B s))) ∧ (¬ (soS (B s) = -2 ∨ soS (B s) = -3) → M'.1 4 3 = nI (s + 1) ∧ M'.1 4 4 = soS (B s))) := by
    intro f hf
    obtain ⟨A, a1, a2, a3, a4⟩ := c_blank (x1 := f) (x2 := nI en) (len - en) en 4000 _ (h.c t0) (t0.pc p) (by omega) (by omega) (by rw [ctI_1, va_up_eq'])
    rw [← es] at a3
    have ta := t0.tr a2
    have t1 : TF Mc (ctI A 4 3 (nI s)) := ta.put (by omega) _
    have start : fX5_advance_b23 4 f Mc = fX5_advance_b72 4 f (nI en) A := by
      unfold fX5_advance_b23
      rw [t_g, bS, h3, t_p, bS]
      exact a1
    have v2 : (ctI A 4 3 (nI s)).1 4 2 = nI s := by rw [ctI_1, va_up_ne' (by decide)]; exact a3
    have v1 : (ctI A 4 3 (nI s)).1 4 1 = nI len := (t1.2.2 1 (by omega)).trans h.2.1
    by_cases c : s = len
    · refine ⟨ctI (ctI A 4 3 (nI s)) 4 4 (-1), ?_, t1.put (by omega) _, by rw [ctI_1, va_up_ne' (by decide)]; exact v2, fun _ => ⟨by rw [ctI_1, va_up_ne' (by decide), ctI_1, va_up_eq', c], by rw [ctI_1, va_up_eq']⟩, fun z => by omega⟩
      rw [start]
      unfold fX5_advance_b72
      rw [t_g, bS, a3, t_p, bS, t_g, bS, t_g, bS, v2, v1, if_pos (nI_le (by omega) (by omega))]
      unfold fX5_advance_b104
      rw [t_p, bS, t_g, bS, bS, ctI_1, va_up_eq', if_neg (by decide), if_neg (by decide)]
      unfold fX5_advance_b130
      rw [fX5_advance_h131, if_pos rfl]
      unfold fX5_advance_b174 fX5_advance_b196
      rw [if_pos rfl, if_pos rfl, t_g, bS, ctI_1, va_up_eq', if_pos rfl]
    · have sl : s < len := by omega
      have b256 := (h.2.2.2 s sl).1
      have t2 : TF Mc (ctI (ctI A 4 3 (nI s)) 4 4 (soS (B s))) := t1.put (by omega) _
      have go : fX5_advance_b23 4 f Mc = fX5_advance_b104 4 f (nI en) 4 (soS (B s)) (ctI A 4 3 (nI s)) := by
        rw [start]
        unfold fX5_advance_b72
        rw [t_g, bS, a3, t_p, bS, t_g, bS, t_g, bS, v2, v1, if_neg (nI_ge sl (by omega)), bS, t_cV, c_sortAt (h.c t1) (t1.pc p) sl, bS]
      by_cases cw : soS (B s) = -2 ∨ soS (B s) = -3
      · obtain ⟨D, d1, d2, d3, d4, d5⟩ := c_word (x1 := f) (x2 := nI en) (so := soS (B s)) (len - s) s 4000 _ (h.c t2) (t2.pc p) (by omega) (by omega) (by rw [ctI_1, va_up_ne' (by decide), ctI_1, va_up_eq']) (by rw [ctI_1, va_up_eq'])
        have dv2 : D.1 4 2 = nI s := by rw [d3, ctI_1, va_up_ne' (by decide)]; exact v2
        have w1 : fX5_advance_b23 4 f Mc = fX5_advance_b174 4 f (nI en) 1 D := by
          rw [go]
          unfold fX5_advance_b104
          rw [t_p, bS, t_g, bS, bS, ctI_1, va_up_eq']
          unfold fX5_advance_b125 fX5_advance_b130
          rcases cw with e | e
          · rw [if_pos e]; exact d1
          · rw [if_neg (by rw [e]; decide), if_pos e]; exact d1
        by_cases cf : (Mc.1 4 4 = -2 ∨ Mc.1 4 4 = -3) ∧ s = en
        · refine ⟨ctI D 4 4 (-4), ?_, (t2.tr d2).put (by omega) _, by rw [ctI_1, va_up_ne' (by decide)]; exact dv2, fun z => by omega, fun _ => ⟨fun _ => ⟨by rw [ctI_1, va_up_ne' (by decide)]; exact d4, by rw [ctI_1, va_up_eq', if_pos cf]⟩, fun z => absurd cw z⟩⟩
          rw [w1]
          unfold fX5_advance_b174 fX5_advance_b196
          rw [hf, if_pos cf.1, if_neg i_10, if_neg i_10, t_g, bS, dv2, cf.2, if_pos rfl, t_p, bS, if_neg i_10]
        · refine ⟨D, ?_, t2.tr d2, dv2, fun z => by omega, fun _ => ⟨fun _ => ⟨d4, by rw [if_neg cf]; exact d5⟩, fun z => absurd cw z⟩⟩
          rw [w1]
          unfold fX5_advance_b174 fX5_advance_b196
          by_cases ff : Mc.1 4 4 = -2 ∨ Mc.1 4 4 = -3
          · rw [hf, if_pos ff, if_neg i_10, if_neg i_10, t_g, bS, dv2, if_neg (fun z => cf ⟨ff, (nI_eq (by omega) (by omega)).mp z⟩), if_neg i_10]
          · rw [hf, if_neg ff, if_neg i_10, if_pos rfl, if_neg i_10]
      · refine ⟨ctI (ctI (ctI A 4 3 (nI s)) 4 4 (soS (B s))) 4 3 (nI (s + 1)), ?_, t2.put (by omega) _, by rw [ctI_1, va_up_ne' (by decide), ctI_1, va_up_ne' (by decide)]; exact v2, fun z => by omega, fun _ => ⟨fun z => absurd z cw, fun _ => ⟨by rw [ctI_1, va_up_eq'], by rw [ctI_1, va_up_ne' (by decide), ctI_1, va_up_eq']⟩⟩⟩
        have ev : soS (B s) = nI (B s) := (so_cases (B s) b256).2.2 (fun z => cw (Or.inl ((so_cases (B s) b256).1.mpr z))) (fun z => cw (Or.inr ((so_cases (B s) b256).2.1.mpr z)))
        have ne1 : ¬ soS (B s) = -1 := fun z => nI_pos (n := B s) (by omega) (by rw [← ev, z]; decide)
        rw [go]
        unfold fX5_advance_b104
        rw [t_p, bS, t_g, bS, bS, ctI_1, va_up_eq', if_neg (fun z => cw (Or.inl z)), if_neg (fun z => cw (Or.inr z))]
        unfold fX5_advance_b130
        rw [fX5_advance_h131, if_pos rfl]
        unfold fX5_advance_b174 fX5_advance_b196
        rw [if_pos rfl, if_pos rfl, t_g, bS, ctI_1, va_up_eq', if_neg ne1, t_g, bS, ctI_1, va_up_ne' (by decide), v2, t_p, bS, nI_1]
  unfold fX5_advance fX5_advance_b18
  rw [t_g, bS, bS]
  by_cases c2 : Mc.1 4 4 = -2
  · rw [if_pos c2]
    exact main 1 (by rw [if_pos (Or.inl c2)])
  · rw [if_neg c2]
    by_cases c3 : Mc.1 4 4 = -3
    · rw [if_pos c3]
      exact main 1 (by rw [if_pos (Or.inr c3)])
    · rw [if_neg c3]
      exact main 0 (by rw [if_neg (by rintro (z | z); exact c2 z; exact c3 z)])
theorem m_adv (h : TB B len Mc Mm) (p : PM Mm) {en : Nat} (he : en ≤ len) (h20 : Mm.1 0 20 = nI en) : ∃ M', fX7_nextToken 0 Mm = some M' ∧ TG Mm M' ∧ M'.1 0 19 = nI (kE B (len - en) en) ∧ (kE B (len - en) en = len → M'.1 0 20 = nI len ∧ M'.1 0 21 = 0) ∧ (kE B (len - en) en < len → (soS (B (kE B (len - en) en)) = -2 → M'.1 0 20 = nI (wE B (-2) (len - kE B (len - en) en) (kE B (len - en) en)) ∧ M'.1 0 21 = (if (0 < en ∧ (Mm.1 0 21 = 1 ∨ Mm.1 0 21 = 2)) ∧ kE B (len - en) en = en then 4 else 1) ∧ M'.1 0 23 = (if wE B (-2) (len - kE B (len - en) en) (kE B (len - en) en) - kE B (len - en) en = 1 then nI (B (kE B (len - en) en)) else 0)) ∧ (soS (B (kE B (len - en) en)) = -3 → M'.1 0 20 = nI (wE B (-3) (len - kE B (len - en) en) (kE B (len - en) en)) ∧ M'.1 0 21 = (if ¬ ((0 < en ∧ (Mm.1 0 21 = 1 ∨ Mm.1 0 21 = 2)) ∧ kE B (len - en) en = en) ∧ wE B (-3) (len - kE B (len - en) en) (kE B (len - en) en) - kE B (len - en) en ≤ 4 then 2 else 4) ∧ M'.1 0 22 = dgS B (kE B (len - en) en) (min (wE B (-3) (len - kE B (len - en) en) (kE B (len - en) en) - kE B (len - en) en) 4)) ∧ (¬ (soS (B (kE B (len - en) en)) = -2 ∨ soS (B (kE B (len - en) en)) = -3) → M'.1 0 20 = nI (kE B (len - en) en + 1) ∧ M'.1 0 21 = 3 ∧ M'.1 0 23 = nI (B (kE B (len - en) en)))) := by
  have l := h.1
  have hk := kE_in (B := B) (len - en) en
  obtain ⟨s, es⟩ : ∃ s, s = kE B (len - en) en := ⟨_, rfl⟩
  rw [← es] at hk ⊢
  have fin : ∀ (g : Int32) (A : ctM), (g = 0 ↔ ¬ ((0 < en ∧ (Mm.1 0 21 = 1 ∨ Mm.1 0 21 = 2)) ∧ s = en)) → (g = 0 ∨ g = 1) → TG Mm A → A.1 0 20 = nI s → ∃ M', fX7_nextToken_b89 0 g A = some M' ∧ TG Mm M' ∧ M'.1 0 19 = nI s ∧ (s = len → M'.1 0 20 = nI len ∧ M'.1 0 21 = 0) ∧ (s < len → (soS (B s) = -2 → M'.1 0 20 = nI (wE B (-2) (len - s) s) ∧ M'.1 0 21 = (if (0 < en ∧ (Mm.1 0 21 = 1 ∨ Mm.1 0 21 = 2)) ∧ s = en then 4 else 1) ∧ M'.1 0 23 = (if wE B (-2) (len - s) s - s = 1 then nI (B s) else 0)) ∧ (soS (B s) = -3 → M'.1 0 20 = nI (wE B (-3) (len - s) s) ∧ M'.1 0 21 = (if ¬ ((0 < en ∧ (Mm.1 0 21 = 1 ∨ Mm.1 0 21 = 2)) ∧ s = en) ∧ wE B (-3) (len - s) s - s ≤ 4 then 2 else 4) ∧ M'.1 0 22 = dgS B s (min (wE B (-3) (len - s) s - s) 4)) ∧ (¬ (soS (B s) = -2 ∨ soS (B s) = -3) → M'.1 0 20 = nI (s + 1) ∧ M'.1 0 21 = 3 ∧ M'.1 0 23 = nI (B s))) := by
    intro g A hg hg2 ta a20
    have t1 : TG Mm (ctI A 0 19 (nI s)) := ta.put (by omega) _
    have v18 : (ctI A 0 19 (nI s)).1 0 18 = nI len := (t1.2.2 18 (by omega)).trans h.2.2.1
    have v19 : (ctI A 0 19 (nI s)).1 0 19 = nI s := by rw [ctI_1, va_up_eq']
    have v20 : (ctI A 0 19 (nI s)).1 0 20 = nI s := by rw [ctI_1, va_up_ne' (by decide)]; exact a20
    have p1 := t1.pm p
    have h1 := h.m t1
    unfold fX7_nextToken_b89
    rw [m_g0, bS, a20, m_p0, bS, m_g0, bS, m_g0, bS, v19, v18]
    by_cases c : s = len
    · refine ⟨ctI (ctI A 0 19 (nI s)) 0 21 0, ?_, t1.put (by omega) _, by rw [ctI_1, va_up_ne' (by decide)]; exact v19, fun _ => ⟨by rw [ctI_1, va_up_ne' (by decide), v20, c], by rw [ctI_1, va_up_eq']⟩, fun z => by omega⟩
      rw [if_pos (by rw [c]), m_p0, bS]
    · have sl : s < len := by omega
      obtain ⟨b256, b2, _⟩ := h.2.2.2 s sl
      rw [if_neg (fun z => c ((nI_eq (by omega) (by omega)).mp z)), bS, m_cV, m_isLetter h1 p1 (by omega), bS]
      by_cases cl : soS (B s) = -2
      · obtain ⟨D, d1, d2, d3, d4⟩ := m_letters (x1 := g) (len - s) s 4000 _ h1 p1 (by omega) (by omega) v20
        have t2 := t1.tr d2
        have ws := wE_st (B := B) (so := -2) (d := len - s) (e := s) (by omega) cl
        have wi := (wE_in (B := B) (so := -2) (len - s) s).1
        have d19 : D.1 0 19 = nI s := d3.trans v19
        have g4 : (if g = 0 then (1 : Int32) else 4) = if (0 < en ∧ (Mm.1 0 21 = 1 ∨ Mm.1 0 21 = 2)) ∧ s = en then 4 else 1 := by
          by_cases q : (0 < en ∧ (Mm.1 0 21 = 1 ∨ Mm.1 0 21 = 2)) ∧ s = en
          · rw [if_pos q, if_neg (fun z => (hg.mp z) q)]
          · rw [if_neg q, if_pos (hg.mpr q)]
        have t3 : TG Mm (ctI D 0 21 (if (0 < en ∧ (Mm.1 0 21 = 1 ∨ Mm.1 0 21 = 2)) ∧ s = en then 4 else 1)) := t2.put (by omega) _
        have d15 : D.1 15 = Mm.1 15 := t2.2.1 15 (by decide)
        refine ⟨ctI (ctI D 0 21 (if (0 < en ∧ (Mm.1 0 21 = 1 ∨ Mm.1 0 21 = 2)) ∧ s = en then 4 else 1)) 0 23 (if wE B (-2) (len - s) s - s = 1 then nI (B s) else 0), ?_, t3.put (by omega) _, by rw [ctI_1, va_up_ne' (by decide), ctI_1, va_up_ne' (by decide)]; exact d19, fun z => absurd z c, fun _ => ⟨fun _ => ⟨by rw [ctI_1, va_up_ne' (by decide), ctI_1, va_up_ne' (by decide)]; exact d4, by rw [ctI_1, va_up_ne' (by decide), ctI_1, va_up_eq'], by rw [ctI_1, va_up_eq']⟩, fun z => by rw [cl] at z; exact absurd z (by decide), fun z => absurd (Or.inl cl) z⟩⟩
        rw [if_pos (⟨sl, cl⟩ : s < len ∧ soS (B s) = -2), if_neg i_10, d1, g4]
        unfold fX7_nextToken_b162 fX7_nextToken_b192
        rw [m_p0, bS, m_g0, bS, m_g0, bS, ctI_1, va_up_ne' (by decide), va_up_ne' (by decide), d4, d19, i_sub (by omega)]
        by_cases c1 : wE B (-2) (len - s) s - s = 1
        · rw [if_pos (show nI (wE B (-2) (len - s) s - s) = 1 by rw [c1]; rfl), gM17 (t3.pm p), bS, bS, m_tp (by omega), bS, ctI_ne (by decide), d15, b2, m_p0, bS, if_pos c1]
        · rw [if_neg (show ¬ nI (wE B (-2) (len - s) s - s) = 1 from fun z => c1 ((nI_eq (b := 1) (by omega) (by decide)).mp z)), m_p0, bS, if_neg c1]
      · rw [if_neg (fun z : s < len ∧ soS (B s) = -2 => cl z.2), if_pos rfl, m_g0, bS, v19, m_cV, m_isDigit h1 p1 (by omega), bS]
        by_cases cd : soS (B s) = -3
        · have t2 : TG Mm (ctI (ctI A 0 19 (nI s)) 0 22 0) := t1.put (by omega) _
          obtain ⟨D, d1, d2, d3, d4, d5, d6⟩ := m_digits (x1 := g) (st := s) (len - s) s 4000 _ (h.m t2) (t2.pm p) (Nat.le_refl _) (by omega) (by omega) (by rw [ctI_1, va_up_ne' (by decide)]; exact v19) (by rw [ctI_1, va_up_ne' (by decide)]; exact v20) (by rw [ctI_1, va_up_eq', Nat.sub_self]; rfl)
          refine ⟨D, ?_, t2.tr d2, d3, fun z => absurd z c, fun _ => ⟨fun z => absurd z cl, fun _ => ⟨d4, ?_, d6⟩, fun z => absurd (Or.inr cd) z⟩⟩
          · rw [if_pos (⟨sl, cd⟩ : s < len ∧ soS (B s) = -3), if_neg i_10, m_p0, bS]
            exact d1
          · rw [d5]
            by_cases q : g = 0 ∧ wE B (-3) (len - s) s - s ≤ 4
            · rw [if_pos q, if_pos ⟨hg.mp q.1, q.2⟩]
            · rw [if_neg q, if_neg (fun z => q ⟨hg.mpr z.1, z.2⟩)]
        · refine ⟨ctI (ctI (ctI (ctI A 0 19 (nI s)) 0 21 3) 0 23 (nI (B s))) 0 20 (nI (s + 1)), ?_, ((t1.put (by omega) _).put (by omega) _).put (by omega) _, by rw [ctI_1, va_up_ne' (by decide), ctI_1, va_up_ne' (by decide), ctI_1, va_up_ne' (by decide)]; exact v19, fun z => absurd z c, fun _ => ⟨fun z => absurd z cl, fun z => absurd z cd, fun _ => ⟨by rw [ctI_1, va_up_eq'], by rw [ctI_1, va_up_ne' (by decide), ctI_1, va_up_ne' (by decide), ctI_1, va_up_eq'], by rw [ctI_1, va_up_ne' (by decide), ctI_1, va_up_eq']⟩⟩⟩
          have t3 : TG Mm (ctI (ctI A 0 19 (nI s)) 0 21 3) := t1.put (by omega) _
          have e15 : (ctI (ctI A 0 19 (nI s)) 0 21 3).1 15 = Mm.1 15 := t3.2.1 15 (by decide)
          have e19 : (ctI (ctI A 0 19 (nI s)) 0 21 3).1 0 19 = nI s := by rw [ctI_1, va_up_ne' (by decide)]; exact v19
          have e20 : (ctI (ctI (ctI A 0 19 (nI s)) 0 21 3) 0 23 (nI (B s))).1 0 20 = nI s := by rw [ctI_1, va_up_ne' (by decide), ctI_1, va_up_ne' (by decide)]; exact v20
          rw [if_neg (fun z : s < len ∧ soS (B s) = -3 => cd z.2), if_pos rfl, m_p0, bS, gM17 (t3.pm p), bS, m_g0, bS, e19, m_tp (by omega), bS, e15, b2, m_p0, bS, m_g0, bS, e20, m_p0, bS, nI_1]
  have blank : ∀ (f : Int32), (f = 0 ∨ f = 1) → (f = 0 ↔ ¬ (0 < en ∧ (Mm.1 0 21 = 1 ∨ Mm.1 0 21 = 2))) → ∃ M', fX7_nextToken_b28 0 f Mm = some M' ∧ TG Mm M' ∧ M'.1 0 19 = nI s ∧ (s = len → M'.1 0 20 = nI len ∧ M'.1 0 21 = 0) ∧ (s < len → (soS (B s) = -2 → M'.1 0 20 = nI (wE B (-2) (len - s) s) ∧ M'.1 0 21 = (if (0 < en ∧ (Mm.1 0 21 = 1 ∨ Mm.1 0 21 = 2)) ∧ s = en then 4 else 1) ∧ M'.1 0 23 = (if wE B (-2) (len - s) s - s = 1 then nI (B s) else 0)) ∧ (soS (B s) = -3 → M'.1 0 20 = nI (wE B (-3) (len - s) s) ∧ M'.1 0 21 = (if ¬ ((0 < en ∧ (Mm.1 0 21 = 1 ∨ Mm.1 0 21 = 2)) ∧ s = en) ∧ wE B (-3) (len - s) s - s ≤ 4 then 2 else 4) ∧ M'.1 0 22 = dgS B s (min (wE B (-3) (len - s) s - s) 4)) ∧ (¬ (soS (B s) = -2 ∨ soS (B s) = -3) → M'.1 0 20 = nI (s + 1) ∧ M'.1 0 21 = 3 ∧ M'.1 0 23 = nI (B s))) := by
    intro f hf hfF
    obtain ⟨A, a1, a2, a3⟩ := m_blank (x1 := f) (x2 := nI en) (len - en) en 4000 _ h p (by omega) (by omega) h20
    rw [← es] at a3
    have start : fX7_nextToken_b28 0 f Mm = fX7_nextToken_b72 0 f (nI en) A := by
      unfold fX7_nextToken_b28
      rw [m_g0, bS, h20]
      exact a1
    rw [start]
    unfold fX7_nextToken_b72 fX7_nextToken_b88
    by_cases c : f = 0
    · rw [if_pos c]
      exact fin 0 A ⟨fun _ z => (hfF.mp c) z.1, fun _ => rfl⟩ (Or.inl rfl) a2 a3
    · rw [if_neg c, m_g0, bS, a3]
      have hFt : (0 < en ∧ (Mm.1 0 21 = 1 ∨ Mm.1 0 21 = 2)) := Classical.byContradiction (fun z => c (hfF.mpr z))
      by_cases q : s = en
      · rw [if_pos (by rw [q])]
        exact fin 1 A ⟨fun z => absurd z i_10, fun z => absurd ⟨hFt, q⟩ z⟩ (Or.inr rfl) a2 a3
      · rw [if_neg (fun z => q ((nI_eq (by omega) (by omega)).mp z).symm)]
        exact fin 0 A ⟨fun _ z => q z.2, fun _ => rfl⟩ (Or.inl rfl) a2 a3
  unfold fX7_nextToken fX7_nextToken_b23 fX7_nextToken_b27
  rw [m_g0, bS, h20]
  by_cases c0 : 0 < en
  · rw [if_neg (nI_nle c0 (by omega)), m_g0, bS, bS]
    by_cases c1 : Mm.1 0 21 = 1
    · rw [if_pos c1]
      exact blank 1 (Or.inr rfl) ⟨fun z => absurd z i_10, fun z => absurd ⟨c0, Or.inl c1⟩ z⟩
    · rw [if_neg c1]
      by_cases c2 : Mm.1 0 21 = 2
      · rw [if_pos c2]
        exact blank 1 (Or.inr rfl) ⟨fun z => absurd z i_10, fun z => absurd ⟨c0, Or.inr c2⟩ z⟩
      · rw [if_neg c2]
        exact blank 0 (Or.inl rfl) ⟨fun _ z => by rcases z.2 with q | q; exact c1 q; exact c2 q, fun _ => rfl⟩
  · have e0 : en = 0 := by omega
    rw [if_pos (show nI en ≤ 0 by rw [e0]; decide)]
    exact blank 0 (Or.inl rfl) ⟨fun _ z => c0 z.1, fun _ => rfl⟩
/-- both go on -/
theorem adv (h : TB B len Mc Mm) (pc : PC Mc) (pm : PM Mm) {en : Nat} (he : en ≤ len) (h3 : Mc.1 4 3 = nI en) (h20 : Mm.1 0 20 = nI en) (fl : (Mc.1 4 4 = -2 ∨ Mc.1 4 4 = -3) ↔ (0 < en ∧ (Mm.1 0 21 = 1 ∨ Mm.1 0 21 = 2))) : ∃ Mc' Mm' st' en', fX5_advance 4 Mc = some Mc' ∧ fX7_nextToken 0 Mm = some Mm' ∧ TF Mc Mc' ∧ TG Mm Mm' ∧ en ≤ st' ∧ TS B len Mc' Mm' st' en' := by
  obtain ⟨Mc', a1, a2, a3, a4, a5⟩ := c_adv h pc he h3
  obtain ⟨Mm', b1, b2, b3, b4, b5⟩ := m_adv h pm he h20
  have hk := kE_in (B := B) (len - en) en
  obtain ⟨s, es⟩ : ∃ s, s = kE B (len - en) en := ⟨_, rfl⟩
  rw [← es] at hk a3 a4 a5 b3 b4 b5
  simp only [← fl] at b5
  by_cases c : s = len
  · refine ⟨Mc', Mm', s, s, a1, b1, a2, b2, by omega, a3, by rw [c]; exact (a4 c).1, b3, by rw [c]; exact (b4 c).1, Or.inl ⟨c, rfl, (a4 c).2, (b4 c).2⟩⟩
  · have sl : s < len := by omega
    have b256 := (h.2.2.2 s sl).1
    obtain ⟨x1, x2⟩ := a5 sl
    obtain ⟨y1, y2, y3⟩ := b5 sl
    by_cases cl : soS (B s) = -2
    · have ws := wE_st (B := B) (so := -2) (d := len - s) (e := s) (by omega) cl
      have wi := wE_in (B := B) (so := -2) (len - s) s
      obtain ⟨u1, u2⟩ := x1 (Or.inl cl)
      obtain ⟨v1, v2, v3⟩ := y1 cl
      rw [cl] at u1 u2
      refine ⟨Mc', Mm', s, _, a1, b1, a2, b2, by omega, a3, u1, b3, v1, ?_⟩
      by_cases q : (Mc.1 4 4 = -2 ∨ Mc.1 4 4 = -3) ∧ s = en
      · rw [if_pos q] at u2 v2
        exact Or.inr (Or.inr (Or.inr (Or.inr (Or.inl ⟨ws, by omega, u2, v2⟩))))
      · rw [if_neg q] at u2 v2
        exact Or.inr (Or.inl ⟨ws, by omega, u2, v2, v3, fun i i1 i2 => (so_cases (B i) (h.2.2.2 i (by omega)).1).1.mp (wi.2 i i1 i2)⟩)
    · by_cases cd : soS (B s) = -3
      · have ws := wE_st (B := B) (so := -3) (d := len - s) (e := s) (by omega) cd
        have wi := wE_in (B := B) (so := -3) (len - s) s
        obtain ⟨u1, u2⟩ := x1 (Or.inr cd)
        obtain ⟨v1, v2, v3⟩ := y2 cd
        rw [cd] at u1 u2
        refine ⟨Mc', Mm', s, _, a1, b1, a2, b2, by omega, a3, u1, b3, v1, ?_⟩
        by_cases q : (Mc.1 4 4 = -2 ∨ Mc.1 4 4 = -3) ∧ s = en
        · rw [if_pos q] at u2
          rw [if_neg (fun z => z.1 q)] at v2
          exact Or.inr (Or.inr (Or.inr (Or.inr (Or.inl ⟨ws, by omega, u2, v2⟩))))
        · rw [if_neg q] at u2
          by_cases q4 : wE B (-3) (len - s) s - s ≤ 4
          · rw [if_pos ⟨q, q4⟩] at v2
            rw [show min (wE B (-3) (len - s) s - s) 4 = wE B (-3) (len - s) s - s by omega] at v3
            exact Or.inr (Or.inr (Or.inl ⟨ws, by omega, u2, q4, v2, v3, fun i i1 i2 => (so_cases (B i) (h.2.2.2 i (by omega)).1).2.1.mp (wi.2 i i1 i2)⟩))
          · rw [if_neg (fun z => q4 z.2)] at v2
            exact Or.inr (Or.inr (Or.inr (Or.inl ⟨ws, by omega, u2, by omega, v2⟩)))
      · have no : ¬ (soS (B s) = -2 ∨ soS (B s) = -3) := by rintro (z | z); exact cl z; exact cd z
        obtain ⟨u1, u2⟩ := x2 no
        obtain ⟨v1, v2, v3⟩ := y3 no
        have nl : ¬ (97 ≤ B s ∧ B s ≤ 122) := fun z => cl ((so_cases (B s) b256).1.mpr z)
        have nd : ¬ (48 ≤ B s ∧ B s ≤ 57) := fun z => cd ((so_cases (B s) b256).2.1.mpr z)
        rw [(so_cases (B s) b256).2.2 nl nd] at u2
        exact ⟨Mc', Mm', s, s + 1, a1, b1, a2, b2, by omega, a3, u1, b3, v1, Or.inr (Or.inr (Or.inr (Or.inr (Or.inr ⟨sl, rfl, u2, v2, v3, nl, nd⟩))))⟩
end
