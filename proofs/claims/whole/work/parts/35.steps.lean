/-! steps from phase to phase -/
def litS (K : Kv) (f : Nat) : Bool := decide (¬ fl K f 5 ≤ 0)
def thS (K : Kv) (k : Nat) : Nat → Bool
  | 0 => false
  | j + 1 => thS K k j || (litS K j && decide (fl K j 4 = nI k))
def anS (K : Kv) : Nat → Bool
  | 0 => false
  | j + 1 => anS K j || litS K j
def gpF (P : Nat → Bool) (k : Nat) : Nat → Nat → Nat
  | 0, s => s
  | m + 1, s => if P ((k + s) % 120) = true then s else gpF P k m (s + 1)
def gpS (P : Nat → Bool) (k : Nat) : Nat := gpF P k 119 1
def grS (P : Nat → Bool) : Nat → Nat
  | 0 => 0
  | k + 1 => if P k = true then max (grS P k) (gpS P k) else grS P k
def abS (P : Nat → Bool) (w : Nat) : Nat → Nat
  | 0 => 0
  | k + 1 => if P k = true ∧ w < gpS P k then abS P w k + 1 else abS P w k
def phS (K : Kv) (n : Nat) : Nat → Bool := fun k => thS K k n
/-- NONE: none is lit -/
def spS (K : Kv) (n : Nat) : Int32 := if anS K n = true then nI (120 - grS (phS K n) 120) else -1000000005
def gpsS (K : Kv) (n w : Nat) : Int32 := if anS K n = true then (if abS (phS K n) w 120 = 0 then 1 else nI (abS (phS K n) w 120)) else 0
def IsG (P : Nat → Bool) (k s : Nat) : Prop := 1 ≤ s ∧ s ≤ 120 ∧ (s = 120 ∨ P ((k + s) % 120) = true) ∧ ∀ u, 1 ≤ u → u < s → P ((k + u) % 120) = false
theorem gpF_is (P : Nat → Bool) (k : Nat) : ∀ m s, m + s = 120 → 1 ≤ s → (∀ u, 1 ≤ u → u < s → P ((k + u) % 120) = false) → IsG P k (gpF P k m s) := by
  intro m
  induction m with
  | zero => intro s h1 h2 h3; exact ⟨h2, by simp only [gpF]; omega, Or.inl (by simp only [gpF]; omega), h3⟩
  | succ m ih =>
    intro s h1 h2 h3
    unfold gpF
    by_cases h : P ((k + s) % 120) = true
    · rw [if_pos h]
      exact ⟨h2, by omega, Or.inr h, h3⟩
    · rw [if_neg h]
      refine ih (s + 1) (by omega) (by omega) (fun u u1 u2 => ?_)
      rcases Nat.lt_or_ge u s with q | q
      · exact h3 u u1 q
      · have : u = s := by omega
        subst this
        simpa using h
theorem gpS_is (P : Nat → Bool) (k : Nat) : IsG P k (gpS P k) := gpF_is P k 119 1 (by decide) (by decide) (fun u h1 h2 => by omega)
theorem IsG.uniq {P : Nat → Bool} {k s t : Nat} (h1 : IsG P k s) (h2 : IsG P k t) : s = t := by
  obtain ⟨a1, a2, a3, a4⟩ := h1
  obtain ⟨b1, b2, b3, b4⟩ := h2
  rcases Nat.lt_trichotomy s t with h | h | h
  · rcases a3 with e | e
    · omega
    · have := b4 s a1 h; rw [this] at e; exact absurd e (by decide)
  · exact h
  · rcases b3 with e | e
    · omega
    · have := a4 t b1 h; rw [this] at e; exact absurd e (by decide)
theorem litS_iff {K : Kv} {f : Nat} : litS K f = true ↔ ¬ fl K f 5 ≤ 0 := by simp [litS]
theorem thS_iff {K : Kv} {k : Nat} : ∀ n, thS K k n = true ↔ ∃ f, f < n ∧ ¬ fl K f 5 ≤ 0 ∧ fl K f 4 = nI k := by
  intro n
  induction n with
  | zero => exact ⟨fun h => absurd h (by simp [thS]), fun ⟨f, h, _⟩ => by omega⟩
  | succ j ih =>
    simp only [thS, Bool.or_eq_true, Bool.and_eq_true, decide_eq_true_eq, ih, litS_iff]
    constructor
    · rintro (⟨f, h1, h2⟩ | ⟨h1, h2⟩)
      · exact ⟨f, by omega, h2⟩
      · exact ⟨j, by omega, h1, h2⟩
    · rintro ⟨f, h1, h2, h3⟩
      rcases Nat.lt_or_ge f j with q | q
      · exact Or.inl ⟨f, q, h2, h3⟩
      · have : f = j := by omega
        subst this
        exact Or.inr ⟨h2, h3⟩
theorem anS_iff {K : Kv} : ∀ n, anS K n = true ↔ ∃ f, f < n ∧ ¬ fl K f 5 ≤ 0 := by
  intro n
  induction n with
  | zero => exact ⟨fun h => absurd h (by simp [anS]), fun ⟨f, h, _⟩ => by omega⟩
  | succ j ih =>
    simp only [anS, Bool.or_eq_true, ih, litS_iff]
    constructor
    · rintro (⟨f, h1, h2⟩ | h2)
      · exact ⟨f, by omega, h2⟩
      · exact ⟨j, by omega, h2⟩
    · rintro ⟨f, h1, h2⟩
      rcases Nat.lt_or_ge f j with q | q
      · exact Or.inl ⟨f, q, h2⟩
      · have : f = j := by omega
        subst this
        exact Or.inr h2
theorem grS_spec (P : Nat → Bool) : ∀ N, (∀ k, k < N → P k = true → gpS P k ≤ grS P N) ∧ (grS P N = 0 ∨ ∃ k, k < N ∧ P k = true ∧ gpS P k = grS P N) := by
  intro N
  induction N with
  | zero => exact ⟨fun k h => by omega, Or.inl rfl⟩
  | succ N ih =>
    obtain ⟨h1, h2⟩ := ih
    by_cases h : P N = true
    · simp only [grS, if_pos h]
      refine ⟨fun k hk hp => ?_, ?_⟩
      · rcases Nat.lt_or_ge k N with q | q
        · have := h1 k q hp; omega
        · have : k = N := by omega
          subst this
          omega
      · right
        by_cases hm : grS P N ≤ gpS P N
        · exact ⟨N, by omega, h, by omega⟩
        · rcases h2 with e | ⟨k, a, b, c⟩
          · omega
          · exact ⟨k, by omega, b, by omega⟩
    · simp only [grS, if_neg h]
      refine ⟨fun k hk hp => ?_, ?_⟩
      · rcases Nat.lt_or_ge k N with q | q
        · exact h1 k q hp
        · have : k = N := by omega
          subst this
          exact absurd hp h
      · rcases h2 with e | ⟨k, a, b, c⟩
        · exact Or.inl e
        · exact Or.inr ⟨k, by omega, b, c⟩
theorem grS_le (P : Nat → Bool) (N : Nat) : grS P N ≤ 120 := by
  rcases (grS_spec P N).2 with h | ⟨k, _, _, h⟩
  · omega
  · rw [← h]; exact (gpS_is P k).2.1
theorem abS_le (P : Nat → Bool) (w : Nat) : ∀ N, abS P w N ≤ N := by
  intro N
  induction N with
  | zero => exact Nat.le_refl _
  | succ N ih => simp only [abS]; split <;> omega
/-- the greatest is 0 where none is there, and only there -/
theorem grS_pos {K : Kv} {n : Nat} (hn : ∀ f, f < n → rg (fl K f 4) 0 120) : anS K n = true ↔ 1 ≤ grS (phS K n) 120 := by
  rw [anS_iff]
  constructor
  · rintro ⟨f, h1, h2⟩
    obtain ⟨k, _, k1, k2⟩ := hn f h1
    have := (grS_spec (phS K n) 120).1 k k1 ((thS_iff n).mpr ⟨f, h1, h2, k2⟩)
    have := (gpS_is (phS K n) k).1
    omega
  · intro h
    rcases (grS_spec (phS K n) 120).2 with e | ⟨k, a, b, c⟩
    · omega
    · obtain ⟨f, h1, h2, h3⟩ := (thS_iff n).mp b
      exact ⟨f, h1, h2⟩
/-! what looks only at the 70 -/
def Ag (A B : Kv) : Prop := ∀ j, j < 70 → A j = B j
theorem Ag.rf {A : Kv} : Ag A A := fun _ _ => rfl
theorem Ag.sy {A B : Kv} (h : Ag A B) : Ag B A := fun j hj => (h j hj).symm
theorem Ag.tr {A B C : Kv} (h : Ag A B) (h2 : Ag B C) : Ag A C := fun j hj => (h j hj).trans (h2 j hj)
theorem Ag.up {A B : Kv} (h : Ag A B) (j : Nat) (v : Int32) : Ag (va_up A j v) (va_up B j v) := fun i hi => by unfold va_up; rw [h i hi]
theorem Ag.fl {A B : Kv} (h : Ag A B) {f k : Nat} (hf : f < 8) (hk : k < 7) : fl A f k = fl B f k := h _ (by omega)
section
variable {A B : Kv} {E : Ev} {n : Nat}
theorem Inv.ag (h : Ag A B) (hi : Inv A n) : Inv B n := by
  obtain ⟨h1, h2, h3, h4, h5⟩ := hi
  refine ⟨h1, (h 0 (by decide)).symm.trans h2, fun f hf => ?_, fun i hi => ?_, fun i hi hj => ?_⟩
  · rw [← h.fl (by omega) (by decide), ← h.fl (by omega) (by decide), ← h.fl (by omega) (by decide), ← h.fl (by omega) (by decide), ← h.fl (by omega) (by decide), ← h.fl (by omega) (by decide)]
    exact h3 f hf
  · rw [← h _ (by omega)]; exact h4 i hi
  · rw [← h _ (by omega)]; exact h5 i hi hj
theorem paceS_ag (h : Ag A B) {f : Nat} (hf : f < 8) : paceS E A f = paceS E B f := by simp only [paceS, h.fl hf (show 0 < 7 by decide), h.fl hf (show 3 < 7 by decide)]
theorem pushS_ag (h : Ag A B) {f g : Nat} (hf : f < 8) (hg : g < 8) : pushS E A f g = pushS E B f g := by
  simp only [pushS, distS, h.fl hf (show 1 < 7 by decide), h.fl hf (show 2 < 7 by decide), h.fl hf (show 3 < 7 by decide), h.fl hf (show 4 < 7 by decide), h.fl hf (show 5 < 7 by decide), h.fl hg (show 1 < 7 by decide), h.fl hg (show 2 < 7 by decide), h.fl hg (show 3 < 7 by decide), h.fl hg (show 4 < 7 by decide), h.fl hg (show 5 < 7 by decide), h 3 (by decide), h 4 (by decide), h (6 + f) (by omega)]
  rfl
theorem psumS_ag (h : Ag A B) {f : Nat} (hf : f < 8) : ∀ j, j ≤ 8 → psumS E A f j = psumS E B f j := by
  intro j
  induction j with
  | zero => intro _; rfl
  | succ j ih => intro hj; simp only [psumS, ih (by omega), pushS_ag h hf (show j < 8 by omega)]
theorem zS_ag (h : Ag A B) : ∀ j, j ≤ 8 → zS E A j = zS E B j := by
  intro j
  induction j with
  | zero => intro _; exact h 5 (by decide)
  | succ j ih => intro hj; simp only [zS, ih (by omega), h.fl (show j < 8 by omega) (show 5 < 7 by decide), h.fl (show j < 8 by omega) (show 0 < 7 by decide)]
theorem nextS_ag (h : Ag A B) (hn : n ≤ 8) {f : Nat} (hf : f < 8) : nextS E A n f = nextS E B n f := by
  simp only [nextS, h.fl hf (show 4 < 7 by decide), h.fl hf (show 0 < 7 by decide), paceS_ag h hf, psumS_ag h hf n hn, zS_ag h f (by omega), windV, h 2 (by decide)]
theorem flashS_ag (h : Ag A B) (hn : n ≤ 8) {f : Nat} (hf : f < 8) : flashS E A n f = flashS E B n f := by simp only [flashS, nextS_ag h hn hf]
theorem fsumS_ag (h : Ag A B) (hn : n ≤ 8) : ∀ j, j ≤ 8 → fsumS E A n j = fsumS E B n j := by
  intro j
  induction j with
  | zero => intro _; rfl
  | succ j ih => intro hj; simp only [fsumS, ih (by omega), h.fl (show j < 8 by omega) (show 5 < 7 by decide), flashS_ag h hn (show j < 8 by omega)]
theorem burnS_ag (h : Ag A B) (hn : n ≤ 8) {f k : Nat} (hf : f < 8) (hk : k < 7) : burnS E A n f k = burnS E B n f k := by
  simp only [burnS, h.fl hf hk, h.fl hf (show 3 < 7 by decide), h.fl hf (show 5 < 7 by decide), h.fl hf (show 6 < 7 by decide), nextS_ag h hn hf, flashS_ag h hn hf]
theorem tickS_ag (h : Ag A B) (hn : n ≤ 8) : Ag (tickS E A n) (tickS E B n) := by
  unfold tickS
  rw [h 2 (by decide)]
  refine Ag.up (fun i hi => ?_) 2 _
  unfold burntS
  by_cases h1 : 14 ≤ i ∧ i < 14 + 7 * n
  · rw [if_pos h1, if_pos h1, burnS_ag h hn (by omega) (by omega)]
  · rw [if_neg h1, if_neg h1, zS_ag h n hn, h i hi]
theorem thS_ag (h : Ag A B) {k : Nat} : ∀ j, j ≤ 8 → thS A k j = thS B k j := by
  intro j
  induction j with
  | zero => intro _; rfl
  | succ j ih => intro hj; simp only [thS, litS, ih (by omega), h.fl (show j < 8 by omega) (show 5 < 7 by decide), h.fl (show j < 8 by omega) (show 4 < 7 by decide)]
theorem anS_ag (h : Ag A B) : ∀ j, j ≤ 8 → anS A j = anS B j := by
  intro j
  induction j with
  | zero => intro _; rfl
  | succ j ih => intro hj; simp only [anS, litS, ih (by omega), h.fl (show j < 8 by omega) (show 5 < 7 by decide)]
theorem phS_ag (h : Ag A B) (hn : n ≤ 8) : phS A n = phS B n := by funext k; exact thS_ag h n hn
theorem spS_ag (h : Ag A B) (hn : n ≤ 8) : spS A n = spS B n := by simp only [spS, phS_ag h hn, anS_ag h n hn]
theorem gpsS_ag (h : Ag A B) (hn : n ≤ 8) {w : Nat} : gpsS A n w = gpsS B n w := by simp only [gpsS, phS_ag h hn, anS_ag h n hn]
/-! a tick keeps what a state keeps to -/
theorem i_m (x : Int32) : (x % 120).toInt = x.toInt.tmod 120 := by
  rw [Int32.toInt_mod]
  rfl
theorem wrap_rg (v : Int32) : rg (wrapS v) 0 120 := by
  have e : (v % 120).toInt = v.toInt.tmod 120 := i_m v
  have b1 : (v % 120).toInt < 120 := by rw [e]; exact Int.tmod_lt_of_pos _ (by decide)
  have b2 : -120 < (v % 120).toInt := by rw [e]; have := Int.lt_tmod_of_pos v.toInt (show (0 : Int) < 120 by decide); exact this
  unfold wrapS
  by_cases h : 0 ≤ v % 120
  · rw [if_pos h]
    rw [Int32.le_iff_toInt_le, show (0 : Int32).toInt = 0 from rfl] at h
    refine ⟨(v % 120).toInt.toNat, Nat.zero_le _, by omega, ?_⟩
    apply Int32.toInt_inj.mp
    rw [nI_toInt (by omega)]
    omega
  · rw [if_neg h]
    rw [Int32.le_iff_toInt_le, show (0 : Int32).toInt = 0 from rfl] at h
    refine ⟨((v % 120).toInt + 120).toNat, Nat.zero_le _, by omega, ?_⟩
    apply Int32.toInt_inj.mp
    rw [nI_toInt (by omega), Int32.toInt_add, show (120 : Int32).toInt = 120 from rfl]
    rw [Int.bmod_eq_of_le (by omega) (by omega)]
    omega
set_option maxRecDepth 100000 in
theorem cl_rg_ : ∀ j, j < 10 → ∀ i, i < 1000 → clS (nI i - nI j) 0 999 = nI (i - j) := by decide +kernel
theorem cl_rg {x y : Int32} (hx : rg x 0 1000) (hy : rg y 1 10) : rg (clS (x - y) 0 999) 0 1000 := by
  obtain ⟨i, _, h1, rfl⟩ := hx
  obtain ⟨j, _, h2, rfl⟩ := hy
  exact ⟨i - j, Nat.zero_le _, by omega, cl_rg_ j h2 i h1⟩
theorem tick_fl {K : Kv} {f k : Nat} (hf : f < n) (hk : k < 7) : fl (tickS E K n) f k = burnS E K n f k := by
  unfold fl tickS
  rw [va_up_ne' (by omega)]
  unfold burntS
  rw [if_pos (by omega), show (14 + 7 * f + k - 14) / 7 = f by omega, show (14 + 7 * f + k - 14) % 7 = k by omega]
theorem tick_o {K : Kv} {j : Nat} (h : j < 14 ∨ 14 + 7 * n ≤ j) (h2 : j ≠ 2) (h5 : j ≠ 5) : tickS E K n j = K j := by
  unfold tickS
  rw [va_up_ne' h2]
  unfold burntS
  rw [if_neg (by omega), if_neg h5]
theorem tick_inv {K : Kv} (hi : Inv K n) : Inv (tickS E K n) n := by
  obtain ⟨h1, h2, h3, h4, h5⟩ := hi
  refine ⟨h1, (tick_o (by omega) (by decide) (by decide)).trans h2, fun f hf => ?_, fun i hi => ?_, fun i hi hj => ?_⟩
  · rw [tick_fl hf (by decide), tick_fl hf (by decide), tick_fl hf (by decide), tick_fl hf (by decide), tick_fl hf (by decide), tick_fl hf (by decide)]
    obtain ⟨a1, a2, a3, a4, a5, a6⟩ := h3 f hf
    unfold burnS
    by_cases hl : fl K f 5 ≤ 0
    · simp only [if_pos hl]
      exact ⟨a1, a2, a3, a4, a5, a6⟩
    · simp only [if_neg hl]
      exact ⟨a1, a2, a3, a4, wrap_rg _, cl_rg a6 a4⟩
  · rw [tick_o (by omega) (by omega) (by omega)]; exact h4 i hi
  · rw [tick_o (by omega) (by omega) (by omega)]; exact h5 i hi hj
end
