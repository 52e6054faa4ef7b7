/-! what a text gives, on both sides -/
def isOp (x : Int32) : Prop := x = 38 ∨ x = 42 ∨ x = 43 ∨ x = 45 ∨ x = 47 ∨ x = 60 ∨ x = 61 ∨ x = 62 ∨ x = 124
def wkS (c p q : Int32) : Int32 :=
  if c = 33 then (if p = 0 then 1 else 0) else if c = 38 then (if p = 0 then 0 else if q = 0 then 0 else 1) else if c = 42 then p * q else if c = 43 then p + q else if c = 45 then p - q else
  if c = 47 then (if q = 0 then 0 else p / q) else if c = 60 then (if q ≤ p then 0 else 1) else if c = 61 then (if p = q then 1 else 0) else if c = 62 then (if p ≤ q then 0 else 1) else
  if c = 124 then (if p = 0 then (if q = 0 then 0 else 1) else 1) else 0
theorem i_div1 (p : Int32) : p / (-1) = -p := by
  apply Int32.toInt_inj.mp
  rw [Int32.toInt_div, show (-1 : Int32).toInt = -1 from rfl, Int32.toInt_neg, Int.tdiv_neg, Int.tdiv_one]
section
variable {M : ctM}
theorem c_work (c p q : Int32) : fX1_work c p q M = some (wkS c p q, M) := by
  unfold fX1_work fX1_work_b100 wkS
  by_cases h33 : c = 33
  · rw [if_pos h33, if_pos h33]
    by_cases z : p = 0
    · rw [if_pos z, if_pos z]
    · rw [if_neg z, if_neg z]
  rw [if_neg h33, if_neg h33]
  by_cases h38 : c = 38
  · rw [if_pos h38, if_pos h38]
    by_cases z : p = 0
    · rw [if_pos z, if_pos z]
    · rw [if_neg z, if_neg z]
      by_cases z2 : q = 0
      · rw [if_pos z2, if_pos z2]
      · rw [if_neg z2, if_neg z2]
  rw [if_neg h38, if_neg h38]
  by_cases h42 : c = 42
  · rw [if_pos h42, if_pos h42]
  rw [if_neg h42, if_neg h42]
  by_cases h43 : c = 43
  · rw [if_pos h43, if_pos h43]
  rw [if_neg h43, if_neg h43]
  by_cases h45 : c = 45
  · rw [if_pos h45, if_pos h45]
  rw [if_neg h45, if_neg h45]
  by_cases h47 : c = 47
  · rw [if_pos h47, if_pos h47]
    by_cases z : q = 0
    · rw [if_pos z, if_pos z]
    · rw [if_neg z, if_neg z, if_neg z]
  rw [if_neg h47, if_neg h47]
  by_cases h60 : c = 60
  · rw [if_pos h60, if_pos h60]
    by_cases z : q ≤ p
    · rw [if_pos z, if_pos z]
    · rw [if_neg z, if_neg z]
  rw [if_neg h60, if_neg h60]
  by_cases h61 : c = 61
  · rw [if_pos h61, if_pos h61]
    by_cases z : p = q
    · rw [if_pos z, if_pos z]
    · rw [if_neg z, if_neg z]
  rw [if_neg h61, if_neg h61]
  by_cases h62 : c = 62
  · rw [if_pos h62, if_pos h62]
    by_cases z : p ≤ q
    · rw [if_pos z, if_pos z]
    · rw [if_neg z, if_neg z]
  rw [if_neg h62, if_neg h62]
  by_cases h124 : c = 124
  · rw [if_pos h124, if_pos h124]
    by_cases z : p = 0
    · rw [if_pos z, if_pos z]
      by_cases z2 : q = 0
      · rw [if_pos z2, if_pos z2]
      · rw [if_neg z2, if_neg z2]
    · rw [if_neg z, if_neg z]
  rw [if_neg h124, if_neg h124]
theorem m_joined (c p q : Int32) (h : isOp c) : fX7_joined c p q M = some (wkS c p q, M) := by
  have n33 : ¬ c = 33 := by rintro rfl; revert h; unfold isOp; decide
  unfold fX7_joined fX7_joined_b197 fX7_joined_b205 wkS
  rw [if_neg n33]
  by_cases h38 : c = 38
  · rw [if_pos h38, if_pos h38]
    by_cases z : p = 0
    · rw [if_pos z, if_pos z]
    · rw [if_neg z, if_neg z]
      by_cases z2 : q = 0
      · rw [if_pos z2, if_pos z2]
      · rw [if_neg z2, if_neg z2]
  rw [if_neg h38, if_neg h38]
  by_cases h42 : c = 42
  · rw [if_pos h42, if_pos h42]
  rw [if_neg h42, if_neg h42]
  by_cases h43 : c = 43
  · rw [if_pos h43, if_pos h43]
  rw [if_neg h43, if_neg h43]
  by_cases h45 : c = 45
  · rw [if_pos h45, if_pos h45]
  rw [if_neg h45, if_neg h45]
  by_cases h47 : c = 47
  · rw [if_pos h47, if_pos h47]
    by_cases z : q = 0
    · rw [if_pos z, if_pos z]
    · rw [if_neg z, if_neg z]
      by_cases q1 : q = -1
      · rw [if_pos q1, if_neg z, q1, i_div1]
      · rw [if_neg q1, if_neg z]
  rw [if_neg h47, if_neg h47]
  by_cases h60 : c = 60
  · rw [if_pos h60, if_pos h60]
    by_cases z : q ≤ p
    · rw [if_pos z, if_pos z]
    · rw [if_neg z, if_neg z]
  rw [if_neg h60, if_neg h60]
  by_cases h61 : c = 61
  · rw [if_pos h61, if_pos h61]
    by_cases z : p = q
    · rw [if_pos z, if_pos z]
    · rw [if_neg z, if_neg z]
  rw [if_neg h61, if_neg h61]
  by_cases h62 : c = 62
  · rw [if_pos h62, if_pos h62]
    by_cases z : p ≤ q
    · rw [if_pos z, if_pos z]
    · rw [if_neg z, if_neg z]
  rw [if_neg h62, if_neg h62]
  have h124 : c = 124 := by
    rcases h with h | h | h | h | h | h | h | h | h
    all_goals first | exact h | exact absurd h (by assumption)
  rw [if_pos h124]
  by_cases z : p = 0
  · rw [if_pos z, if_pos z]
    by_cases z2 : q = 0
    · rw [if_pos z2, if_pos z2]
    · rw [if_neg z2, if_neg z2]
  · rw [if_neg z, if_neg z]
end
/-- the places of the steps that lie on the pile, the last first -/
def stkS (w v : Nat → Int32) : Nat → List Nat
  | 0 => []
  | k + 1 => if w k = 2 then (if v k = 33 then k :: (stkS w v k).tail else k :: (stkS w v k).tail.tail) else k :: stkS w v k
def naC (key i : Nat) : Nat := if key = 0 then (if i = 0 then 115 else 110) else if key = 1 then (if i = 0 then 100 else if i = 1 then 112 else 115) else (if i = 0 then 116 else 110)
def naN (key : Nat) : Nat := if key = 1 then 3 else 2
def StOk (key : Nat) (w v a l r : Nat → Int32) (k : Nat) (σ : List Nat) : Prop :=
  (w k = 0 ∧ a k = 0 ∧ l k = v k) ∨ (w k = 1 ∧ a k = 1 ∧ ∃ i, i < naN key ∧ l k = nI i ∧ v k = nI (naC key i)) ∨
  (w k = 2 ∧ v k = 33 ∧ a k = 33 ∧ ∃ p τ, σ = p :: τ ∧ l k = nI p ∧ r k = nI p) ∨ (w k = 2 ∧ a k = v k ∧ isOp (v k) ∧ ∃ q p τ, σ = q :: p :: τ ∧ l k = nI p ∧ r k = nI q)
def PrOk (key : Nat) (w v a l r : Nat → Int32) (m : Nat) : Prop := ∀ k, k < m → StOk key w v a l r k (stkS w v k)
def stV (a l r : Nat → Int32) (x y z : Int32) (G : Nat → Int32) (k : Nat) : Int32 := if a k = 0 then l k else if a k = 1 then (if l k = 0 then x else if l k = 1 then y else z) else wkS (a k) (G (l k).toNatClampNeg) (G (r k).toNatClampNeg)
def gvF (a l r : Nat → Int32) (x y z : Int32) : Nat → Nat → Int32
  | 0 => fun _ => 0
  | k + 1 => va_up (gvF a l r x y z k) k (stV a l r x y z (gvF a l r x y z k) k)
def gvS (a l r : Nat → Int32) (x y z : Int32) (k : Nat) : Int32 := stV a l r x y z (gvF a l r x y z k) k
theorem gvF_at {a l r : Nat → Int32} {x y z : Int32} : ∀ k j, j < k → gvF a l r x y z k j = gvS a l r x y z j := by
  intro k
  induction k with
  | zero => intro j hj; omega
  | succ k ih =>
    intro j hj
    unfold gvF
    by_cases e : j = k
    · subst e; rw [va_up_eq']; rfl
    · rw [va_up_ne' e]; exact ih j (by omega)
theorem isOp_ne {x : Int32} (h : isOp x) : ¬ x = 0 ∧ ¬ x = 1 ∧ ¬ x = 33 := by
  unfold isOp at h
  rcases h with h | h | h | h | h | h | h | h | h <;> subst h <;> decide
section
variable {w v a l r : Nat → Int32} {key m : Nat}
theorem stk_lt (h : PrOk key w v a l r m) : ∀ k, k ≤ m → (∀ p, p ∈ stkS w v k → p < k) ∧ (stkS w v k).length ≤ k := by
  intro k
  induction k with
  | zero => intro _; exact ⟨fun p hp => absurd hp List.not_mem_nil, Nat.le_refl _⟩
  | succ k ih =>
    intro hk
    obtain ⟨i1, i2⟩ := ih (by omega)
    have t1 : ∀ p, p ∈ (stkS w v k).tail → p < k := fun p hp => i1 p (List.mem_of_mem_tail hp)
    have t2 : ∀ p, p ∈ (stkS w v k).tail.tail → p < k := fun p hp => t1 p (List.mem_of_mem_tail hp)
    rw [stkS]
    split
    · split
      · refine ⟨fun p hp => ?_, ?_⟩
        · rcases List.mem_cons.mp hp with e | e
          · omega
          · have := t1 p e; omega
        · rw [List.length_cons, List.length_tail]; omega
      · refine ⟨fun p hp => ?_, ?_⟩
        · rcases List.mem_cons.mp hp with e | e
          · omega
          · have := t2 p e; omega
        · rw [List.length_cons, List.length_tail, List.length_tail]; omega
    · refine ⟨fun p hp => ?_, ?_⟩
      · rcases List.mem_cons.mp hp with e | e
        · omega
        · have := i1 p e; omega
      · rw [List.length_cons]; omega
theorem gv_val {x y z : Int32} {k p q : Nat} (hk : ¬ a k = 0 ∧ ¬ a k = 1) (hl : l k = nI p) (hr : r k = nI q) (hp : p < k) (hq : q < k) (hb : k < 2 ^ 31) : gvS a l r x y z k = wkS (a k) (gvS a l r x y z p) (gvS a l r x y z q) := by
  rw [gvS, stV, if_neg hk.1, if_neg hk.2, hl, hr, nI_clamp (by omega), nI_clamp (by omega), gvF_at k p hp, gvF_at k q hq]
/-- the class -/
theorem c_gvLoop {M : ctM} {c : Nat} {x y z : Int32} (pr : PrOk key w v a l r m) (hm : m ≤ 96) (pc : PC M) (hc : isLaw c) (hs : M.1 c 2 = nI m) (hA : ∀ k, k < m → M.1 (c + 1) k = a k) (hL : ∀ k, k < m → M.1 (c + 2) k = l k) (hR : ∀ k, k < m → M.1 (c + 3) k = r k) : ∀ (d i N : Nat) (u : Int32) (M1 : ctM), i + d = m → d < N → ScrC M M1 → (∀ j, j < i → M1.1 (c + 4) j = gvS a l r x y z j) → (0 < i → u = gvS a l r x y z (i - 1)) → 0 < m → ∃ M2, fX1_gives_h6 N c x y z u (nI i) M1 = some (gvS a l r x y z (m - 1), M2) ∧ ScrC M M2 := by
  intro d
  have kc := kC_law hc
  have gv4 : isGv (c + 4) := by rcases hc with h | h <;> omega
  have ng : ∀ b, c ≤ b → b < c + 4 → ¬ isGv b := fun b h1 h2 => by rcases hc with h | h <;> omega
  induction d with
  | zero =>
    intro i N u M1 hi hN s g hu h0
    obtain ⟨N, rfl⟩ : ∃ k, N = k + 1 := ⟨N - 1, by omega⟩
    have : i = m := by omega
    subst this
    refine ⟨M1, ?_, s⟩
    rw [fX1_gives_h6, gI_at kc.1, bS, s.2 c (ng c (by omega) (by omega)), hs, if_pos (nI_le (Nat.le_refl _) (by omega)), hu h0]
  | succ d ih =>
    intro i N u M1 hi hN s g hu h0
    obtain ⟨N, rfl⟩ : ∃ k, N = k + 1 := ⟨N - 1, by omega⟩
    have pc1 := s.pc pc
    obtain ⟨p3, p4, p5, p6⟩ := pc1.2.2.2.2 c hc
    have g3 : gP kdC 1 3 c M1 = some (c + 1) := (gP_at kc.1).trans p3
    have g4 : gP kdC 1 4 c M1 = some (c + 2) := (gP_at kc.1).trans p4
    have g5 : gP kdC 1 5 c M1 = some (c + 3) := (gP_at kc.1).trans p5
    have g6 : gP kdC 1 6 c M1 = some (c + 4) := (gP_at kc.1).trans p6
    have a3 : aI kdC lnC 9 (c + 1) (nI i) M1 = some (a i) := by rw [aI_at (n := 96) kc.2.1 kc.2.2.1 (by omega) (by decide), s.2 _ (ng _ (by omega) (by omega)), hA i (by omega)]
    have a4 : aI kdC lnC 9 (c + 2) (nI i) M1 = some (l i) := by rw [aI_at (n := 96) kc.2.2.2.1 kc.2.2.2.2.1 (by omega) (by decide), s.2 _ (ng _ (by omega) (by omega)), hL i (by omega)]
    have a5 : aI kdC lnC 9 (c + 3) (nI i) M1 = some (r i) := by rw [aI_at (n := 96) kc.2.2.2.2.2.1 kc.2.2.2.2.2.2.1 (by omega) (by decide), s.2 _ (ng _ (by omega) (by omega)), hR i (by omega)]
    have a6 : ∀ j, j < 96 → aI kdC lnC 9 (c + 4) (nI j) M1 = some (M1.1 (c + 4) j) := fun j hj => aI_at (n := 96) kc.2.2.2.2.2.2.2.1 kc.2.2.2.2.2.2.2.2 hj (by decide)
    have s6 : ∀ q, sI kdC lnC 9 (c + 4) (nI i) q M1 = some (ctI M1 (c + 4) i q) := fun q => sI_at (n := 96) kc.2.2.2.2.2.2.2.1 kc.2.2.2.2.2.2.2.2 (by omega) (by decide)
    have nle : ¬ nI m ≤ nI i := nI_ge (by omega) (by omega)
    have ts : ScrC M (ctI M1 (c + 4) i (gvS a l r x y z i)) := ⟨s.1, fun b hb => by rw [ctI_ne (fun e => hb (by rw [e]; exact gv4))]; exact s.2 b hb⟩
    obtain ⟨M2, w1, w2⟩ := ih (i + 1) N (gvS a l r x y z i) _ (by omega) (by omega) ts (fun j hj => by
      rw [ctI_1]
      by_cases e : j = i
      · subst e; rw [va_up_eq']
      · rw [va_up_ne' e]; exact g j (by omega)) (fun _ => rfl) h0
    refine ⟨M2, ?_, w2⟩
    have lt := (stk_lt pr i (by omega)).1
    have op : ∀ p q, p < i → q < i → l i = nI p → r i = nI q → ¬ a i = 0 ∧ ¬ a i = 1 → fX1_gives_h6 (N + 1) c x y z u (nI i) M1 = fX1_gives_b108 (fX1_gives_h6 N) c x y z (gvS a l r x y z i) (nI i) M1 := by
      intro p q hp hq el er ha
      rw [fX1_gives_h6, gI_at kc.1, bS, s.2 c (ng c (by omega) (by omega)), hs, if_neg nle, g4, bS, a4, bS, g3, bS, a3, bS, if_neg ha.1, bS, a3, bS, if_neg ha.2, bS, a3, bS, g6, bS, el, a6 p (by omega), bS, bS, g5, bS, a5, bS, er, a6 q (by omega), bS, c_work, bS, g p hp, g q hq, gv_val ha el er hp hq (by omega)]
    have hd : fX1_gives_h6 (N + 1) c x y z u (nI i) M1 = fX1_gives_b108 (fX1_gives_h6 N) c x y z (gvS a l r x y z i) (nI i) M1 := by
      rcases pr i (by omega) with ⟨q1, q2, q3⟩ | ⟨q1, q2, n, n1, n2, n3⟩ | ⟨q1, q2, q3, p, τ, t1, t2, t3⟩ | ⟨q1, q2, q3, q, p, τ, t1, t2, t3⟩
      · rw [fX1_gives_h6, gI_at kc.1, bS, s.2 c (ng c (by omega) (by omega)), hs, if_neg nle, g4, bS, a4, bS, g3, bS, a3, bS, if_pos q2, gvS, stV, if_pos q2]
      · rw [fX1_gives_h6, gI_at kc.1, bS, s.2 c (ng c (by omega) (by omega)), hs, if_neg nle, g4, bS, a4, bS, g3, bS, a3, bS, if_neg (by rw [q2]; decide), bS, a3, bS, if_pos q2]
        have gvv : gvS a l r x y z i = if l i = 0 then x else if l i = 1 then y else z := by rw [gvS, stV, if_neg (by rw [q2]; decide), if_pos q2]
        rw [gvv]
        unfold fX1_gives_b72
        by_cases e0 : l i = 0
        · rw [if_pos e0, if_pos e0]
        · rw [if_neg e0, if_neg e0]
          by_cases e1 : l i = 1
          · rw [if_pos e1, if_pos e1]
          · rw [if_neg e1, if_neg e1]
      · exact op p p (lt p (by rw [t1]; exact List.mem_cons_self)) (lt p (by rw [t1]; exact List.mem_cons_self)) t2 t3 (by rw [q3]; decide)
      · exact op p q (lt p (by rw [t1]; exact List.mem_cons_of_mem _ List.mem_cons_self)) (lt q (by rw [t1]; exact List.mem_cons_self)) t2 t3 (by rw [q2]; exact ⟨(isOp_ne q3).1, (isOp_ne q3).2.1⟩)
    rw [hd]
    unfold fX1_gives_b108
    rw [g6, bS, s6, bS, nI_1]
    exact w1
theorem law_ok {M : ctM} {c : Nat} (pr : PrOk key w v a l r m) (hm : m ≤ 96) (h0 : 0 < m) (hc : isLaw c) (hs : M.1 c 2 = nI m) (hA : ∀ k, k < m → M.1 (c + 1) k = a k) (hL : ∀ k, k < m → M.1 (c + 2) k = l k) (hR : ∀ k, k < m → M.1 (c + 3) k = r k) : LawOk M c (fun x y z => gvS a l r x y z (m - 1)) := by
  intro M' pc he x y z
  have := c_gvLoop (M := M') (c := c) (x := x) (y := y) (z := z) pr hm pc hc (by rw [he c (by omega) (by omega)]; exact hs) (fun k hk => by rw [he _ (by omega) (by omega)]; exact hA k hk) (fun k hk => by rw [he _ (by omega) (by omega)]; exact hL k hk) (fun k hk => by rw [he _ (by omega) (by omega)]; exact hR k hk) m 0 4000 0 M' (by omega) (by omega) ScrC.rf (fun j hj => by omega) (fun z => by omega) h0
  rw [nI_0] at this
  exact this
/-- what lies on the pile -/
def PlS (P : Nat → Int32) (G : Nat → Int32) : List Nat → Prop
  | [] => True
  | p :: τ => P τ.length = G p ∧ PlS P G τ
theorem PlS.up {P G : Nat → Int32} {n : Nat} {u : Int32} : ∀ {τ : List Nat}, PlS P G τ → τ.length ≤ n → PlS (va_up P n u) G τ := by
  intro τ
  induction τ with
  | nil => intro _ _; exact True.intro
  | cons p τ ih =>
    intro h hl
    rw [List.length_cons] at hl
    exact ⟨by rw [va_up_ne' (by omega)]; exact h.1, ih h.2 (by omega)⟩
theorem na_val {N : Kv} : ∀ key i, key < 3 → i < naN key → N (naC key i) = (if nI i = 0 then nm0 key N else if nI i = 1 then nm1 key N else nm2 key N) := by
  intro key i hk hi
  rcases (by omega : key = 0 ∨ key = 1 ∨ key = 2) with rfl | rfl | rfl
  · have : i < 2 := hi
    rcases (by omega : i = 0 ∨ i = 1) with rfl | rfl <;> rfl
  · have : i < 3 := hi
    rcases (by omega : i = 0 ∨ i = 1 ∨ i = 2) with rfl | rfl | rfl <;> rfl
  · have : i < 2 := hi
    rcases (by omega : i = 0 ∨ i = 1) with rfl | rfl <;> rfl
theorem na_lt (key i : Nat) : naC key i < 128 := by unfold naC; (repeat' split) <;> omega
theorem m_wkLoop {M : ctM} {t : Nat} (ht : t < 14) (hkey : key < 3) (pr : PrOk key w v a l r m) (hm : m ≤ 96) (pm : PM M) (hs : M.1 1 (72 + 200 * t) = nI m) (hW : ∀ k, k < m → M.1 1 (74 + 200 * t + 2 * k) = w k) (hV : ∀ k, k < m → M.1 1 (75 + 200 * t + 2 * k) = v k) (h1 : stkS w v m = [m - 1]) : ∀ (d i N : Nat) (M1 : ctM), i + d = m → d < N → M1.2 = M.2 → (∀ b, b ≠ 17 → M1.1 b = M.1 b) → PlS (M1.1 17) (gvS a l r (nm0 key (M.1 16)) (nm1 key (M.1 16)) (nm2 key (M.1 16))) (stkS w v i) → ∃ M2, fX7_worked_h4 N 0 (nI t) (nI (stkS w v i).length) (nI i) M1 = some (gvS a l r (nm0 key (M.1 16)) (nm1 key (M.1 16)) (nm2 key (M.1 16)) (m - 1), M2) ∧ ScrM M M2 := by
  intro d
  induction d with
  | zero =>
    intro i N M1 hi hN e2 eb pl
    obtain ⟨N, rfl⟩ : ∃ k, N = k + 1 := ⟨N - 1, by omega⟩
    have : i = m := by omega
    subst this
    have pm1 : PM M1 := fun k hk => by rw [e2]; exact pm k hk
    refine ⟨M1, ?_, e2, fun b _ h17 => eb b h17⟩
    have p17 : aI kdM lnM 9 17 0 M1 = some (M1.1 17 0) := aI_at (j := 0) (n := 100) rfl rfl (by decide) (by decide)
    rw [fX7_worked_h4, gM0 pm1, bS, m_cV, m_textAt, bS, show nI (70 + 200 * t) + 2 = nI (72 + 200 * t) by rw [show nI (70 + 200 * t) + 2 = nI (70 + 200 * t + 2) from nI_add _ 2]; congr 1; omega, m_s (by omega), bS, eb 1 (by decide), hs, if_pos (nI_le (Nat.le_refl _) (by omega)), gM30 pm1, bS, p17, bS]
    rw [h1] at pl
    rw [show M1.1 17 0 = _ from pl.1]
  | succ d ih =>
    intro i N M1 hi hN e2 eb pl
    obtain ⟨N, rfl⟩ : ∃ k, N = k + 1 := ⟨N - 1, by omega⟩
    have pm1 : PM M1 := fun k hk => by rw [e2]; exact pm k hk
    obtain ⟨lt, ln⟩ := stk_lt pr i (by omega)
    have nle : ¬ nI m ≤ nI i := nI_ge (by omega) (by omega)
    have r17 : ∀ j, j < 100 → aI kdM lnM 9 17 (nI j) M1 = some (M1.1 17 j) := fun j hj => aI_at (n := 100) rfl rfl hj (by decide)
    have s17 : ∀ j q, j < 100 → sI kdM lnM 9 17 (nI j) q M1 = some (ctI M1 17 j q) := fun j q hj => sI_at (n := 100) rfl rfl hj (by decide)
    have go : ∀ (j : Nat) (u : Int32), PlS (va_up (M1.1 17) j u) (gvS a l r (nm0 key (M.1 16)) (nm1 key (M.1 16)) (nm2 key (M.1 16))) (stkS w v (i + 1)) → ∃ M2, fX7_worked_h4 N 0 (nI t) (nI (stkS w v (i + 1)).length) (nI (i + 1)) (ctI M1 17 j u) = some (gvS a l r (nm0 key (M.1 16)) (nm1 key (M.1 16)) (nm2 key (M.1 16)) (m - 1), M2) ∧ ScrM M M2 := fun j u hp => ih (i + 1) N (ctI M1 17 j u) (by omega) (by omega) e2 (fun b hb => (ctI_ne hb).trans (eb b hb)) (by rw [ctI_1]; exact hp)
    have hd : fX7_worked_h4 (N + 1) 0 (nI t) (nI (stkS w v i).length) (nI i) M1 = (if w i = 2 then (if v i = 33 then (aI kdM lnM 9 17 (nI (stkS w v i).length - 1) M1).bind fun x44 => if x44 = 0 then fX7_worked_b123 (fX7_worked_h4 N) 0 (nI t) (nI (stkS w v i).length) (nI i) 17 (nI (stkS w v i).length - 1) 1 M1 else fX7_worked_b123 (fX7_worked_h4 N) 0 (nI t) (nI (stkS w v i).length) (nI i) 17 (nI (stkS w v i).length - 1) 0 M1 else (aI kdM lnM 9 17 ((nI (stkS w v i).length + (-1)) - 1) M1).bind fun x37 => (aI kdM lnM 9 17 (nI (stkS w v i).length + (-1)) M1).bind fun x39 => (fX7_joined (v i) x37 x39 M1).bind fun r40 => (sI kdM lnM 9 17 ((nI (stkS w v i).length + (-1)) - 1) r40.1 r40.2).bind fun M41 => fX7_worked_b157 (fX7_worked_h4 N) 0 (nI t) (nI (stkS w v i).length + (-1)) (nI i) M41) else (if w i = 0 then fX7_worked_b86 (fX7_worked_h4 N) 0 (nI t) (nI (stkS w v i).length) (nI i) 17 (nI (stkS w v i).length) (v i) M1 else (aI kdM lnM 9 16 (v i) M1).bind fun x49 => fX7_worked_b86 (fX7_worked_h4 N) 0 (nI t) (nI (stkS w v i).length) (nI i) 17 (nI (stkS w v i).length) x49 M1)) := by
      have i1 : nI (70 + 200 * t) + 4 + 2 * nI i = nI (74 + 200 * t + 2 * i) := by rw [nI_two, show nI (70 + 200 * t) + 4 = nI (70 + 200 * t + 4) from nI_add _ 4, nI_add]; congr 1; omega
      have i2 : nI (74 + 200 * t + 2 * i) + 1 = nI (75 + 200 * t + 2 * i) := by rw [nI_1]; congr 1; omega
      rw [fX7_worked_h4, gM0 pm1, bS, m_cV, m_textAt, bS, show nI (70 + 200 * t) + 2 = nI (72 + 200 * t) by rw [show nI (70 + 200 * t) + 2 = nI (70 + 200 * t + 2) from nI_add _ 2]; congr 1; omega, m_s (by omega), bS, eb 1 (by decide), hs, if_neg nle, gM0 pm1, bS, m_cV, m_textAt, bS, i1, m_s (by omega), bS, eb 1 (by decide), hW i (by omega), gM0 pm1, bS, m_cV, m_textAt, bS, i1, i2, m_s (by omega), bS, eb 1 (by decide), hV i (by omega)]
      simp only [gM30 pm1, gM29 pm1, bS]
    have q1 : ∀ σ : List Nat, ∀ p τ, σ = p :: τ → nI σ.length - 1 = nI τ.length := fun σ p τ e => by rw [e, List.length_cons, nI_pred]
    have qm : ∀ n : Nat, nI (n + 1) + (-1) = nI n := fun n => by rw [← Int32.sub_eq_add_neg, nI_pred]
    rw [hd]
    rcases pr i (by omega) with ⟨q1', q2, q3⟩ | ⟨q1', q2, n, n1, n2, n3⟩ | ⟨q1', q2, q3, p, τ, t1, t2, t3⟩ | ⟨q1', q2, q3, q, p, τ, t1, t2, t3⟩
    · have es : stkS w v (i + 1) = i :: stkS w v i := by rw [stkS, if_neg (by rw [q1']; decide)]
      obtain ⟨M2, g1, g2⟩ := go (stkS w v i).length (v i) (by
        rw [es]
        exact ⟨by rw [va_up_eq', gvS, stV, if_pos q2, q3], pl.up (Nat.le_refl _)⟩)
      refine ⟨M2, ?_, g2⟩
      rw [if_neg (by rw [q1']; decide), if_pos q1']
      unfold fX7_worked_b86 fX7_worked_b157
      rw [s17 _ _ (by omega), bS, nI_1, nI_1]
      rw [es, List.length_cons] at g1
      exact g1
    · have es : stkS w v (i + 1) = i :: stkS w v i := by rw [stkS, if_neg (by rw [q1']; decide)]
      have r16 : aI kdM lnM 9 16 (nI (naC key n)) M1 = some (M.1 16 (naC key n)) := (aI_at (kd := kdM) (ln := lnM) (t := 9) (a := 16) (n := 128) rfl rfl (na_lt key n) (by decide)).trans (by rw [eb 16 (by decide)])
      obtain ⟨M2, g1, g2⟩ := go (stkS w v i).length (M.1 16 (naC key n)) (by
        rw [es]
        exact ⟨by rw [va_up_eq', gvS, stV, if_neg (by rw [q2]; decide), if_pos q2, n2]; exact na_val key n hkey n1, pl.up (Nat.le_refl _)⟩)
      refine ⟨M2, ?_, g2⟩
      rw [if_neg (by rw [q1']; decide), if_neg (by rw [q1']; decide), n3, r16, bS]
      unfold fX7_worked_b86 fX7_worked_b157
      rw [s17 _ _ (by omega), bS, nI_1, nI_1]
      rw [es, List.length_cons] at g1
      exact g1
    · have es : stkS w v (i + 1) = i :: τ := by rw [stkS, if_pos q1', if_pos q2, t1]; rfl
      rw [t1] at pl ln
      rw [List.length_cons] at ln
      have hv : gvS a l r (nm0 key (M.1 16)) (nm1 key (M.1 16)) (nm2 key (M.1 16)) i = if M1.1 17 τ.length = 0 then 1 else 0 := by
        rw [gv_val (by rw [q3]; decide) t2 t3 (lt p (by rw [t1]; exact List.mem_cons_self)) (lt p (by rw [t1]; exact List.mem_cons_self)) (by omega), q3, wkS, if_pos rfl, pl.1]
      obtain ⟨M2, g1, g2⟩ := go τ.length (gvS a l r (nm0 key (M.1 16)) (nm1 key (M.1 16)) (nm2 key (M.1 16)) i) (by
        rw [es]
        exact ⟨by rw [va_up_eq'], pl.2.up (Nat.le_refl _)⟩)
      refine ⟨M2, ?_, g2⟩
      rw [es, List.length_cons] at g1
      rw [if_pos q1', if_pos q2, q1 _ p τ t1, r17 _ (by omega), bS]
      unfold fX7_worked_b123 fX7_worked_b157
      rw [s17 _ _ (by omega), s17 _ _ (by omega), bS, bS, nI_1, t1, List.length_cons]
      by_cases e0 : M1.1 17 τ.length = 0
      · rw [if_pos e0] at hv ⊢
        rw [← hv]
        exact g1
      · rw [if_neg e0] at hv ⊢
        rw [← hv]
        exact g1
    · have es : stkS w v (i + 1) = i :: τ := by rw [stkS, if_pos q1', if_neg (isOp_ne q3).2.2, t1]; rfl
      rw [t1] at pl ln
      rw [List.length_cons, List.length_cons] at ln
      have hv : gvS a l r (nm0 key (M.1 16)) (nm1 key (M.1 16)) (nm2 key (M.1 16)) i = wkS (v i) (M1.1 17 τ.length) (M1.1 17 (τ.length + 1)) := by
        rw [gv_val (by rw [q2]; exact ⟨(isOp_ne q3).1, (isOp_ne q3).2.1⟩) t2 t3 (lt p (by rw [t1]; exact List.mem_cons_of_mem _ List.mem_cons_self)) (lt q (by rw [t1]; exact List.mem_cons_self)) (by omega), q2]
        have z1 := pl.1
        rw [List.length_cons] at z1
        rw [z1, pl.2.1]
      obtain ⟨M2, g1, g2⟩ := go τ.length (gvS a l r (nm0 key (M.1 16)) (nm1 key (M.1 16)) (nm2 key (M.1 16)) i) (by
        rw [es]
        exact ⟨by rw [va_up_eq'], pl.2.2.up (Nat.le_refl _)⟩)
      refine ⟨M2, ?_, g2⟩
      rw [es, List.length_cons] at g1
      rw [if_pos q1', if_neg (isOp_ne q3).2.2, t1, List.length_cons, List.length_cons, qm, nI_pred, r17 _ (by omega), bS, r17 _ (by omega), bS, m_joined _ _ _ q3, bS, ← hv, s17 _ _ (by omega), bS]
      unfold fX7_worked_b157
      rw [nI_1]
      exact g1
theorem text_ok {S : Kv} {t : Nat} (ht : t < 14) (hkey : key < 3) (pr : PrOk key w v a l r m) (hm : m ≤ 96) (hs : S (72 + 200 * t) = nI m) (hW : ∀ k, k < m → S (74 + 200 * t + 2 * k) = w k) (hV : ∀ k, k < m → S (75 + 200 * t + 2 * k) = v k) (h1 : stkS w v m = [m - 1]) : TextOk key t S (fun x y z => gvS a l r x y z (m - 1)) := by
  intro M pm he
  have := m_wkLoop (M := M) ht hkey pr hm pm (by rw [he _ (by omega) (by omega)]; exact hs) (fun k hk => by rw [he _ (by omega) (by omega)]; exact hW k hk) (fun k hk => by rw [he _ (by omega) (by omega)]; exact hV k hk) h1 m 0 4000 M (by omega) (by omega) rfl (fun _ _ => rfl) True.intro
  rw [nI_0] at this
  exact this
end
