/-! what both sides are held against: the core of a state as one row of 70 ints -/
abbrev Kv : Type := Nat → Int32
abbrev Ev : Type := Nat → Option (Int32 → Int32 → Int32 → Int32)
def fl (K : Kv) (f k : Nat) : Int32 := K (14 + 7 * f + k)
def clS (v lo hi : Int32) : Int32 := if lo ≤ v then (if v ≤ hi then v else hi) else lo
def kPace (k v : Int32) : Int32 := if k = 1 then v + 1 else if k = 2 then v / 2 else if k = 3 then 2 * (v + 1) else if k = 4 then 0 else if k = 5 then v + 2 else v
def kWorth (k s : Int32) : Int32 := if k = 1 then s + 4 else if k = 2 then 9 - s else if k = 3 then 2 * (s + 4) else if k = 4 then 7 - s else if k = 5 then s * s else s
def kTurn (k p w : Int32) : Int32 := if k = 1 then 2 * p else if k = 2 then -p else if k = 3 then 2 * p + 3 else if k = 4 then (if -4 ≤ p ∧ p ≤ 4 then 0 else -p) else if k = 5 then p + w else p
def offS (a b : Int32) : Int32 := if a ≤ b then b - a else a - b
def ahS (a b : Int32) : Int32 := if -60 ≤ a - b then (if a - b ≤ 59 then a - b else a - b - 120) else a - b + 120
def gbS (m : Int32) (o : Nat) : Int32 := (m >>> (nI o &&& 31)) &&& 1
def paceS (E : Ev) (K : Kv) (f : Nat) : Int32 := kPace (fl K f 0) (match E 0 with
  | none => 12 - fl K f 3
  | some g => clS (g (fl K f 3) (nI f) 0) 0 40)
def distS (K : Kv) (f g : Nat) : Int32 := offS (fl K f 1) (fl K g 1) + offS (fl K f 2) (fl K g 2)
def pushS (E : Ev) (K : Kv) (f g : Nat) : Int32 := if fl K f 5 ≤ 0 then 0 else if fl K g 5 ≤ 0 then 0 else if gbS (K (6 + f)) g = 1 then 0 else
  match E 1 with
  | none => if K 3 < distS K f g then (if K 4 < distS K f g then 0 else (-ahS (fl K g 4) (fl K f 4)) / 4) else ahS (fl K g 4) (fl K f 4) / 4
  | some e => clS (e (distS K f g) (ahS (fl K g 4) (fl K f 4)) (fl K g 3)) (-20) 20
def psumS (E : Ev) (K : Kv) (f : Nat) : Nat → Int32
  | 0 => 0
  | j + 1 => psumS E K f j + (if j = f then 0 else pushS E K f j)
def drZ (z : Int32) : Int32 := z * 1103515245 + 12345
def drV (z : Int32) : Int32 := (z.toUInt32 >>> ((8 : Int32).toUInt32 &&& Int32.toUInt32 31)).toInt32
/-- the wind's draw comes out of z (with a text: no draw) -/
def windV (E : Ev) (K : Kv) (z : Int32) (f : Nat) : Int32 := match E 2 with
  | none => drV (drZ z) % 11 - 5
  | some g => clS (g (K 2) (nI f) 0) (-30) 30
def windZ (E : Ev) (z : Int32) : Int32 := match E 2 with
  | none => drZ z
  | some _ => z
/-- z ahead of the flame j's turn in a tick -/
def zS (E : Ev) (K : Kv) : Nat → Int32
  | 0 => K 5
  | j + 1 => if fl K j 5 ≤ 0 then zS E K j else if fl K j 0 = 5 then windZ E (zS E K j) else zS E K j
def nextS (E : Ev) (K : Kv) (n f : Nat) : Int32 := fl K f 4 + paceS E K f + kTurn (fl K f 0) (psumS E K f n) (windV E K (zS E K f) f)
def wrapS (v : Int32) : Int32 := if 0 ≤ v % 120 then v % 120 else v % 120 + 120
def flashS (E : Ev) (K : Kv) (n f : Nat) : Int32 := if nextS E K n f < 120 then 0 else 1
/-- a flame's row behind a tick -/
def burnS (E : Ev) (K : Kv) (n f k : Nat) : Int32 := if fl K f 5 ≤ 0 then fl K f k else if k = 4 then wrapS (nextS E K n f) else if k = 5 then clS (fl K f 5 - fl K f 3) 0 999 else if k = 6 then fl K f 6 + flashS E K n f else fl K f k
/-- flames below j have burnt -/
def burntS (E : Ev) (K : Kv) (n j : Nat) : Kv := fun i => if 14 ≤ i ∧ i < 14 + 7 * j then burnS E K n ((i - 14) / 7) ((i - 14) % 7) else if i = 5 then zS E K n else K i
def fsumS (E : Ev) (K : Kv) (n : Nat) : Nat → Int32
  | 0 => 0
  | j + 1 => fsumS E K n j + (if fl K j 5 ≤ 0 then 0 else flashS E K n j)
def tickS (E : Ev) (K : Kv) (n : Nat) : Kv := va_up (burntS E K n n) 2 (K 2 + 1)
def ticksS (E : Ev) (n : Nat) : Nat → Kv → Kv
  | 0, K => K
  | m + 1, K => ticksS E n m (tickS E K n)
/-- what a state keeps to -/
def rg (x : Int32) (lo hi : Nat) : Prop := ∃ j : Nat, lo ≤ j ∧ j < hi ∧ x = nI j
def Inv (K : Kv) (n : Nat) : Prop := n ≤ 8 ∧ K 0 = nI n ∧ (∀ f, f < n → rg (fl K f 0) 0 6 ∧ rg (fl K f 1) 0 30 ∧ rg (fl K f 2) 0 30 ∧ rg (fl K f 3) 1 10 ∧ rg (fl K f 4) 0 120 ∧ rg (fl K f 5) 0 1000) ∧ (∀ i, i < 8 → rg (K (6 + i)) 0 256) ∧ ∀ i, n ≤ i → i < 8 → K (6 + i) = 0
theorem va_up_ne' {α : Type} {f : Nat → α} {k j : Nat} {v : α} (h : j ≠ k) : va_up f k v j = f j := by simp [va_up, h]
theorem va_up_eq' {α : Type} {f : Nat → α} {k : Nat} {v : α} : va_up f k v k = v := by simp [va_up]
theorem if_sp {c : Prop} [Decidable c] {x y : Int32} {M : ctM} : (if c then some (x, M) else some (y, M)) = some (if c then x else y, M) := by split <;> rfl
/-! reading and writing by numbers -/
theorem aI_at {kd ln : Nat → Nat} {t a j n : Nat} {M : ctM} (hk : kd a = t) (hl : ln a = n) (hj : j < n) (hn : n ≤ 5000) : aI kd ln t a (nI j) M = some (M.1 a j) := by
  unfold aI
  rw [nI_clamp (by omega), if_pos ⟨hk, nI_pos (by omega), by omega⟩]
theorem aP_at {kd ln : Nat → Nat} {t a j n : Nat} {M : ctM} (hk : kd a = t) (hl : ln a = n) (hj : j < n) (hn : n ≤ 5000) : aP kd ln t a (nI j) M = M.2 a j := by
  unfold aP
  rw [nI_clamp (by omega), if_pos ⟨hk, nI_pos (by omega), by omega⟩]
theorem sI_at {kd ln : Nat → Nat} {t a j n : Nat} {v : Int32} {M : ctM} (hk : kd a = t) (hl : ln a = n) (hj : j < n) (hn : n ≤ 5000) : sI kd ln t a (nI j) v M = some (ctI M a j v) := by
  unfold sI
  rw [nI_clamp (by omega), if_pos ⟨hk, nI_pos (by omega), by omega⟩]
theorem gI_at {kd : Nat → Nat} {c k a : Nat} {M : ctM} (hk : kd a = c) : gI kd c k a M = some (M.1 a k) := by unfold gI; rw [if_pos hk]
theorem gP_at {kd : Nat → Nat} {c k a : Nat} {M : ctM} (hk : kd a = c) : gP kd c k a M = M.2 a k := by unfold gP; rw [if_pos hk]
theorem pI_at {kd : Nat → Nat} {c k a : Nat} {v : Int32} {M : ctM} (hk : kd a = c) : pI kd c k a v M = some (ctI M a k v) := by unfold pI; rw [if_pos hk]
theorem pP_at {kd : Nat → Nat} {c k a b : Nat} {M : ctM} (hk : kd a = c) : pP kd c k a b M = some (ctP M a k (some b)) := by unfold pP; rw [if_pos hk]
theorem cV_at {α : Type} {kd : Nat → Nat} {c a : Nat} {o : Option α} (hk : kd a = c) : cV kd c a o = o := by unfold cV; rw [if_pos hk]
/-! the model's rows -/
def pMl : List (Option Nat) := [some 1, some 2, some 3, none, some 4, some 5, some 6, some 7, some 8, some 9, some 10, some 11, some 12, some 13, none, none, some 14, some 15, none, none, none, none, none, none, none, none, none, none, none, some 16, some 17, some 18, some 19, none, some 20]
def PM (M : ctM) : Prop := ∀ k, k < 35 → M.2 0 k = pMl.getD k none
theorem gPM {M : ctM} (h : PM M) {k : Nat} (hk : k < 35) : gP kdM 7 k 0 M = pMl.getD k none := (gP_at rfl).trans (h k hk)
theorem PM_I {M : ctM} {a k : Nat} {v : Int32} : PM (ctI M a k v) = PM M := rfl
theorem gM0 {M : ctM} (h : PM M) : gP kdM 7 0 0 M = some 1 := gPM h (by decide)
theorem gM1 {M : ctM} (h : PM M) : gP kdM 7 1 0 M = some 2 := gPM h (by decide)
theorem gM2 {M : ctM} (h : PM M) : gP kdM 7 2 0 M = some 3 := gPM h (by decide)
theorem gM4 {M : ctM} (h : PM M) : gP kdM 7 4 0 M = some 4 := gPM h (by decide)
theorem gM5 {M : ctM} (h : PM M) : gP kdM 7 5 0 M = some 5 := gPM h (by decide)
theorem gM6 {M : ctM} (h : PM M) : gP kdM 7 6 0 M = some 6 := gPM h (by decide)
theorem gM7 {M : ctM} (h : PM M) : gP kdM 7 7 0 M = some 7 := gPM h (by decide)
theorem gM8 {M : ctM} (h : PM M) : gP kdM 7 8 0 M = some 8 := gPM h (by decide)
theorem gM9 {M : ctM} (h : PM M) : gP kdM 7 9 0 M = some 9 := gPM h (by decide)
theorem gM10 {M : ctM} (h : PM M) : gP kdM 7 10 0 M = some 10 := gPM h (by decide)
theorem gM11 {M : ctM} (h : PM M) : gP kdM 7 11 0 M = some 11 := gPM h (by decide)
theorem gM12 {M : ctM} (h : PM M) : gP kdM 7 12 0 M = some 12 := gPM h (by decide)
theorem gM13 {M : ctM} (h : PM M) : gP kdM 7 13 0 M = some 13 := gPM h (by decide)
theorem gM16 {M : ctM} (h : PM M) : gP kdM 7 16 0 M = some 14 := gPM h (by decide)
theorem gM17 {M : ctM} (h : PM M) : gP kdM 7 17 0 M = some 15 := gPM h (by decide)
theorem gM29 {M : ctM} (h : PM M) : gP kdM 7 29 0 M = some 16 := gPM h (by decide)
theorem gM30 {M : ctM} (h : PM M) : gP kdM 7 30 0 M = some 17 := gPM h (by decide)
theorem gM31 {M : ctM} (h : PM M) : gP kdM 7 31 0 M = some 18 := gPM h (by decide)
theorem gM32 {M : ctM} (h : PM M) : gP kdM 7 32 0 M = some 19 := gPM h (by decide)
theorem gM34 {M : ctM} (h : PM M) : gP kdM 7 34 0 M = some 20 := gPM h (by decide)
theorem ctI_1 {M : ctM} {a k : Nat} {v : Int32} : (ctI M a k v).1 a = va_up (M.1 a) k v := by simp [ctI, va_up]
theorem ctI_ne {M : ctM} {a b k : Nat} {v : Int32} (h : b ≠ a) : (ctI M a k v).1 b = M.1 b := by simp [ctI, va_up, h]
theorem ctI_2 {M : ctM} {a k : Nat} {v : Int32} : (ctI M a k v).2 = M.2 := rfl
section
variable {M : ctM}
theorem m_isIn (x a b : Int64) : fX7_isIn x a b M = some (if a ≤ x ∧ x ≤ b then 1 else 0, M) := by
  unfold fX7_isIn
  by_cases h1 : a ≤ x
  · have h2 : ¬ lg_cmp x a < 0 := by have := (lg_cmp_ge x a).mpr h1; exact Int32.not_lt.mpr this
    rw [if_neg h2]
    by_cases h3 : x ≤ b
    · have h4 : ¬ 0 < lg_cmp x b := by
        unfold lg_cmp
        have h5 : ¬ x > b := by simp only [gt_iff_lt, Int64.lt_iff_toInt_lt, Int64.le_iff_toInt_le] at *; omega
        rw [if_neg h5]
        split <;> decide
      rw [if_neg h4, if_pos ⟨h1, h3⟩]
    · have h4 : 0 < lg_cmp x b := by
        unfold lg_cmp
        have h5 : x > b := by simp only [gt_iff_lt, Int64.lt_iff_toInt_lt, Int64.le_iff_toInt_le] at *; omega
        rw [if_pos h5]
        decide
      rw [if_pos h4, if_neg (fun z => h3 z.2)]
  · have h2 : lg_cmp x a < 0 := by
      have := mt (lg_cmp_ge x a).mp h1
      exact Int32.not_le.mp this
    rw [if_pos h2, if_neg (fun z => h1 z.1)]
theorem i64_le (x y : Int32) : x.toInt64 ≤ y.toInt64 ↔ x ≤ y := by
  rw [Int64.le_iff_toInt_le, Int32.le_iff_toInt_le, Int32.toInt_toInt64, Int32.toInt_toInt64]
/-- isIn over ints -/
theorem m_isInI (x a b : Int32) : fX7_isIn x.toInt64 a.toInt64 b.toInt64 M = some (if a ≤ x ∧ x ≤ b then 1 else 0, M) := by
  rw [m_isIn]
  simp only [i64_le]
theorem m_isInL (x : Int32) (a b : Int64) (a' b' : Int32) (ha : a'.toInt64 = a) (hb : b'.toInt64 = b) : fX7_isIn x.toInt64 a b M = some (if a' ≤ x ∧ x ≤ b' then 1 else 0, M) := by
  subst ha; subst hb
  exact m_isInI x a' b'
theorem m_within (x a b : Int32) : fX7_within x a b M = some (clS x a b, M) := by
  unfold fX7_within clS
  by_cases h1 : a ≤ x
  · rw [if_pos h1, if_pos h1]
    by_cases h2 : x ≤ b
    · rw [if_pos h2, if_pos h2]
    · rw [if_neg h2, if_neg h2]
  · rw [if_neg h1, if_neg h1]
theorem m_off (a b : Int32) : fX7_off a b M = some (offS a b, M) := by
  unfold fX7_off offS
  split <;> rfl
theorem m_ahead (a b : Int32) : fX7_ahead a b M = some (ahS a b, M) := by
  unfold fX7_ahead ahS
  split
  · split <;> rfl
  · rfl
theorem m_cV {α : Type} (o : Option α) : cV kdM 7 0 o = o := cV_at rfl
theorem m_s {j : Nat} (h : j < 3070) : aI kdM lnM 9 1 (nI j) M = some (M.1 1 j) := aI_at (n := 3070) rfl rfl h (by omega)
theorem m_ss {j : Nat} {v : Int32} (h : j < 3070) : sI kdM lnM 9 1 (nI j) v M = some (ctI M 1 j v) := sI_at (n := 3070) rfl rfl h (by omega)
theorem m_flameAt (f : Nat) : fX7_flameAt 0 (nI f) M = some (nI (14 + 7 * f), M) := by
  unfold fX7_flameAt
  rw [show (14 : Int32) + 7 * nI f = nI 14 + nI 7 * nI f from rfl, pk_mul, nI_add]
theorem m_textAt (t : Nat) : fX7_textAt 0 (nI t) M = some (nI (70 + 200 * t), M) := by
  unfold fX7_textAt
  rw [show (70 : Int32) + 200 * nI t = nI 70 + nI 200 * nI t from rfl, pk_mul, nI_add]
theorem m_of (h : PM M) (f k : Nat) (hf : 14 + 7 * f + k < 3070) : fX7_of 0 (nI f) (nI k) M = some (fl (M.1 1) f k, M) := by
  unfold fX7_of
  simp only [gM0 h, Option.bind_some, m_cV, m_flameAt, nI_add, m_s hf]
  rfl
theorem m_isLit (h : PM M) (f : Nat) (hf : f < 8) : fX7_isLit 0 (nI f) M = some (if fl (M.1 1) f 5 ≤ 0 then 0 else 1, M) := by
  unfold fX7_isLit
  rw [m_cV, show (5 : Int32) = nI 5 from rfl, m_of h f 5 (by omega)]
  show (if fl (M.1 1) f 5 ≤ 0 then some ((0 : Int32), M) else some (1, M)) = _
  split <;> rfl
theorem m_of0 (h : PM M) {f : Nat} (hf : f < 8) : fX7_of 0 (nI f) 0 M = some (fl (M.1 1) f 0, M) := m_of h f 0 (by omega)
theorem m_of1 (h : PM M) {f : Nat} (hf : f < 8) : fX7_of 0 (nI f) 1 M = some (fl (M.1 1) f 1, M) := m_of h f 1 (by omega)
theorem m_of2 (h : PM M) {f : Nat} (hf : f < 8) : fX7_of 0 (nI f) 2 M = some (fl (M.1 1) f 2, M) := m_of h f 2 (by omega)
theorem m_of3 (h : PM M) {f : Nat} (hf : f < 8) : fX7_of 0 (nI f) 3 M = some (fl (M.1 1) f 3, M) := m_of h f 3 (by omega)
theorem m_of4 (h : PM M) {f : Nat} (hf : f < 8) : fX7_of 0 (nI f) 4 M = some (fl (M.1 1) f 4, M) := m_of h f 4 (by omega)
theorem m_of5 (h : PM M) {f : Nat} (hf : f < 8) : fX7_of 0 (nI f) 5 M = some (fl (M.1 1) f 5, M) := m_of h f 5 (by omega)
theorem m_of6 (h : PM M) {f : Nat} (hf : f < 8) : fX7_of 0 (nI f) 6 M = some (fl (M.1 1) f 6, M) := m_of h f 6 (by omega)
theorem m_s0 : aI kdM lnM 9 1 0 M = some (M.1 1 0) := m_s (j := 0) (by decide)
theorem m_ss0 {v : Int32} : sI kdM lnM 9 1 0 v M = some (ctI M 1 0 v) := m_ss (j := 0) (by decide)
theorem m_s1 : aI kdM lnM 9 1 1 M = some (M.1 1 1) := m_s (j := 1) (by decide)
theorem m_ss1 {v : Int32} : sI kdM lnM 9 1 1 v M = some (ctI M 1 1 v) := m_ss (j := 1) (by decide)
theorem m_s2 : aI kdM lnM 9 1 2 M = some (M.1 1 2) := m_s (j := 2) (by decide)
theorem m_ss2 {v : Int32} : sI kdM lnM 9 1 2 v M = some (ctI M 1 2 v) := m_ss (j := 2) (by decide)
theorem m_s3 : aI kdM lnM 9 1 3 M = some (M.1 1 3) := m_s (j := 3) (by decide)
theorem m_ss3 {v : Int32} : sI kdM lnM 9 1 3 v M = some (ctI M 1 3 v) := m_ss (j := 3) (by decide)
theorem m_s4 : aI kdM lnM 9 1 4 M = some (M.1 1 4) := m_s (j := 4) (by decide)
theorem m_ss4 {v : Int32} : sI kdM lnM 9 1 4 v M = some (ctI M 1 4 v) := m_ss (j := 4) (by decide)
theorem m_s5 : aI kdM lnM 9 1 5 M = some (M.1 1 5) := m_s (j := 5) (by decide)
theorem m_ss5 {v : Int32} : sI kdM lnM 9 1 5 v M = some (ctI M 1 5 v) := m_ss (j := 5) (by decide)
theorem m_n100 {v : Int32} : sI kdM lnM 9 16 100 v M = some (ctI M 16 100 v) := sI_at (j := 100) (n := 128) rfl rfl (by decide) (by decide)
theorem m_n110 {v : Int32} : sI kdM lnM 9 16 110 v M = some (ctI M 16 110 v) := sI_at (j := 110) (n := 128) rfl rfl (by decide) (by decide)
theorem m_n112 {v : Int32} : sI kdM lnM 9 16 112 v M = some (ctI M 16 112 v) := sI_at (j := 112) (n := 128) rfl rfl (by decide) (by decide)
theorem m_n115 {v : Int32} : sI kdM lnM 9 16 115 v M = some (ctI M 16 115 v) := sI_at (j := 115) (n := 128) rfl rfl (by decide) (by decide)
theorem m_n116 {v : Int32} : sI kdM lnM 9 16 116 v M = some (ctI M 16 116 v) := sI_at (j := 116) (n := 128) rfl rfl (by decide) (by decide)
theorem m_gl {f : Nat} (hf : f < 8) : aI kdM lnM 9 1 (6 + nI f) M = some (M.1 1 (6 + f)) := by rw [show (6 : Int32) + nI f = nI (6 + f) from nI_add 6 f]; exact m_s (by omega)
end
