section
variable {B : ctB} {μ : Mi} {R : Nat × Nat × Nat} {post : ctPost} {pc q : Nat} {L : List (Option Value)} {st : List Value} {cs : Nat × Nat} {n : Nat} {M : ctM}
theorem it_t {α : Type} {c : Prop} [Decidable c] {a b r : α} (h : (if c then a else b) = r) (hc : c) : a = r := by rw [if_pos hc] at h; exact h
theorem it_f {α : Type} {c : Prop} [Decidable c] {a b r : α} (h : (if c then a else b) = r) (hc : ¬ c) : b = r := by rw [if_neg hc] at h; exact h
theorem ob {α β : Type} {x : Option α} {f : α → Option β} {r : β} (h : x.bind f = some r) : ∃ y, x = some y ∧ f y = some r := Option.bind_eq_some_iff.mp h
def ctOk (B : ctB) (kd ln : Nat → Nat) (n : Nat) : Prop := ∀ a, kd a < 15 → bKd B a = kd a ∧ bLn B a = ln a ∧ a < n
/-! what is read and written -/
def gI (kd : Nat → Nat) (c k a : Nat) (M : ctM) : Option Int32 := if kd a = c then some (M.1 a k) else none
def gP (kd : Nat → Nat) (c k a : Nat) (M : ctM) : Option Nat := if kd a = c then M.2 a k else none
def pI (kd : Nat → Nat) (c k a : Nat) (v : Int32) (M : ctM) : Option ctM := if kd a = c then some (ctI M a k v) else none
def pP (kd : Nat → Nat) (c k a b : Nat) (M : ctM) : Option ctM := if kd a = c then some (ctP M a k (some b)) else none
def aI (kd ln : Nat → Nat) (t a : Nat) (i : Int32) (M : ctM) : Option Int32 := if kd a = t ∧ ¬ i < 0 ∧ i.toNatClampNeg < ln a then some (M.1 a i.toNatClampNeg) else none
def aP (kd ln : Nat → Nat) (t a : Nat) (i : Int32) (M : ctM) : Option Nat := if kd a = t ∧ ¬ i < 0 ∧ i.toNatClampNeg < ln a then M.2 a i.toNatClampNeg else none
def sI (kd ln : Nat → Nat) (t a : Nat) (i v : Int32) (M : ctM) : Option ctM := if kd a = t ∧ ¬ i < 0 ∧ i.toNatClampNeg < ln a then some (ctI M a i.toNatClampNeg v) else none
def sP (kd ln : Nat → Nat) (t c a : Nat) (i : Int32) (b : Nat) (M : ctM) : Option ctM := if kd a = t ∧ kd b = c ∧ ¬ i < 0 ∧ i.toNatClampNeg < ln a then some (ctP M a i.toNatClampNeg (some b)) else none

theorem ct_iconst {z : Int} {v : Int32} (hd : decode μ.2.1 pc = .ok (.iconst z, 1)) (hv : Int32.ofInt z = v) (hp : pc + 1 = q) (K : ctV B μ R post q (L) (.int v :: st) cs n M) : ctV B μ R post pc (L) (st) cs n M := by
  subst hp
  exact fun p e s m args below meth c H locs ls C w S h => lv_iconst C.1 C.2.1 hd hv (K p e s m args below meth c H locs ls C w S h)
theorem ct_bipush {z : Int} {v : Int32} (hd : decode μ.2.1 pc = .ok (.bipush z, 2)) (hv : (Int8.ofInt z).toInt32 = v) (hp : pc + 2 = q) (K : ctV B μ R post q (L) (.int v :: st) cs n M) : ctV B μ R post pc (L) (st) cs n M := by
  subst hp
  exact fun p e s m args below meth c H locs ls C w S h => lv_bipush C.1 C.2.1 hd hv (K p e s m args below meth c H locs ls C w S h)
theorem ct_sipush {z : Int} {v : Int32} (hd : decode μ.2.1 pc = .ok (.sipush z, 3)) (hv : (Int16.ofInt z).toInt32 = v) (hp : pc + 3 = q) (K : ctV B μ R post q (L) (.int v :: st) cs n M) : ctV B μ R post pc (L) (st) cs n M := by
  subst hp
  exact fun p e s m args below meth c H locs ls C w S h => lv_sipush C.1 C.2.1 hd hv (K p e s m args below meth c H locs ls C w S h)
theorem ct_lconst {z : Fin 2} {v : Int64} (hd : decode μ.2.1 pc = .ok (.lconst z, 1)) (hv : Int64.ofNat (z : Nat) = v) (hp : pc + 1 = q) (K : ctV B μ R post q (L) (.long v :: st) cs n M) : ctV B μ R post pc (L) (st) cs n M := by
  subst hp
  exact fun p e s m args below meth c H locs ls C w S h => lv_lconst C.1 C.2.1 hd hv (K p e s m args below meth c H locs ls C w S h)
theorem ct_ldc {i : Nat} {v : Int32} (hd : decode μ.2.1 pc = .ok (.ldc i, 2)) (hw : Cond.constant μ.1.cls i v ∈ ctG) (hp : pc + 2 = q) (K : ctV B μ R post q (L) (.int v :: st) cs n M) : ctV B μ R post pc (L) (st) cs n M := by
  subst hp
  exact fun p e s m args below meth c H locs ls C w S h => lv_ldc C.1 C.2.1 C.2.2.2.1 (C.2.2.2.2.1 _ hw) hd (K p e s m args below meth c H locs ls C w S h)
theorem ct_ldcw {i : Nat} {v : Int32} (hd : decode μ.2.1 pc = .ok (.ldc_w i, 3)) (hw : Cond.constant μ.1.cls i v ∈ ctG) (hp : pc + 3 = q) (K : ctV B μ R post q (L) (.int v :: st) cs n M) : ctV B μ R post pc (L) (st) cs n M := by
  subst hp
  exact fun p e s m args below meth c H locs ls C w S h => lv_ldcw C.1 C.2.1 C.2.2.2.1 (C.2.2.2.2.1 _ hw) hd (K p e s m args below meth c H locs ls C w S h)
theorem ct_ldc2 {i : Nat} {v : Int64} (hd : decode μ.2.1 pc = .ok (.ldc2_w i, 3)) (hw : Cond.constantLong μ.1.cls i v ∈ ctG) (hp : pc + 3 = q) (K : ctV B μ R post q (L) (.long v :: st) cs n M) : ctV B μ R post pc (L) (st) cs n M := by
  subst hp
  exact fun p e s m args below meth c H locs ls C w S h => lv_ldc2 C.1 C.2.1 C.2.2.2.1 (C.2.2.2.2.1 _ hw) hd (K p e s m args below meth c H locs ls C w S h)
theorem ct_null  (hd : decode μ.2.1 pc = .ok (.aconst_null, 1)) (hp : pc + 1 = q) (K : ctV B μ R post q (L) (.null :: st) cs n M) : ctV B μ R post pc (L) (st) cs n M := by
  subst hp
  exact fun p e s m args below meth c H locs ls C w S h => lv_null C.1 C.2.1 hd (K p e s m args below meth c H locs ls C w S h)
theorem ct_iload_0 {x : Int32}  {l : List (Option Value)} (hd : decode μ.2.1 pc = .ok (.iload_n 0, 1)) (hp : pc + 1 = q) (K : ctV B μ R post q (some (.int x) :: l) (.int x :: st) cs n M) : ctV B μ R post pc (some (.int x) :: l) (st) cs n M := by
  subst hp
  exact fun p e s m args below meth c H locs ls C w S h => lv_iload_n C.1 C.2.1 hd rfl (h.2.2 0 _ rfl) (K p e s m args below meth c H locs ls C w S h)
theorem ct_aload_0 {x : Nat}  {l : List (Option Value)} (hd : decode μ.2.1 pc = .ok (.aload_n 0, 1)) (hp : pc + 1 = q) (K : ctV B μ R post q (some (.ref x) :: l) (.ref x :: st) cs n M) : ctV B μ R post pc (some (.ref x) :: l) (st) cs n M := by
  subst hp
  exact fun p e s m args below meth c H locs ls C w S h => lv_aload_n C.1 C.2.1 hd rfl (h.2.2 0 _ rfl) (K p e s m args below meth c H locs ls C w S h)
theorem ct_lload_0 {x : Int64}  {l : List (Option Value)} (hd : decode μ.2.1 pc = .ok (.lload_n 0, 1)) (hp : pc + 1 = q) (K : ctV B μ R post q (some (.long x) :: l) (.long x :: st) cs n M) : ctV B μ R post pc (some (.long x) :: l) (st) cs n M := by
  subst hp
  exact fun p e s m args below meth c H locs ls C w S h => lv_lload_n C.1 C.2.1 hd rfl (h.2.2 0 _ rfl) (K p e s m args below meth c H locs ls C w S h)
theorem ct_iload_1 {x : Int32} {x0 : Option Value} {l : List (Option Value)} (hd : decode μ.2.1 pc = .ok (.iload_n 1, 1)) (hp : pc + 1 = q) (K : ctV B μ R post q (x0 :: some (.int x) :: l) (.int x :: st) cs n M) : ctV B μ R post pc (x0 :: some (.int x) :: l) (st) cs n M := by
  subst hp
  exact fun p e s m args below meth c H locs ls C w S h => lv_iload_n C.1 C.2.1 hd rfl (h.2.2 1 _ rfl) (K p e s m args below meth c H locs ls C w S h)
theorem ct_aload_1 {x : Nat} {x0 : Option Value} {l : List (Option Value)} (hd : decode μ.2.1 pc = .ok (.aload_n 1, 1)) (hp : pc + 1 = q) (K : ctV B μ R post q (x0 :: some (.ref x) :: l) (.ref x :: st) cs n M) : ctV B μ R post pc (x0 :: some (.ref x) :: l) (st) cs n M := by
  subst hp
  exact fun p e s m args below meth c H locs ls C w S h => lv_aload_n C.1 C.2.1 hd rfl (h.2.2 1 _ rfl) (K p e s m args below meth c H locs ls C w S h)
theorem ct_iload_2 {x : Int32} {x0 : Option Value} {x1 : Option Value} {l : List (Option Value)} (hd : decode μ.2.1 pc = .ok (.iload_n 2, 1)) (hp : pc + 1 = q) (K : ctV B μ R post q (x0 :: x1 :: some (.int x) :: l) (.int x :: st) cs n M) : ctV B μ R post pc (x0 :: x1 :: some (.int x) :: l) (st) cs n M := by
  subst hp
  exact fun p e s m args below meth c H locs ls C w S h => lv_iload_n C.1 C.2.1 hd rfl (h.2.2 2 _ rfl) (K p e s m args below meth c H locs ls C w S h)
theorem ct_aload_2 {x : Nat} {x0 : Option Value} {x1 : Option Value} {l : List (Option Value)} (hd : decode μ.2.1 pc = .ok (.aload_n 2, 1)) (hp : pc + 1 = q) (K : ctV B μ R post q (x0 :: x1 :: some (.ref x) :: l) (.ref x :: st) cs n M) : ctV B μ R post pc (x0 :: x1 :: some (.ref x) :: l) (st) cs n M := by
  subst hp
  exact fun p e s m args below meth c H locs ls C w S h => lv_aload_n C.1 C.2.1 hd rfl (h.2.2 2 _ rfl) (K p e s m args below meth c H locs ls C w S h)
theorem ct_lload_2 {x : Int64} {x0 : Option Value} {x1 : Option Value} {l : List (Option Value)} (hd : decode μ.2.1 pc = .ok (.lload_n 2, 1)) (hp : pc + 1 = q) (K : ctV B μ R post q (x0 :: x1 :: some (.long x) :: l) (.long x :: st) cs n M) : ctV B μ R post pc (x0 :: x1 :: some (.long x) :: l) (st) cs n M := by
  subst hp
  exact fun p e s m args below meth c H locs ls C w S h => lv_lload_n C.1 C.2.1 hd rfl (h.2.2 2 _ rfl) (K p e s m args below meth c H locs ls C w S h)
theorem ct_iload_3 {x : Int32} {x0 : Option Value} {x1 : Option Value} {x2 : Option Value} {l : List (Option Value)} (hd : decode μ.2.1 pc = .ok (.iload_n 3, 1)) (hp : pc + 1 = q) (K : ctV B μ R post q (x0 :: x1 :: x2 :: some (.int x) :: l) (.int x :: st) cs n M) : ctV B μ R post pc (x0 :: x1 :: x2 :: some (.int x) :: l) (st) cs n M := by
  subst hp
  exact fun p e s m args below meth c H locs ls C w S h => lv_iload_n C.1 C.2.1 hd rfl (h.2.2 3 _ rfl) (K p e s m args below meth c H locs ls C w S h)
theorem ct_aload_3 {x : Nat} {x0 : Option Value} {x1 : Option Value} {x2 : Option Value} {l : List (Option Value)} (hd : decode μ.2.1 pc = .ok (.aload_n 3, 1)) (hp : pc + 1 = q) (K : ctV B μ R post q (x0 :: x1 :: x2 :: some (.ref x) :: l) (.ref x :: st) cs n M) : ctV B μ R post pc (x0 :: x1 :: x2 :: some (.ref x) :: l) (st) cs n M := by
  subst hp
  exact fun p e s m args below meth c H locs ls C w S h => lv_aload_n C.1 C.2.1 hd rfl (h.2.2 3 _ rfl) (K p e s m args below meth c H locs ls C w S h)
theorem ct_iload_4 {x : Int32} {x0 : Option Value} {x1 : Option Value} {x2 : Option Value} {x3 : Option Value} {l : List (Option Value)} (hd : decode μ.2.1 pc = .ok (.iload 4, 2)) (hp : pc + 2 = q) (K : ctV B μ R post q (x0 :: x1 :: x2 :: x3 :: some (.int x) :: l) (.int x :: st) cs n M) : ctV B μ R post pc (x0 :: x1 :: x2 :: x3 :: some (.int x) :: l) (st) cs n M := by
  subst hp
  exact fun p e s m args below meth c H locs ls C w S h => lv_iload C.1 C.2.1 hd (h.2.2 4 _ rfl) (K p e s m args below meth c H locs ls C w S h)
theorem ct_aload_4 {x : Nat} {x0 : Option Value} {x1 : Option Value} {x2 : Option Value} {x3 : Option Value} {l : List (Option Value)} (hd : decode μ.2.1 pc = .ok (.aload 4, 2)) (hp : pc + 2 = q) (K : ctV B μ R post q (x0 :: x1 :: x2 :: x3 :: some (.ref x) :: l) (.ref x :: st) cs n M) : ctV B μ R post pc (x0 :: x1 :: x2 :: x3 :: some (.ref x) :: l) (st) cs n M := by
  subst hp
  exact fun p e s m args below meth c H locs ls C w S h => lv_aload C.1 C.2.1 hd (h.2.2 4 _ rfl) (K p e s m args below meth c H locs ls C w S h)
theorem ct_lload_4 {x : Int64} {x0 : Option Value} {x1 : Option Value} {x2 : Option Value} {x3 : Option Value} {l : List (Option Value)} (hd : decode μ.2.1 pc = .ok (.lload 4, 2)) (hp : pc + 2 = q) (K : ctV B μ R post q (x0 :: x1 :: x2 :: x3 :: some (.long x) :: l) (.long x :: st) cs n M) : ctV B μ R post pc (x0 :: x1 :: x2 :: x3 :: some (.long x) :: l) (st) cs n M := by
  subst hp
  exact fun p e s m args below meth c H locs ls C w S h => lv_lload C.1 C.2.1 hd (h.2.2 4 _ rfl) (K p e s m args below meth c H locs ls C w S h)
theorem ct_iload_5 {x : Int32} {x0 : Option Value} {x1 : Option Value} {x2 : Option Value} {x3 : Option Value} {x4 : Option Value} {l : List (Option Value)} (hd : decode μ.2.1 pc = .ok (.iload 5, 2)) (hp : pc + 2 = q) (K : ctV B μ R post q (x0 :: x1 :: x2 :: x3 :: x4 :: some (.int x) :: l) (.int x :: st) cs n M) : ctV B μ R post pc (x0 :: x1 :: x2 :: x3 :: x4 :: some (.int x) :: l) (st) cs n M := by
  subst hp
  exact fun p e s m args below meth c H locs ls C w S h => lv_iload C.1 C.2.1 hd (h.2.2 5 _ rfl) (K p e s m args below meth c H locs ls C w S h)
theorem ct_aload_5 {x : Nat} {x0 : Option Value} {x1 : Option Value} {x2 : Option Value} {x3 : Option Value} {x4 : Option Value} {l : List (Option Value)} (hd : decode μ.2.1 pc = .ok (.aload 5, 2)) (hp : pc + 2 = q) (K : ctV B μ R post q (x0 :: x1 :: x2 :: x3 :: x4 :: some (.ref x) :: l) (.ref x :: st) cs n M) : ctV B μ R post pc (x0 :: x1 :: x2 :: x3 :: x4 :: some (.ref x) :: l) (st) cs n M := by
  subst hp
  exact fun p e s m args below meth c H locs ls C w S h => lv_aload C.1 C.2.1 hd (h.2.2 5 _ rfl) (K p e s m args below meth c H locs ls C w S h)
theorem ct_iload_6 {x : Int32} {x0 : Option Value} {x1 : Option Value} {x2 : Option Value} {x3 : Option Value} {x4 : Option Value} {x5 : Option Value} {l : List (Option Value)} (hd : decode μ.2.1 pc = .ok (.iload 6, 2)) (hp : pc + 2 = q) (K : ctV B μ R post q (x0 :: x1 :: x2 :: x3 :: x4 :: x5 :: some (.int x) :: l) (.int x :: st) cs n M) : ctV B μ R post pc (x0 :: x1 :: x2 :: x3 :: x4 :: x5 :: some (.int x) :: l) (st) cs n M := by
  subst hp
  exact fun p e s m args below meth c H locs ls C w S h => lv_iload C.1 C.2.1 hd (h.2.2 6 _ rfl) (K p e s m args below meth c H locs ls C w S h)
theorem ct_aload_6 {x : Nat} {x0 : Option Value} {x1 : Option Value} {x2 : Option Value} {x3 : Option Value} {x4 : Option Value} {x5 : Option Value} {l : List (Option Value)} (hd : decode μ.2.1 pc = .ok (.aload 6, 2)) (hp : pc + 2 = q) (K : ctV B μ R post q (x0 :: x1 :: x2 :: x3 :: x4 :: x5 :: some (.ref x) :: l) (.ref x :: st) cs n M) : ctV B μ R post pc (x0 :: x1 :: x2 :: x3 :: x4 :: x5 :: some (.ref x) :: l) (st) cs n M := by
  subst hp
  exact fun p e s m args below meth c H locs ls C w S h => lv_aload C.1 C.2.1 hd (h.2.2 6 _ rfl) (K p e s m args below meth c H locs ls C w S h)
theorem ct_iload_7 {x : Int32} {x0 : Option Value} {x1 : Option Value} {x2 : Option Value} {x3 : Option Value} {x4 : Option Value} {x5 : Option Value} {x6 : Option Value} {l : List (Option Value)} (hd : decode μ.2.1 pc = .ok (.iload 7, 2)) (hp : pc + 2 = q) (K : ctV B μ R post q (x0 :: x1 :: x2 :: x3 :: x4 :: x5 :: x6 :: some (.int x) :: l) (.int x :: st) cs n M) : ctV B μ R post pc (x0 :: x1 :: x2 :: x3 :: x4 :: x5 :: x6 :: some (.int x) :: l) (st) cs n M := by
  subst hp
  exact fun p e s m args below meth c H locs ls C w S h => lv_iload C.1 C.2.1 hd (h.2.2 7 _ rfl) (K p e s m args below meth c H locs ls C w S h)
theorem ct_aload_7 {x : Nat} {x0 : Option Value} {x1 : Option Value} {x2 : Option Value} {x3 : Option Value} {x4 : Option Value} {x5 : Option Value} {x6 : Option Value} {l : List (Option Value)} (hd : decode μ.2.1 pc = .ok (.aload 7, 2)) (hp : pc + 2 = q) (K : ctV B μ R post q (x0 :: x1 :: x2 :: x3 :: x4 :: x5 :: x6 :: some (.ref x) :: l) (.ref x :: st) cs n M) : ctV B μ R post pc (x0 :: x1 :: x2 :: x3 :: x4 :: x5 :: x6 :: some (.ref x) :: l) (st) cs n M := by
  subst hp
  exact fun p e s m args below meth c H locs ls C w S h => lv_aload C.1 C.2.1 hd (h.2.2 7 _ rfl) (K p e s m args below meth c H locs ls C w S h)
theorem ct_iload_8 {x : Int32} {x0 : Option Value} {x1 : Option Value} {x2 : Option Value} {x3 : Option Value} {x4 : Option Value} {x5 : Option Value} {x6 : Option Value} {x7 : Option Value} {l : List (Option Value)} (hd : decode μ.2.1 pc = .ok (.iload 8, 2)) (hp : pc + 2 = q) (K : ctV B μ R post q (x0 :: x1 :: x2 :: x3 :: x4 :: x5 :: x6 :: x7 :: some (.int x) :: l) (.int x :: st) cs n M) : ctV B μ R post pc (x0 :: x1 :: x2 :: x3 :: x4 :: x5 :: x6 :: x7 :: some (.int x) :: l) (st) cs n M := by
  subst hp
  exact fun p e s m args below meth c H locs ls C w S h => lv_iload C.1 C.2.1 hd (h.2.2 8 _ rfl) (K p e s m args below meth c H locs ls C w S h)
theorem ct_aload_8 {x : Nat} {x0 : Option Value} {x1 : Option Value} {x2 : Option Value} {x3 : Option Value} {x4 : Option Value} {x5 : Option Value} {x6 : Option Value} {x7 : Option Value} {l : List (Option Value)} (hd : decode μ.2.1 pc = .ok (.aload 8, 2)) (hp : pc + 2 = q) (K : ctV B μ R post q (x0 :: x1 :: x2 :: x3 :: x4 :: x5 :: x6 :: x7 :: some (.ref x) :: l) (.ref x :: st) cs n M) : ctV B μ R post pc (x0 :: x1 :: x2 :: x3 :: x4 :: x5 :: x6 :: x7 :: some (.ref x) :: l) (st) cs n M := by
  subst hp
  exact fun p e s m args below meth c H locs ls C w S h => lv_aload C.1 C.2.1 hd (h.2.2 8 _ rfl) (K p e s m args below meth c H locs ls C w S h)
theorem ct_iload_9 {x : Int32} {x0 : Option Value} {x1 : Option Value} {x2 : Option Value} {x3 : Option Value} {x4 : Option Value} {x5 : Option Value} {x6 : Option Value} {x7 : Option Value} {x8 : Option Value} {l : List (Option Value)} (hd : decode μ.2.1 pc = .ok (.iload 9, 2)) (hp : pc + 2 = q) (K : ctV B μ R post q (x0 :: x1 :: x2 :: x3 :: x4 :: x5 :: x6 :: x7 :: x8 :: some (.int x) :: l) (.int x :: st) cs n M) : ctV B μ R post pc (x0 :: x1 :: x2 :: x3 :: x4 :: x5 :: x6 :: x7 :: x8 :: some (.int x) :: l) (st) cs n M := by
  subst hp
  exact fun p e s m args below meth c H locs ls C w S h => lv_iload C.1 C.2.1 hd (h.2.2 9 _ rfl) (K p e s m args below meth c H locs ls C w S h)
theorem ct_aload_9 {x : Nat} {x0 : Option Value} {x1 : Option Value} {x2 : Option Value} {x3 : Option Value} {x4 : Option Value} {x5 : Option Value} {x6 : Option Value} {x7 : Option Value} {x8 : Option Value} {l : List (Option Value)} (hd : decode μ.2.1 pc = .ok (.aload 9, 2)) (hp : pc + 2 = q) (K : ctV B μ R post q (x0 :: x1 :: x2 :: x3 :: x4 :: x5 :: x6 :: x7 :: x8 :: some (.ref x) :: l) (.ref x :: st) cs n M) : ctV B μ R post pc (x0 :: x1 :: x2 :: x3 :: x4 :: x5 :: x6 :: x7 :: x8 :: some (.ref x) :: l) (st) cs n M := by
  subst hp
  exact fun p e s m args below meth c H locs ls C w S h => lv_aload C.1 C.2.1 hd (h.2.2 9 _ rfl) (K p e s m args below meth c H locs ls C w S h)
theorem ct_iload_10 {x : Int32} {x0 : Option Value} {x1 : Option Value} {x2 : Option Value} {x3 : Option Value} {x4 : Option Value} {x5 : Option Value} {x6 : Option Value} {x7 : Option Value} {x8 : Option Value} {x9 : Option Value} {l : List (Option Value)} (hd : decode μ.2.1 pc = .ok (.iload 10, 2)) (hp : pc + 2 = q) (K : ctV B μ R post q (x0 :: x1 :: x2 :: x3 :: x4 :: x5 :: x6 :: x7 :: x8 :: x9 :: some (.int x) :: l) (.int x :: st) cs n M) : ctV B μ R post pc (x0 :: x1 :: x2 :: x3 :: x4 :: x5 :: x6 :: x7 :: x8 :: x9 :: some (.int x) :: l) (st) cs n M := by
  subst hp
  exact fun p e s m args below meth c H locs ls C w S h => lv_iload C.1 C.2.1 hd (h.2.2 10 _ rfl) (K p e s m args below meth c H locs ls C w S h)
theorem ct_aload_10 {x : Nat} {x0 : Option Value} {x1 : Option Value} {x2 : Option Value} {x3 : Option Value} {x4 : Option Value} {x5 : Option Value} {x6 : Option Value} {x7 : Option Value} {x8 : Option Value} {x9 : Option Value} {l : List (Option Value)} (hd : decode μ.2.1 pc = .ok (.aload 10, 2)) (hp : pc + 2 = q) (K : ctV B μ R post q (x0 :: x1 :: x2 :: x3 :: x4 :: x5 :: x6 :: x7 :: x8 :: x9 :: some (.ref x) :: l) (.ref x :: st) cs n M) : ctV B μ R post pc (x0 :: x1 :: x2 :: x3 :: x4 :: x5 :: x6 :: x7 :: x8 :: x9 :: some (.ref x) :: l) (st) cs n M := by
  subst hp
  exact fun p e s m args below meth c H locs ls C w S h => lv_aload C.1 C.2.1 hd (h.2.2 10 _ rfl) (K p e s m args below meth c H locs ls C w S h)
theorem ct_iload_11 {x : Int32} {x0 : Option Value} {x1 : Option Value} {x2 : Option Value} {x3 : Option Value} {x4 : Option Value} {x5 : Option Value} {x6 : Option Value} {x7 : Option Value} {x8 : Option Value} {x9 : Option Value} {x10 : Option Value} {l : List (Option Value)} (hd : decode μ.2.1 pc = .ok (.iload 11, 2)) (hp : pc + 2 = q) (K : ctV B μ R post q (x0 :: x1 :: x2 :: x3 :: x4 :: x5 :: x6 :: x7 :: x8 :: x9 :: x10 :: some (.int x) :: l) (.int x :: st) cs n M) : ctV B μ R post pc (x0 :: x1 :: x2 :: x3 :: x4 :: x5 :: x6 :: x7 :: x8 :: x9 :: x10 :: some (.int x) :: l) (st) cs n M := by
  subst hp
  exact fun p e s m args below meth c H locs ls C w S h => lv_iload C.1 C.2.1 hd (h.2.2 11 _ rfl) (K p e s m args below meth c H locs ls C w S h)
theorem ct_aload_11 {x : Nat} {x0 : Option Value} {x1 : Option Value} {x2 : Option Value} {x3 : Option Value} {x4 : Option Value} {x5 : Option Value} {x6 : Option Value} {x7 : Option Value} {x8 : Option Value} {x9 : Option Value} {x10 : Option Value} {l : List (Option Value)} (hd : decode μ.2.1 pc = .ok (.aload 11, 2)) (hp : pc + 2 = q) (K : ctV B μ R post q (x0 :: x1 :: x2 :: x3 :: x4 :: x5 :: x6 :: x7 :: x8 :: x9 :: x10 :: some (.ref x) :: l) (.ref x :: st) cs n M) : ctV B μ R post pc (x0 :: x1 :: x2 :: x3 :: x4 :: x5 :: x6 :: x7 :: x8 :: x9 :: x10 :: some (.ref x) :: l) (st) cs n M := by
  subst hp
  exact fun p e s m args below meth c H locs ls C w S h => lv_aload C.1 C.2.1 hd (h.2.2 11 _ rfl) (K p e s m args below meth c H locs ls C w S h)
theorem ct_iload_12 {x : Int32} {x0 : Option Value} {x1 : Option Value} {x2 : Option Value} {x3 : Option Value} {x4 : Option Value} {x5 : Option Value} {x6 : Option Value} {x7 : Option Value} {x8 : Option Value} {x9 : Option Value} {x10 : Option Value} {x11 : Option Value} {l : List (Option Value)} (hd : decode μ.2.1 pc = .ok (.iload 12, 2)) (hp : pc + 2 = q) (K : ctV B μ R post q (x0 :: x1 :: x2 :: x3 :: x4 :: x5 :: x6 :: x7 :: x8 :: x9 :: x10 :: x11 :: some (.int x) :: l) (.int x :: st) cs n M) : ctV B μ R post pc (x0 :: x1 :: x2 :: x3 :: x4 :: x5 :: x6 :: x7 :: x8 :: x9 :: x10 :: x11 :: some (.int x) :: l) (st) cs n M := by
  subst hp
  exact fun p e s m args below meth c H locs ls C w S h => lv_iload C.1 C.2.1 hd (h.2.2 12 _ rfl) (K p e s m args below meth c H locs ls C w S h)
theorem ct_aload_12 {x : Nat} {x0 : Option Value} {x1 : Option Value} {x2 : Option Value} {x3 : Option Value} {x4 : Option Value} {x5 : Option Value} {x6 : Option Value} {x7 : Option Value} {x8 : Option Value} {x9 : Option Value} {x10 : Option Value} {x11 : Option Value} {l : List (Option Value)} (hd : decode μ.2.1 pc = .ok (.aload 12, 2)) (hp : pc + 2 = q) (K : ctV B μ R post q (x0 :: x1 :: x2 :: x3 :: x4 :: x5 :: x6 :: x7 :: x8 :: x9 :: x10 :: x11 :: some (.ref x) :: l) (.ref x :: st) cs n M) : ctV B μ R post pc (x0 :: x1 :: x2 :: x3 :: x4 :: x5 :: x6 :: x7 :: x8 :: x9 :: x10 :: x11 :: some (.ref x) :: l) (st) cs n M := by
  subst hp
  exact fun p e s m args below meth c H locs ls C w S h => lv_aload C.1 C.2.1 hd (h.2.2 12 _ rfl) (K p e s m args below meth c H locs ls C w S h)
theorem ct_iload_13 {x : Int32} {x0 : Option Value} {x1 : Option Value} {x2 : Option Value} {x3 : Option Value} {x4 : Option Value} {x5 : Option Value} {x6 : Option Value} {x7 : Option Value} {x8 : Option Value} {x9 : Option Value} {x10 : Option Value} {x11 : Option Value} {x12 : Option Value} {l : List (Option Value)} (hd : decode μ.2.1 pc = .ok (.iload 13, 2)) (hp : pc + 2 = q) (K : ctV B μ R post q (x0 :: x1 :: x2 :: x3 :: x4 :: x5 :: x6 :: x7 :: x8 :: x9 :: x10 :: x11 :: x12 :: some (.int x) :: l) (.int x :: st) cs n M) : ctV B μ R post pc (x0 :: x1 :: x2 :: x3 :: x4 :: x5 :: x6 :: x7 :: x8 :: x9 :: x10 :: x11 :: x12 :: some (.int x) :: l) (st) cs n M := by
  subst hp
  exact fun p e s m args below meth c H locs ls C w S h => lv_iload C.1 C.2.1 hd (h.2.2 13 _ rfl) (K p e s m args below meth c H locs ls C w S h)
theorem ct_aload_13 {x : Nat} {x0 : Option Value} {x1 : Option Value} {x2 : Option Value} {x3 : Option Value} {x4 : Option Value} {x5 : Option Value} {x6 : Option Value} {x7 : Option Value} {x8 : Option Value} {x9 : Option Value} {x10 : Option Value} {x11 : Option Value} {x12 : Option Value} {l : List (Option Value)} (hd : decode μ.2.1 pc = .ok (.aload 13, 2)) (hp : pc + 2 = q) (K : ctV B μ R post q (x0 :: x1 :: x2 :: x3 :: x4 :: x5 :: x6 :: x7 :: x8 :: x9 :: x10 :: x11 :: x12 :: some (.ref x) :: l) (.ref x :: st) cs n M) : ctV B μ R post pc (x0 :: x1 :: x2 :: x3 :: x4 :: x5 :: x6 :: x7 :: x8 :: x9 :: x10 :: x11 :: x12 :: some (.ref x) :: l) (st) cs n M := by
  subst hp
  exact fun p e s m args below meth c H locs ls C w S h => lv_aload C.1 C.2.1 hd (h.2.2 13 _ rfl) (K p e s m args below meth c H locs ls C w S h)
theorem ct_aloadN_3 {x0 x1 x2 : Option Value} {l : List (Option Value)} (hd : decode μ.2.1 pc = .ok (.aload_n 3, 1)) (hp : pc + 1 = q) (K : ctV B μ R post q (x0 :: x1 :: x2 :: some .null :: l) (.null :: st) cs n M) : ctV B μ R post pc (x0 :: x1 :: x2 :: some .null :: l) st cs n M := by
  subst hp
  exact fun p e s m args below meth c H locs ls C w S h => lv_aload_nN C.1 C.2.1 hd rfl (h.2.2 3 _ rfl) (K p e s m args below meth c H locs ls C w S h)
theorem ct_aloadN_2 {x0 x1 : Option Value} {l : List (Option Value)} (hd : decode μ.2.1 pc = .ok (.aload_n 2, 1)) (hp : pc + 1 = q) (K : ctV B μ R post q (x0 :: x1 :: some .null :: l) (.null :: st) cs n M) : ctV B μ R post pc (x0 :: x1 :: some .null :: l) st cs n M := by
  subst hp
  exact fun p e s m args below meth c H locs ls C w S h => lv_aload_nN C.1 C.2.1 hd rfl (h.2.2 2 _ rfl) (K p e s m args below meth c H locs ls C w S h)

def ctL1 : List (Option Value) → Bool
  | [] => true
  | none :: l => ctL1 l
  | some (.long _) :: _ => false
  | some (.double _) :: _ => false
  | some _ :: l => ctL1 l
theorem ctL1_spec : ∀ (L : List (Option Value)), ctL1 L = true → ∀ (i : Nat) (v : Value), L[i]? = some (some v) → v.category = 1 := by
  intro L
  induction L with
  | nil => intro _ i v h; simp at h
  | cons x l ih =>
    intro h i v hi
    cases i with
    | zero =>
      simp at hi
      subst hi
      cases v <;> first | rfl | (simp [ctL1] at h)
    | succ i =>
      simp only [List.getElem?_cons_succ] at hi
      refine ih ?_ i v hi
      cases x with
      | none => exact h
      | some x => cases x <;> first | exact h | (simp [ctL1] at h)
def ctAs (B : ctB) (L : List (Option Value)) : List (Nat × Value) := (List.range L.length).filterMap (fun i => match L[i]? with
  | some (some v) => some (i, ctv B v)
  | _ => none)
theorem ctAs_mem {B : ctB} {L : List (Option Value)} {j : Nat} {y : Value} : (j, y) ∈ ctAs B L ↔ ∃ v, L[j]? = some (some v) ∧ y = ctv B v := by
  unfold ctAs
  rw [List.mem_filterMap]
  constructor
  · rintro ⟨i, -, hi⟩
    cases hL : L[i]? with
    | none => rw [hL] at hi; cases hi
    | some o =>
      cases o with
      | none => rw [hL] at hi; cases hi
      | some v =>
        rw [hL] at hi
        cases hi
        exact ⟨v, hL, rfl⟩
  · rintro ⟨v, hv, rfl⟩
    refine ⟨j, List.mem_range.mpr (List.getElem?_eq_some_iff.mp hv).1, ?_⟩
    rw [hv]
theorem ctLs_as {B : ctB} {nL : Nat} {ls : Array Slot} {L : List (Option Value)} (h : ctLs B nL ls L) : lv_has ls nL (ctAs B L) := by
  refine ⟨h.1, h.2.1, fun q hq => ?_⟩
  obtain ⟨j, y⟩ := q
  obtain ⟨v, h1, h2⟩ := ctAs_mem.mp hq
  subst h2
  exact h.2.2 j v h1
theorem ctLs_set {B : ctB} {nL : Nat} {ls' : Array Slot} {L : List (Option Value)} {i : Nat} {v : Value} (h1 : ctL1 L = true) (h : lv_has ls' nL ((i, ctv B v) :: (ctAs B L).filter (fun q => !(q.1 == i) && !(q.1 + 1 == i && q.2.category == 2)))) : ctLs B nL ls' (L.set i (some v)) := by
  refine ⟨h.1, h.2.1, fun j y hj => ?_⟩
  by_cases hij : j = i
  · subst hij
    have hlt : j < (L.set j (some v)).length := (List.getElem?_eq_some_iff.mp hj).1
    rw [List.length_set] at hlt
    rw [List.getElem?_set_self hlt] at hj
    cases hj
    exact h.2.2 _ List.mem_cons_self
  · rw [List.getElem?_set_ne (Ne.symm hij)] at hj
    refine h.2.2 (j, ctv B y) (List.mem_cons_of_mem _ (List.mem_filter.mpr ⟨ctAs_mem.mpr ⟨y, hj, rfl⟩, ?_⟩))
    have hc := ctL1_spec L h1 j y hj
    simp [hij, ctv_cat, hc]
theorem ct_istoreN (i : Nat) {k : Fin 4} {x : Int32} (hd : decode μ.2.1 pc = .ok (.istore_n k, 1)) (hk : (k : Nat) = i) (hi : i < μ.2.2.1) (h1 : ctL1 L = true) (K : ctV B μ R post (pc + 1) (L.set i (some (.int x))) st cs n M) : ctV B μ R post pc L (.int x :: st) cs n M :=
  fun p e s m args below meth c H locs ls C w S h => lv_istore_n C.1 C.2.1 hd hk (ctLs_as h) hi rfl (fun ls' h' => K p e s m args below meth c H locs ls' C w S (ctLs_set h1 h'))
theorem ct_istoreW (i : Nat) {x : Int32} (hd : decode μ.2.1 pc = .ok (.istore i, 2)) (hi : i < μ.2.2.1) (h1 : ctL1 L = true) (K : ctV B μ R post (pc + 2) (L.set i (some (.int x))) st cs n M) : ctV B μ R post pc L (.int x :: st) cs n M :=
  fun p e s m args below meth c H locs ls C w S h => lv_istore C.1 C.2.1 hd (ctLs_as h) hi rfl (fun ls' h' => K p e s m args below meth c H locs ls' C w S (ctLs_set h1 h'))
theorem ct_astoreN (i : Nat) {k : Fin 4} {x : Nat} (hd : decode μ.2.1 pc = .ok (.astore_n k, 1)) (hk : (k : Nat) = i) (hi : i < μ.2.2.1) (h1 : ctL1 L = true) (K : ctV B μ R post (pc + 1) (L.set i (some (.ref x))) st cs n M) : ctV B μ R post pc L (.ref x :: st) cs n M :=
  fun p e s m args below meth c H locs ls C w S h => lv_astore_n C.1 C.2.1 hd hk (ctLs_as h) hi rfl (fun ls' h' => K p e s m args below meth c H locs ls' C w S (ctLs_set h1 h'))
theorem ct_astoreW (i : Nat) {x : Nat} (hd : decode μ.2.1 pc = .ok (.astore i, 2)) (hi : i < μ.2.2.1) (h1 : ctL1 L = true) (K : ctV B μ R post (pc + 2) (L.set i (some (.ref x))) st cs n M) : ctV B μ R post pc L (.ref x :: st) cs n M :=
  fun p e s m args below meth c H locs ls C w S h => lv_astore C.1 C.2.1 hd (ctLs_as h) hi rfl (fun ls' h' => K p e s m args below meth c H locs ls' C w S (ctLs_set h1 h'))
theorem ct_astoreNull (i : Nat) {k : Fin 4} (hd : decode μ.2.1 pc = .ok (.astore_n k, 1)) (hk : (k : Nat) = i) (hi : i < μ.2.2.1) (h1 : ctL1 L = true) (K : ctV B μ R post (pc + 1) (L.set i (some .null)) st cs n M) : ctV B μ R post pc L (.null :: st) cs n M :=
  fun p e s m args below meth c H locs ls C w S h => lv_astore_nN C.1 C.2.1 hd hk (ctLs_as h) hi rfl (fun ls' h' => K p e s m args below meth c H locs ls' C w S (ctLs_set (v := .null) h1 h'))
theorem ct_astoreNullW (i : Nat) (hd : decode μ.2.1 pc = .ok (.astore i, 2)) (hi : i < μ.2.2.1) (h1 : ctL1 L = true) (K : ctV B μ R post (pc + 2) (L.set i (some .null)) st cs n M) : ctV B μ R post pc L (.null :: st) cs n M :=
  fun p e s m args below meth c H locs ls C w S h => lv_astoreN C.1 C.2.1 hd (ctLs_as h) hi rfl (fun ls' h' => K p e s m args below meth c H locs ls' C w S (ctLs_set (v := .null) h1 h'))
theorem ct_iincW (i : Nat) {z : Int} {x v : Int32} (hd : decode μ.2.1 pc = .ok (.iinc i z, 3)) (hx : L[i]? = some (some (.int x))) (hv : x + Int32.ofInt z = v) (hi : i < μ.2.2.1) (h1 : ctL1 L = true) (K : ctV B μ R post (pc + 3) (L.set i (some (.int v))) st cs n M) : ctV B μ R post pc L st cs n M := by
  intro p e s m args below meth c H locs ls C w S h
  obtain ⟨k, hk⟩ := List.getElem?_of_mem (ctAs_mem.mpr ⟨_, hx, rfl⟩ : (i, ctv B (.int x)) ∈ ctAs B L)
  exact lv_iinc C.1 C.2.1 hd (ctLs_as h) hk hv hi rfl (fun ls' h' => K p e s m args below meth c H locs ls' C w S (ctLs_set (v := .int v) h1 h'))
/-- fewer locals -/
def ctSub : List (Option Value) → List (Option Value) → Prop
  | [], _ => True
  | none :: a, _ :: b => ctSub a b
  | some v :: a, some w :: b => v = w ∧ ctSub a b
  | _, _ => False
theorem ctSub_spec : ∀ (a b : List (Option Value)), ctSub a b → ∀ (i : Nat) (v : Value), a[i]? = some (some v) → b[i]? = some (some v) := by
  intro a
  induction a with
  | nil => intro b _ i v h; simp at h
  | cons x a ih =>
    intro b hb i v h
    cases b with
    | nil => cases x <;> exact hb.elim
    | cons y b =>
      cases x with
      | none =>
        cases i with
        | zero => simp at h
        | succ i =>
          simp only [List.getElem?_cons_succ] at h ⊢
          exact ih b hb i v h
      | some w =>
        cases y with
        | none => exact hb.elim
        | some z =>
          cases i with
          | zero =>
            simp at h ⊢
            rw [← h, hb.1]
          | succ i =>
            simp only [List.getElem?_cons_succ] at h ⊢
            exact ih b hb.2 i v h
theorem ct_less {L' : List (Option Value)} (hs : ctSub L' L) (K : ctV B μ R post pc L' st cs n M) : ctV B μ R post pc L st cs n M :=
  fun p e s m args below meth c H locs ls C w S h => K p e s m args below meth c H locs ls C w S ⟨h.1, h.2.1, fun i v hi => h.2.2 i v (ctSub_spec _ _ hs i v hi)⟩

theorem ct_istore_0 {x : Int32} {x0 : Option Value} {l : List (Option Value)} (hd : decode μ.2.1 pc = .ok (.istore_n 0, 1)) (hi : 0 < μ.2.2.1) (h1 : ctL1 (x0 :: l) = true) (hp : pc + 1 = q) (K : ctV B μ R post q (some (.int x) :: l) st cs n M) : ctV B μ R post pc (x0 :: l) (.int x :: st) cs n M := by subst hp; exact ct_istoreN 0 hd rfl hi h1 K
theorem ct_astore_0 {x : Nat} {x0 : Option Value} {l : List (Option Value)} (hd : decode μ.2.1 pc = .ok (.astore_n 0, 1)) (hi : 0 < μ.2.2.1) (h1 : ctL1 (x0 :: l) = true) (hp : pc + 1 = q) (K : ctV B μ R post q (some (.ref x) :: l) st cs n M) : ctV B μ R post pc (x0 :: l) (.ref x :: st) cs n M := by subst hp; exact ct_astoreN 0 hd rfl hi h1 K
theorem ct_nstore_0 {x0 : Option Value} {l : List (Option Value)} (hd : decode μ.2.1 pc = .ok (.astore_n 0, 1)) (hi : 0 < μ.2.2.1) (h1 : ctL1 (x0 :: l) = true) (hp : pc + 1 = q) (K : ctV B μ R post q (some .null :: l) st cs n M) : ctV B μ R post pc (x0 :: l) (.null :: st) cs n M := by subst hp; exact ct_astoreNull 0 hd rfl hi h1 K
theorem ct_iinc_0 {z : Int} {x v : Int32}  {l : List (Option Value)} (hd : decode μ.2.1 pc = .ok (.iinc 0 z, 3)) (hv : x + Int32.ofInt z = v) (hi : 0 < μ.2.2.1) (h1 : ctL1 (some (.int x) :: l) = true) (hp : pc + 3 = q) (K : ctV B μ R post q (some (.int v) :: l) st cs n M) : ctV B μ R post pc (some (.int x) :: l) st cs n M := by subst hp; exact ct_iincW 0 hd rfl hv hi h1 K
theorem ct_istore_1 {x : Int32} {x0 : Option Value} {x1 : Option Value} {l : List (Option Value)} (hd : decode μ.2.1 pc = .ok (.istore_n 1, 1)) (hi : 1 < μ.2.2.1) (h1 : ctL1 (x0 :: x1 :: l) = true) (hp : pc + 1 = q) (K : ctV B μ R post q (x0 :: some (.int x) :: l) st cs n M) : ctV B μ R post pc (x0 :: x1 :: l) (.int x :: st) cs n M := by subst hp; exact ct_istoreN 1 hd rfl hi h1 K
theorem ct_astore_1 {x : Nat} {x0 : Option Value} {x1 : Option Value} {l : List (Option Value)} (hd : decode μ.2.1 pc = .ok (.astore_n 1, 1)) (hi : 1 < μ.2.2.1) (h1 : ctL1 (x0 :: x1 :: l) = true) (hp : pc + 1 = q) (K : ctV B μ R post q (x0 :: some (.ref x) :: l) st cs n M) : ctV B μ R post pc (x0 :: x1 :: l) (.ref x :: st) cs n M := by subst hp; exact ct_astoreN 1 hd rfl hi h1 K
theorem ct_nstore_1 {x0 : Option Value} {x1 : Option Value} {l : List (Option Value)} (hd : decode μ.2.1 pc = .ok (.astore_n 1, 1)) (hi : 1 < μ.2.2.1) (h1 : ctL1 (x0 :: x1 :: l) = true) (hp : pc + 1 = q) (K : ctV B μ R post q (x0 :: some .null :: l) st cs n M) : ctV B μ R post pc (x0 :: x1 :: l) (.null :: st) cs n M := by subst hp; exact ct_astoreNull 1 hd rfl hi h1 K
theorem ct_iinc_1 {z : Int} {x v : Int32} {x0 : Option Value} {l : List (Option Value)} (hd : decode μ.2.1 pc = .ok (.iinc 1 z, 3)) (hv : x + Int32.ofInt z = v) (hi : 1 < μ.2.2.1) (h1 : ctL1 (x0 :: some (.int x) :: l) = true) (hp : pc + 3 = q) (K : ctV B μ R post q (x0 :: some (.int v) :: l) st cs n M) : ctV B μ R post pc (x0 :: some (.int x) :: l) st cs n M := by subst hp; exact ct_iincW 1 hd rfl hv hi h1 K
theorem ct_istore_2 {x : Int32} {x0 : Option Value} {x1 : Option Value} {x2 : Option Value} {l : List (Option Value)} (hd : decode μ.2.1 pc = .ok (.istore_n 2, 1)) (hi : 2 < μ.2.2.1) (h1 : ctL1 (x0 :: x1 :: x2 :: l) = true) (hp : pc + 1 = q) (K : ctV B μ R post q (x0 :: x1 :: some (.int x) :: l) st cs n M) : ctV B μ R post pc (x0 :: x1 :: x2 :: l) (.int x :: st) cs n M := by subst hp; exact ct_istoreN 2 hd rfl hi h1 K
theorem ct_astore_2 {x : Nat} {x0 : Option Value} {x1 : Option Value} {x2 : Option Value} {l : List (Option Value)} (hd : decode μ.2.1 pc = .ok (.astore_n 2, 1)) (hi : 2 < μ.2.2.1) (h1 : ctL1 (x0 :: x1 :: x2 :: l) = true) (hp : pc + 1 = q) (K : ctV B μ R post q (x0 :: x1 :: some (.ref x) :: l) st cs n M) : ctV B μ R post pc (x0 :: x1 :: x2 :: l) (.ref x :: st) cs n M := by subst hp; exact ct_astoreN 2 hd rfl hi h1 K
theorem ct_nstore_2 {x0 : Option Value} {x1 : Option Value} {x2 : Option Value} {l : List (Option Value)} (hd : decode μ.2.1 pc = .ok (.astore_n 2, 1)) (hi : 2 < μ.2.2.1) (h1 : ctL1 (x0 :: x1 :: x2 :: l) = true) (hp : pc + 1 = q) (K : ctV B μ R post q (x0 :: x1 :: some .null :: l) st cs n M) : ctV B μ R post pc (x0 :: x1 :: x2 :: l) (.null :: st) cs n M := by subst hp; exact ct_astoreNull 2 hd rfl hi h1 K
theorem ct_iinc_2 {z : Int} {x v : Int32} {x0 : Option Value} {x1 : Option Value} {l : List (Option Value)} (hd : decode μ.2.1 pc = .ok (.iinc 2 z, 3)) (hv : x + Int32.ofInt z = v) (hi : 2 < μ.2.2.1) (h1 : ctL1 (x0 :: x1 :: some (.int x) :: l) = true) (hp : pc + 3 = q) (K : ctV B μ R post q (x0 :: x1 :: some (.int v) :: l) st cs n M) : ctV B μ R post pc (x0 :: x1 :: some (.int x) :: l) st cs n M := by subst hp; exact ct_iincW 2 hd rfl hv hi h1 K
theorem ct_istore_3 {x : Int32} {x0 : Option Value} {x1 : Option Value} {x2 : Option Value} {x3 : Option Value} {l : List (Option Value)} (hd : decode μ.2.1 pc = .ok (.istore_n 3, 1)) (hi : 3 < μ.2.2.1) (h1 : ctL1 (x0 :: x1 :: x2 :: x3 :: l) = true) (hp : pc + 1 = q) (K : ctV B μ R post q (x0 :: x1 :: x2 :: some (.int x) :: l) st cs n M) : ctV B μ R post pc (x0 :: x1 :: x2 :: x3 :: l) (.int x :: st) cs n M := by subst hp; exact ct_istoreN 3 hd rfl hi h1 K
theorem ct_astore_3 {x : Nat} {x0 : Option Value} {x1 : Option Value} {x2 : Option Value} {x3 : Option Value} {l : List (Option Value)} (hd : decode μ.2.1 pc = .ok (.astore_n 3, 1)) (hi : 3 < μ.2.2.1) (h1 : ctL1 (x0 :: x1 :: x2 :: x3 :: l) = true) (hp : pc + 1 = q) (K : ctV B μ R post q (x0 :: x1 :: x2 :: some (.ref x) :: l) st cs n M) : ctV B μ R post pc (x0 :: x1 :: x2 :: x3 :: l) (.ref x :: st) cs n M := by subst hp; exact ct_astoreN 3 hd rfl hi h1 K
theorem ct_nstore_3 {x0 : Option Value} {x1 : Option Value} {x2 : Option Value} {x3 : Option Value} {l : List (Option Value)} (hd : decode μ.2.1 pc = .ok (.astore_n 3, 1)) (hi : 3 < μ.2.2.1) (h1 : ctL1 (x0 :: x1 :: x2 :: x3 :: l) = true) (hp : pc + 1 = q) (K : ctV B μ R post q (x0 :: x1 :: x2 :: some .null :: l) st cs n M) : ctV B μ R post pc (x0 :: x1 :: x2 :: x3 :: l) (.null :: st) cs n M := by subst hp; exact ct_astoreNull 3 hd rfl hi h1 K
theorem ct_iinc_3 {z : Int} {x v : Int32} {x0 : Option Value} {x1 : Option Value} {x2 : Option Value} {l : List (Option Value)} (hd : decode μ.2.1 pc = .ok (.iinc 3 z, 3)) (hv : x + Int32.ofInt z = v) (hi : 3 < μ.2.2.1) (h1 : ctL1 (x0 :: x1 :: x2 :: some (.int x) :: l) = true) (hp : pc + 3 = q) (K : ctV B μ R post q (x0 :: x1 :: x2 :: some (.int v) :: l) st cs n M) : ctV B μ R post pc (x0 :: x1 :: x2 :: some (.int x) :: l) st cs n M := by subst hp; exact ct_iincW 3 hd rfl hv hi h1 K
theorem ct_istore_4 {x : Int32} {x0 : Option Value} {x1 : Option Value} {x2 : Option Value} {x3 : Option Value} {x4 : Option Value} {l : List (Option Value)} (hd : decode μ.2.1 pc = .ok (.istore 4, 2)) (hi : 4 < μ.2.2.1) (h1 : ctL1 (x0 :: x1 :: x2 :: x3 :: x4 :: l) = true) (hp : pc + 2 = q) (K : ctV B μ R post q (x0 :: x1 :: x2 :: x3 :: some (.int x) :: l) st cs n M) : ctV B μ R post pc (x0 :: x1 :: x2 :: x3 :: x4 :: l) (.int x :: st) cs n M := by subst hp; exact ct_istoreW 4 hd hi h1 K
theorem ct_astore_4 {x : Nat} {x0 : Option Value} {x1 : Option Value} {x2 : Option Value} {x3 : Option Value} {x4 : Option Value} {l : List (Option Value)} (hd : decode μ.2.1 pc = .ok (.astore 4, 2)) (hi : 4 < μ.2.2.1) (h1 : ctL1 (x0 :: x1 :: x2 :: x3 :: x4 :: l) = true) (hp : pc + 2 = q) (K : ctV B μ R post q (x0 :: x1 :: x2 :: x3 :: some (.ref x) :: l) st cs n M) : ctV B μ R post pc (x0 :: x1 :: x2 :: x3 :: x4 :: l) (.ref x :: st) cs n M := by subst hp; exact ct_astoreW 4 hd hi h1 K
theorem ct_nstore_4 {x0 : Option Value} {x1 : Option Value} {x2 : Option Value} {x3 : Option Value} {x4 : Option Value} {l : List (Option Value)} (hd : decode μ.2.1 pc = .ok (.astore 4, 2)) (hi : 4 < μ.2.2.1) (h1 : ctL1 (x0 :: x1 :: x2 :: x3 :: x4 :: l) = true) (hp : pc + 2 = q) (K : ctV B μ R post q (x0 :: x1 :: x2 :: x3 :: some .null :: l) st cs n M) : ctV B μ R post pc (x0 :: x1 :: x2 :: x3 :: x4 :: l) (.null :: st) cs n M := by subst hp; exact ct_astoreNullW 4 hd hi h1 K
theorem ct_iinc_4 {z : Int} {x v : Int32} {x0 : Option Value} {x1 : Option Value} {x2 : Option Value} {x3 : Option Value} {l : List (Option Value)} (hd : decode μ.2.1 pc = .ok (.iinc 4 z, 3)) (hv : x + Int32.ofInt z = v) (hi : 4 < μ.2.2.1) (h1 : ctL1 (x0 :: x1 :: x2 :: x3 :: some (.int x) :: l) = true) (hp : pc + 3 = q) (K : ctV B μ R post q (x0 :: x1 :: x2 :: x3 :: some (.int v) :: l) st cs n M) : ctV B μ R post pc (x0 :: x1 :: x2 :: x3 :: some (.int x) :: l) st cs n M := by subst hp; exact ct_iincW 4 hd rfl hv hi h1 K
theorem ct_istore_5 {x : Int32} {x0 : Option Value} {x1 : Option Value} {x2 : Option Value} {x3 : Option Value} {x4 : Option Value} {x5 : Option Value} {l : List (Option Value)} (hd : decode μ.2.1 pc = .ok (.istore 5, 2)) (hi : 5 < μ.2.2.1) (h1 : ctL1 (x0 :: x1 :: x2 :: x3 :: x4 :: x5 :: l) = true) (hp : pc + 2 = q) (K : ctV B μ R post q (x0 :: x1 :: x2 :: x3 :: x4 :: some (.int x) :: l) st cs n M) : ctV B μ R post pc (x0 :: x1 :: x2 :: x3 :: x4 :: x5 :: l) (.int x :: st) cs n M := by subst hp; exact ct_istoreW 5 hd hi h1 K
theorem ct_astore_5 {x : Nat} {x0 : Option Value} {x1 : Option Value} {x2 : Option Value} {x3 : Option Value} {x4 : Option Value} {x5 : Option Value} {l : List (Option Value)} (hd : decode μ.2.1 pc = .ok (.astore 5, 2)) (hi : 5 < μ.2.2.1) (h1 : ctL1 (x0 :: x1 :: x2 :: x3 :: x4 :: x5 :: l) = true) (hp : pc + 2 = q) (K : ctV B μ R post q (x0 :: x1 :: x2 :: x3 :: x4 :: some (.ref x) :: l) st cs n M) : ctV B μ R post pc (x0 :: x1 :: x2 :: x3 :: x4 :: x5 :: l) (.ref x :: st) cs n M := by subst hp; exact ct_astoreW 5 hd hi h1 K
theorem ct_nstore_5 {x0 : Option Value} {x1 : Option Value} {x2 : Option Value} {x3 : Option Value} {x4 : Option Value} {x5 : Option Value} {l : List (Option Value)} (hd : decode μ.2.1 pc = .ok (.astore 5, 2)) (hi : 5 < μ.2.2.1) (h1 : ctL1 (x0 :: x1 :: x2 :: x3 :: x4 :: x5 :: l) = true) (hp : pc + 2 = q) (K : ctV B μ R post q (x0 :: x1 :: x2 :: x3 :: x4 :: some .null :: l) st cs n M) : ctV B μ R post pc (x0 :: x1 :: x2 :: x3 :: x4 :: x5 :: l) (.null :: st) cs n M := by subst hp; exact ct_astoreNullW 5 hd hi h1 K
theorem ct_iinc_5 {z : Int} {x v : Int32} {x0 : Option Value} {x1 : Option Value} {x2 : Option Value} {x3 : Option Value} {x4 : Option Value} {l : List (Option Value)} (hd : decode μ.2.1 pc = .ok (.iinc 5 z, 3)) (hv : x + Int32.ofInt z = v) (hi : 5 < μ.2.2.1) (h1 : ctL1 (x0 :: x1 :: x2 :: x3 :: x4 :: some (.int x) :: l) = true) (hp : pc + 3 = q) (K : ctV B μ R post q (x0 :: x1 :: x2 :: x3 :: x4 :: some (.int v) :: l) st cs n M) : ctV B μ R post pc (x0 :: x1 :: x2 :: x3 :: x4 :: some (.int x) :: l) st cs n M := by subst hp; exact ct_iincW 5 hd rfl hv hi h1 K
theorem ct_istore_6 {x : Int32} {x0 : Option Value} {x1 : Option Value} {x2 : Option Value} {x3 : Option Value} {x4 : Option Value} {x5 : Option Value} {x6 : Option Value} {l : List (Option Value)} (hd : decode μ.2.1 pc = .ok (.istore 6, 2)) (hi : 6 < μ.2.2.1) (h1 : ctL1 (x0 :: x1 :: x2 :: x3 :: x4 :: x5 :: x6 :: l) = true) (hp : pc + 2 = q) (K : ctV B μ R post q (x0 :: x1 :: x2 :: x3 :: x4 :: x5 :: some (.int x) :: l) st cs n M) : ctV B μ R post pc (x0 :: x1 :: x2 :: x3 :: x4 :: x5 :: x6 :: l) (.int x :: st) cs n M := by subst hp; exact ct_istoreW 6 hd hi h1 K
theorem ct_astore_6 {x : Nat} {x0 : Option Value} {x1 : Option Value} {x2 : Option Value} {x3 : Option Value} {x4 : Option Value} {x5 : Option Value} {x6 : Option Value} {l : List (Option Value)} (hd : decode μ.2.1 pc = .ok (.astore 6, 2)) (hi : 6 < μ.2.2.1) (h1 : ctL1 (x0 :: x1 :: x2 :: x3 :: x4 :: x5 :: x6 :: l) = true) (hp : pc + 2 = q) (K : ctV B μ R post q (x0 :: x1 :: x2 :: x3 :: x4 :: x5 :: some (.ref x) :: l) st cs n M) : ctV B μ R post pc (x0 :: x1 :: x2 :: x3 :: x4 :: x5 :: x6 :: l) (.ref x :: st) cs n M := by subst hp; exact ct_astoreW 6 hd hi h1 K
theorem ct_nstore_6 {x0 : Option Value} {x1 : Option Value} {x2 : Option Value} {x3 : Option Value} {x4 : Option Value} {x5 : Option Value} {x6 : Option Value} {l : List (Option Value)} (hd : decode μ.2.1 pc = .ok (.astore 6, 2)) (hi : 6 < μ.2.2.1) (h1 : ctL1 (x0 :: x1 :: x2 :: x3 :: x4 :: x5 :: x6 :: l) = true) (hp : pc + 2 = q) (K : ctV B μ R post q (x0 :: x1 :: x2 :: x3 :: x4 :: x5 :: some .null :: l) st cs n M) : ctV B μ R post pc (x0 :: x1 :: x2 :: x3 :: x4 :: x5 :: x6 :: l) (.null :: st) cs n M := by subst hp; exact ct_astoreNullW 6 hd hi h1 K
theorem ct_iinc_6 {z : Int} {x v : Int32} {x0 : Option Value} {x1 : Option Value} {x2 : Option Value} {x3 : Option Value} {x4 : Option Value} {x5 : Option Value} {l : List (Option Value)} (hd : decode μ.2.1 pc = .ok (.iinc 6 z, 3)) (hv : x + Int32.ofInt z = v) (hi : 6 < μ.2.2.1) (h1 : ctL1 (x0 :: x1 :: x2 :: x3 :: x4 :: x5 :: some (.int x) :: l) = true) (hp : pc + 3 = q) (K : ctV B μ R post q (x0 :: x1 :: x2 :: x3 :: x4 :: x5 :: some (.int v) :: l) st cs n M) : ctV B μ R post pc (x0 :: x1 :: x2 :: x3 :: x4 :: x5 :: some (.int x) :: l) st cs n M := by subst hp; exact ct_iincW 6 hd rfl hv hi h1 K
theorem ct_istore_7 {x : Int32} {x0 : Option Value} {x1 : Option Value} {x2 : Option Value} {x3 : Option Value} {x4 : Option Value} {x5 : Option Value} {x6 : Option Value} {x7 : Option Value} {l : List (Option Value)} (hd : decode μ.2.1 pc = .ok (.istore 7, 2)) (hi : 7 < μ.2.2.1) (h1 : ctL1 (x0 :: x1 :: x2 :: x3 :: x4 :: x5 :: x6 :: x7 :: l) = true) (hp : pc + 2 = q) (K : ctV B μ R post q (x0 :: x1 :: x2 :: x3 :: x4 :: x5 :: x6 :: some (.int x) :: l) st cs n M) : ctV B μ R post pc (x0 :: x1 :: x2 :: x3 :: x4 :: x5 :: x6 :: x7 :: l) (.int x :: st) cs n M := by subst hp; exact ct_istoreW 7 hd hi h1 K
theorem ct_astore_7 {x : Nat} {x0 : Option Value} {x1 : Option Value} {x2 : Option Value} {x3 : Option Value} {x4 : Option Value} {x5 : Option Value} {x6 : Option Value} {x7 : Option Value} {l : List (Option Value)} (hd : decode μ.2.1 pc = .ok (.astore 7, 2)) (hi : 7 < μ.2.2.1) (h1 : ctL1 (x0 :: x1 :: x2 :: x3 :: x4 :: x5 :: x6 :: x7 :: l) = true) (hp : pc + 2 = q) (K : ctV B μ R post q (x0 :: x1 :: x2 :: x3 :: x4 :: x5 :: x6 :: some (.ref x) :: l) st cs n M) : ctV B μ R post pc (x0 :: x1 :: x2 :: x3 :: x4 :: x5 :: x6 :: x7 :: l) (.ref x :: st) cs n M := by subst hp; exact ct_astoreW 7 hd hi h1 K
theorem ct_nstore_7 {x0 : Option Value} {x1 : Option Value} {x2 : Option Value} {x3 : Option Value} {x4 : Option Value} {x5 : Option Value} {x6 : Option Value} {x7 : Option Value} {l : List (Option Value)} (hd : decode μ.2.1 pc = .ok (.astore 7, 2)) (hi : 7 < μ.2.2.1) (h1 : ctL1 (x0 :: x1 :: x2 :: x3 :: x4 :: x5 :: x6 :: x7 :: l) = true) (hp : pc + 2 = q) (K : ctV B μ R post q (x0 :: x1 :: x2 :: x3 :: x4 :: x5 :: x6 :: some .null :: l) st cs n M) : ctV B μ R post pc (x0 :: x1 :: x2 :: x3 :: x4 :: x5 :: x6 :: x7 :: l) (.null :: st) cs n M := by subst hp; exact ct_astoreNullW 7 hd hi h1 K
theorem ct_iinc_7 {z : Int} {x v : Int32} {x0 : Option Value} {x1 : Option Value} {x2 : Option Value} {x3 : Option Value} {x4 : Option Value} {x5 : Option Value} {x6 : Option Value} {l : List (Option Value)} (hd : decode μ.2.1 pc = .ok (.iinc 7 z, 3)) (hv : x + Int32.ofInt z = v) (hi : 7 < μ.2.2.1) (h1 : ctL1 (x0 :: x1 :: x2 :: x3 :: x4 :: x5 :: x6 :: some (.int x) :: l) = true) (hp : pc + 3 = q) (K : ctV B μ R post q (x0 :: x1 :: x2 :: x3 :: x4 :: x5 :: x6 :: some (.int v) :: l) st cs n M) : ctV B μ R post pc (x0 :: x1 :: x2 :: x3 :: x4 :: x5 :: x6 :: some (.int x) :: l) st cs n M := by subst hp; exact ct_iincW 7 hd rfl hv hi h1 K
theorem ct_istore_8 {x : Int32} {x0 : Option Value} {x1 : Option Value} {x2 : Option Value} {x3 : Option Value} {x4 : Option Value} {x5 : Option Value} {x6 : Option Value} {x7 : Option Value} {x8 : Option Value} {l : List (Option Value)} (hd : decode μ.2.1 pc = .ok (.istore 8, 2)) (hi : 8 < μ.2.2.1) (h1 : ctL1 (x0 :: x1 :: x2 :: x3 :: x4 :: x5 :: x6 :: x7 :: x8 :: l) = true) (hp : pc + 2 = q) (K : ctV B μ R post q (x0 :: x1 :: x2 :: x3 :: x4 :: x5 :: x6 :: x7 :: some (.int x) :: l) st cs n M) : ctV B μ R post pc (x0 :: x1 :: x2 :: x3 :: x4 :: x5 :: x6 :: x7 :: x8 :: l) (.int x :: st) cs n M := by subst hp; exact ct_istoreW 8 hd hi h1 K
theorem ct_astore_8 {x : Nat} {x0 : Option Value} {x1 : Option Value} {x2 : Option Value} {x3 : Option Value} {x4 : Option Value} {x5 : Option Value} {x6 : Option Value} {x7 : Option Value} {x8 : Option Value} {l : List (Option Value)} (hd : decode μ.2.1 pc = .ok (.astore 8, 2)) (hi : 8 < μ.2.2.1) (h1 : ctL1 (x0 :: x1 :: x2 :: x3 :: x4 :: x5 :: x6 :: x7 :: x8 :: l) = true) (hp : pc + 2 = q) (K : ctV B μ R post q (x0 :: x1 :: x2 :: x3 :: x4 :: x5 :: x6 :: x7 :: some (.ref x) :: l) st cs n M) : ctV B μ R post pc (x0 :: x1 :: x2 :: x3 :: x4 :: x5 :: x6 :: x7 :: x8 :: l) (.ref x :: st) cs n M := by subst hp; exact ct_astoreW 8 hd hi h1 K
theorem ct_nstore_8 {x0 : Option Value} {x1 : Option Value} {x2 : Option Value} {x3 : Option Value} {x4 : Option Value} {x5 : Option Value} {x6 : Option Value} {x7 : Option Value} {x8 : Option Value} {l : List (Option Value)} (hd : decode μ.2.1 pc = .ok (.astore 8, 2)) (hi : 8 < μ.2.2.1) (h1 : ctL1 (x0 :: x1 :: x2 :: x3 :: x4 :: x5 :: x6 :: x7 :: x8 :: l) = true) (hp : pc + 2 = q) (K : ctV B μ R post q (x0 :: x1 :: x2 :: x3 :: x4 :: x5 :: x6 :: x7 :: some .null :: l) st cs n M) : ctV B μ R post pc (x0 :: x1 :: x2 :: x3 :: x4 :: x5 :: x6 :: x7 :: x8 :: l) (.null :: st) cs n M := by subst hp; exact ct_astoreNullW 8 hd hi h1 K
theorem ct_iinc_8 {z : Int} {x v : Int32} {x0 : Option Value} {x1 : Option Value} {x2 : Option Value} {x3 : Option Value} {x4 : Option Value} {x5 : Option Value} {x6 : Option Value} {x7 : Option Value} {l : List (Option Value)} (hd : decode μ.2.1 pc = .ok (.iinc 8 z, 3)) (hv : x + Int32.ofInt z = v) (hi : 8 < μ.2.2.1) (h1 : ctL1 (x0 :: x1 :: x2 :: x3 :: x4 :: x5 :: x6 :: x7 :: some (.int x) :: l) = true) (hp : pc + 3 = q) (K : ctV B μ R post q (x0 :: x1 :: x2 :: x3 :: x4 :: x5 :: x6 :: x7 :: some (.int v) :: l) st cs n M) : ctV B μ R post pc (x0 :: x1 :: x2 :: x3 :: x4 :: x5 :: x6 :: x7 :: some (.int x) :: l) st cs n M := by subst hp; exact ct_iincW 8 hd rfl hv hi h1 K
theorem ct_istore_9 {x : Int32} {x0 : Option Value} {x1 : Option Value} {x2 : Option Value} {x3 : Option Value} {x4 : Option Value} {x5 : Option Value} {x6 : Option Value} {x7 : Option Value} {x8 : Option Value} {x9 : Option Value} {l : List (Option Value)} (hd : decode μ.2.1 pc = .ok (.istore 9, 2)) (hi : 9 < μ.2.2.1) (h1 : ctL1 (x0 :: x1 :: x2 :: x3 :: x4 :: x5 :: x6 :: x7 :: x8 :: x9 :: l) = true) (hp : pc + 2 = q) (K : ctV B μ R post q (x0 :: x1 :: x2 :: x3 :: x4 :: x5 :: x6 :: x7 :: x8 :: some (.int x) :: l) st cs n M) : ctV B μ R post pc (x0 :: x1 :: x2 :: x3 :: x4 :: x5 :: x6 :: x7 :: x8 :: x9 :: l) (.int x :: st) cs n M := by subst hp; exact ct_istoreW 9 hd hi h1 K
theorem ct_astore_9 {x : Nat} {x0 : Option Value} {x1 : Option Value} {x2 : Option Value} {x3 : Option Value} {x4 : Option Value} {x5 : Option Value} {x6 : Option Value} {x7 : Option Value} {x8 : Option Value} {x9 : Option Value} {l : List (Option Value)} (hd : decode μ.2.1 pc = .ok (.astore 9, 2)) (hi : 9 < μ.2.2.1) (h1 : ctL1 (x0 :: x1 :: x2 :: x3 :: x4 :: x5 :: x6 :: x7 :: x8 :: x9 :: l) = true) (hp : pc + 2 = q) (K : ctV B μ R post q (x0 :: x1 :: x2 :: x3 :: x4 :: x5 :: x6 :: x7 :: x8 :: some (.ref x) :: l) st cs n M) : ctV B μ R post pc (x0 :: x1 :: x2 :: x3 :: x4 :: x5 :: x6 :: x7 :: x8 :: x9 :: l) (.ref x :: st) cs n M := by subst hp; exact ct_astoreW 9 hd hi h1 K
theorem ct_nstore_9 {x0 : Option Value} {x1 : Option Value} {x2 : Option Value} {x3 : Option Value} {x4 : Option Value} {x5 : Option Value} {x6 : Option Value} {x7 : Option Value} {x8 : Option Value} {x9 : Option Value} {l : List (Option Value)} (hd : decode μ.2.1 pc = .ok (.astore 9, 2)) (hi : 9 < μ.2.2.1) (h1 : ctL1 (x0 :: x1 :: x2 :: x3 :: x4 :: x5 :: x6 :: x7 :: x8 :: x9 :: l) = true) (hp : pc + 2 = q) (K : ctV B μ R post q (x0 :: x1 :: x2 :: x3 :: x4 :: x5 :: x6 :: x7 :: x8 :: some .null :: l) st cs n M) : ctV B μ R post pc (x0 :: x1 :: x2 :: x3 :: x4 :: x5 :: x6 :: x7 :: x8 :: x9 :: l) (.null :: st) cs n M := by subst hp; exact ct_astoreNullW 9 hd hi h1 K
theorem ct_iinc_9 {z : Int} {x v : Int32} {x0 : Option Value} {x1 : Option Value} {x2 : Option Value} {x3 : Option Value} {x4 : Option Value} {x5 : Option Value} {x6 : Option Value} {x7 : Option Value} {x8 : Option Value} {l : List (Option Value)} (hd : decode μ.2.1 pc = .ok (.iinc 9 z, 3)) (hv : x + Int32.ofInt z = v) (hi : 9 < μ.2.2.1) (h1 : ctL1 (x0 :: x1 :: x2 :: x3 :: x4 :: x5 :: x6 :: x7 :: x8 :: some (.int x) :: l) = true) (hp : pc + 3 = q) (K : ctV B μ R post q (x0 :: x1 :: x2 :: x3 :: x4 :: x5 :: x6 :: x7 :: x8 :: some (.int v) :: l) st cs n M) : ctV B μ R post pc (x0 :: x1 :: x2 :: x3 :: x4 :: x5 :: x6 :: x7 :: x8 :: some (.int x) :: l) st cs n M := by subst hp; exact ct_iincW 9 hd rfl hv hi h1 K
theorem ct_istore_10 {x : Int32} {x0 : Option Value} {x1 : Option Value} {x2 : Option Value} {x3 : Option Value} {x4 : Option Value} {x5 : Option Value} {x6 : Option Value} {x7 : Option Value} {x8 : Option Value} {x9 : Option Value} {x10 : Option Value} {l : List (Option Value)} (hd : decode μ.2.1 pc = .ok (.istore 10, 2)) (hi : 10 < μ.2.2.1) (h1 : ctL1 (x0 :: x1 :: x2 :: x3 :: x4 :: x5 :: x6 :: x7 :: x8 :: x9 :: x10 :: l) = true) (hp : pc + 2 = q) (K : ctV B μ R post q (x0 :: x1 :: x2 :: x3 :: x4 :: x5 :: x6 :: x7 :: x8 :: x9 :: some (.int x) :: l) st cs n M) : ctV B μ R post pc (x0 :: x1 :: x2 :: x3 :: x4 :: x5 :: x6 :: x7 :: x8 :: x9 :: x10 :: l) (.int x :: st) cs n M := by subst hp; exact ct_istoreW 10 hd hi h1 K
theorem ct_astore_10 {x : Nat} {x0 : Option Value} {x1 : Option Value} {x2 : Option Value} {x3 : Option Value} {x4 : Option Value} {x5 : Option Value} {x6 : Option Value} {x7 : Option Value} {x8 : Option Value} {x9 : Option Value} {x10 : Option Value} {l : List (Option Value)} (hd : decode μ.2.1 pc = .ok (.astore 10, 2)) (hi : 10 < μ.2.2.1) (h1 : ctL1 (x0 :: x1 :: x2 :: x3 :: x4 :: x5 :: x6 :: x7 :: x8 :: x9 :: x10 :: l) = true) (hp : pc + 2 = q) (K : ctV B μ R post q (x0 :: x1 :: x2 :: x3 :: x4 :: x5 :: x6 :: x7 :: x8 :: x9 :: some (.ref x) :: l) st cs n M) : ctV B μ R post pc (x0 :: x1 :: x2 :: x3 :: x4 :: x5 :: x6 :: x7 :: x8 :: x9 :: x10 :: l) (.ref x :: st) cs n M := by subst hp; exact ct_astoreW 10 hd hi h1 K
theorem ct_nstore_10 {x0 : Option Value} {x1 : Option Value} {x2 : Option Value} {x3 : Option Value} {x4 : Option Value} {x5 : Option Value} {x6 : Option Value} {x7 : Option Value} {x8 : Option Value} {x9 : Option Value} {x10 : Option Value} {l : List (Option Value)} (hd : decode μ.2.1 pc = .ok (.astore 10, 2)) (hi : 10 < μ.2.2.1) (h1 : ctL1 (x0 :: x1 :: x2 :: x3 :: x4 :: x5 :: x6 :: x7 :: x8 :: x9 :: x10 :: l) = true) (hp : pc + 2 = q) (K : ctV B μ R post q (x0 :: x1 :: x2 :: x3 :: x4 :: x5 :: x6 :: x7 :: x8 :: x9 :: some .null :: l) st cs n M) : ctV B μ R post pc (x0 :: x1 :: x2 :: x3 :: x4 :: x5 :: x6 :: x7 :: x8 :: x9 :: x10 :: l) (.null :: st) cs n M := by subst hp; exact ct_astoreNullW 10 hd hi h1 K
theorem ct_iinc_10 {z : Int} {x v : Int32} {x0 : Option Value} {x1 : Option Value} {x2 : Option Value} {x3 : Option Value} {x4 : Option Value} {x5 : Option Value} {x6 : Option Value} {x7 : Option Value} {x8 : Option Value} {x9 : Option Value} {l : List (Option Value)} (hd : decode μ.2.1 pc = .ok (.iinc 10 z, 3)) (hv : x + Int32.ofInt z = v) (hi : 10 < μ.2.2.1) (h1 : ctL1 (x0 :: x1 :: x2 :: x3 :: x4 :: x5 :: x6 :: x7 :: x8 :: x9 :: some (.int x) :: l) = true) (hp : pc + 3 = q) (K : ctV B μ R post q (x0 :: x1 :: x2 :: x3 :: x4 :: x5 :: x6 :: x7 :: x8 :: x9 :: some (.int v) :: l) st cs n M) : ctV B μ R post pc (x0 :: x1 :: x2 :: x3 :: x4 :: x5 :: x6 :: x7 :: x8 :: x9 :: some (.int x) :: l) st cs n M := by subst hp; exact ct_iincW 10 hd rfl hv hi h1 K
theorem ct_istore_11 {x : Int32} {x0 : Option Value} {x1 : Option Value} {x2 : Option Value} {x3 : Option Value} {x4 : Option Value} {x5 : Option Value} {x6 : Option Value} {x7 : Option Value} {x8 : Option Value} {x9 : Option Value} {x10 : Option Value} {x11 : Option Value} {l : List (Option Value)} (hd : decode μ.2.1 pc = .ok (.istore 11, 2)) (hi : 11 < μ.2.2.1) (h1 : ctL1 (x0 :: x1 :: x2 :: x3 :: x4 :: x5 :: x6 :: x7 :: x8 :: x9 :: x10 :: x11 :: l) = true) (hp : pc + 2 = q) (K : ctV B μ R post q (x0 :: x1 :: x2 :: x3 :: x4 :: x5 :: x6 :: x7 :: x8 :: x9 :: x10 :: some (.int x) :: l) st cs n M) : ctV B μ R post pc (x0 :: x1 :: x2 :: x3 :: x4 :: x5 :: x6 :: x7 :: x8 :: x9 :: x10 :: x11 :: l) (.int x :: st) cs n M := by subst hp; exact ct_istoreW 11 hd hi h1 K
theorem ct_astore_11 {x : Nat} {x0 : Option Value} {x1 : Option Value} {x2 : Option Value} {x3 : Option Value} {x4 : Option Value} {x5 : Option Value} {x6 : Option Value} {x7 : Option Value} {x8 : Option Value} {x9 : Option Value} {x10 : Option Value} {x11 : Option Value} {l : List (Option Value)} (hd : decode μ.2.1 pc = .ok (.astore 11, 2)) (hi : 11 < μ.2.2.1) (h1 : ctL1 (x0 :: x1 :: x2 :: x3 :: x4 :: x5 :: x6 :: x7 :: x8 :: x9 :: x10 :: x11 :: l) = true) (hp : pc + 2 = q) (K : ctV B μ R post q (x0 :: x1 :: x2 :: x3 :: x4 :: x5 :: x6 :: x7 :: x8 :: x9 :: x10 :: some (.ref x) :: l) st cs n M) : ctV B μ R post pc (x0 :: x1 :: x2 :: x3 :: x4 :: x5 :: x6 :: x7 :: x8 :: x9 :: x10 :: x11 :: l) (.ref x :: st) cs n M := by subst hp; exact ct_astoreW 11 hd hi h1 K
theorem ct_nstore_11 {x0 : Option Value} {x1 : Option Value} {x2 : Option Value} {x3 : Option Value} {x4 : Option Value} {x5 : Option Value} {x6 : Option Value} {x7 : Option Value} {x8 : Option Value} {x9 : Option Value} {x10 : Option Value} {x11 : Option Value} {l : List (Option Value)} (hd : decode μ.2.1 pc = .ok (.astore 11, 2)) (hi : 11 < μ.2.2.1) (h1 : ctL1 (x0 :: x1 :: x2 :: x3 :: x4 :: x5 :: x6 :: x7 :: x8 :: x9 :: x10 :: x11 :: l) = true) (hp : pc + 2 = q) (K : ctV B μ R post q (x0 :: x1 :: x2 :: x3 :: x4 :: x5 :: x6 :: x7 :: x8 :: x9 :: x10 :: some .null :: l) st cs n M) : ctV B μ R post pc (x0 :: x1 :: x2 :: x3 :: x4 :: x5 :: x6 :: x7 :: x8 :: x9 :: x10 :: x11 :: l) (.null :: st) cs n M := by subst hp; exact ct_astoreNullW 11 hd hi h1 K
theorem ct_iinc_11 {z : Int} {x v : Int32} {x0 : Option Value} {x1 : Option Value} {x2 : Option Value} {x3 : Option Value} {x4 : Option Value} {x5 : Option Value} {x6 : Option Value} {x7 : Option Value} {x8 : Option Value} {x9 : Option Value} {x10 : Option Value} {l : List (Option Value)} (hd : decode μ.2.1 pc = .ok (.iinc 11 z, 3)) (hv : x + Int32.ofInt z = v) (hi : 11 < μ.2.2.1) (h1 : ctL1 (x0 :: x1 :: x2 :: x3 :: x4 :: x5 :: x6 :: x7 :: x8 :: x9 :: x10 :: some (.int x) :: l) = true) (hp : pc + 3 = q) (K : ctV B μ R post q (x0 :: x1 :: x2 :: x3 :: x4 :: x5 :: x6 :: x7 :: x8 :: x9 :: x10 :: some (.int v) :: l) st cs n M) : ctV B μ R post pc (x0 :: x1 :: x2 :: x3 :: x4 :: x5 :: x6 :: x7 :: x8 :: x9 :: x10 :: some (.int x) :: l) st cs n M := by subst hp; exact ct_iincW 11 hd rfl hv hi h1 K
theorem ct_istore_12 {x : Int32} {x0 : Option Value} {x1 : Option Value} {x2 : Option Value} {x3 : Option Value} {x4 : Option Value} {x5 : Option Value} {x6 : Option Value} {x7 : Option Value} {x8 : Option Value} {x9 : Option Value} {x10 : Option Value} {x11 : Option Value} {x12 : Option Value} {l : List (Option Value)} (hd : decode μ.2.1 pc = .ok (.istore 12, 2)) (hi : 12 < μ.2.2.1) (h1 : ctL1 (x0 :: x1 :: x2 :: x3 :: x4 :: x5 :: x6 :: x7 :: x8 :: x9 :: x10 :: x11 :: x12 :: l) = true) (hp : pc + 2 = q) (K : ctV B μ R post q (x0 :: x1 :: x2 :: x3 :: x4 :: x5 :: x6 :: x7 :: x8 :: x9 :: x10 :: x11 :: some (.int x) :: l) st cs n M) : ctV B μ R post pc (x0 :: x1 :: x2 :: x3 :: x4 :: x5 :: x6 :: x7 :: x8 :: x9 :: x10 :: x11 :: x12 :: l) (.int x :: st) cs n M := by subst hp; exact ct_istoreW 12 hd hi h1 K
theorem ct_astore_12 {x : Nat} {x0 : Option Value} {x1 : Option Value} {x2 : Option Value} {x3 : Option Value} {x4 : Option Value} {x5 : Option Value} {x6 : Option Value} {x7 : Option Value} {x8 : Option Value} {x9 : Option Value} {x10 : Option Value} {x11 : Option Value} {x12 : Option Value} {l : List (Option Value)} (hd : decode μ.2.1 pc = .ok (.astore 12, 2)) (hi : 12 < μ.2.2.1) (h1 : ctL1 (x0 :: x1 :: x2 :: x3 :: x4 :: x5 :: x6 :: x7 :: x8 :: x9 :: x10 :: x11 :: x12 :: l) = true) (hp : pc + 2 = q) (K : ctV B μ R post q (x0 :: x1 :: x2 :: x3 :: x4 :: x5 :: x6 :: x7 :: x8 :: x9 :: x10 :: x11 :: some (.ref x) :: l) st cs n M) : ctV B μ R post pc (x0 :: x1 :: x2 :: x3 :: x4 :: x5 :: x6 :: x7 :: x8 :: x9 :: x10 :: x11 :: x12 :: l) (.ref x :: st) cs n M := by subst hp; exact ct_astoreW 12 hd hi h1 K
theorem ct_nstore_12 {x0 : Option Value} {x1 : Option Value} {x2 : Option Value} {x3 : Option Value} {x4 : Option Value} {x5 : Option Value} {x6 : Option Value} {x7 : Option Value} {x8 : Option Value} {x9 : Option Value} {x10 : Option Value} {x11 : Option Value} {x12 : Option Value} {l : List (Option Value)} (hd : decode μ.2.1 pc = .ok (.astore 12, 2)) (hi : 12 < μ.2.2.1) (h1 : ctL1 (x0 :: x1 :: x2 :: x3 :: x4 :: x5 :: x6 :: x7 :: x8 :: x9 :: x10 :: x11 :: x12 :: l) = true) (hp : pc + 2 = q) (K : ctV B μ R post q (x0 :: x1 :: x2 :: x3 :: x4 :: x5 :: x6 :: x7 :: x8 :: x9 :: x10 :: x11 :: some .null :: l) st cs n M) : ctV B μ R post pc (x0 :: x1 :: x2 :: x3 :: x4 :: x5 :: x6 :: x7 :: x8 :: x9 :: x10 :: x11 :: x12 :: l) (.null :: st) cs n M := by subst hp; exact ct_astoreNullW 12 hd hi h1 K
theorem ct_iinc_12 {z : Int} {x v : Int32} {x0 : Option Value} {x1 : Option Value} {x2 : Option Value} {x3 : Option Value} {x4 : Option Value} {x5 : Option Value} {x6 : Option Value} {x7 : Option Value} {x8 : Option Value} {x9 : Option Value} {x10 : Option Value} {x11 : Option Value} {l : List (Option Value)} (hd : decode μ.2.1 pc = .ok (.iinc 12 z, 3)) (hv : x + Int32.ofInt z = v) (hi : 12 < μ.2.2.1) (h1 : ctL1 (x0 :: x1 :: x2 :: x3 :: x4 :: x5 :: x6 :: x7 :: x8 :: x9 :: x10 :: x11 :: some (.int x) :: l) = true) (hp : pc + 3 = q) (K : ctV B μ R post q (x0 :: x1 :: x2 :: x3 :: x4 :: x5 :: x6 :: x7 :: x8 :: x9 :: x10 :: x11 :: some (.int v) :: l) st cs n M) : ctV B μ R post pc (x0 :: x1 :: x2 :: x3 :: x4 :: x5 :: x6 :: x7 :: x8 :: x9 :: x10 :: x11 :: some (.int x) :: l) st cs n M := by subst hp; exact ct_iincW 12 hd rfl hv hi h1 K
theorem ct_istore_13 {x : Int32} {x0 : Option Value} {x1 : Option Value} {x2 : Option Value} {x3 : Option Value} {x4 : Option Value} {x5 : Option Value} {x6 : Option Value} {x7 : Option Value} {x8 : Option Value} {x9 : Option Value} {x10 : Option Value} {x11 : Option Value} {x12 : Option Value} {x13 : Option Value} {l : List (Option Value)} (hd : decode μ.2.1 pc = .ok (.istore 13, 2)) (hi : 13 < μ.2.2.1) (h1 : ctL1 (x0 :: x1 :: x2 :: x3 :: x4 :: x5 :: x6 :: x7 :: x8 :: x9 :: x10 :: x11 :: x12 :: x13 :: l) = true) (hp : pc + 2 = q) (K : ctV B μ R post q (x0 :: x1 :: x2 :: x3 :: x4 :: x5 :: x6 :: x7 :: x8 :: x9 :: x10 :: x11 :: x12 :: some (.int x) :: l) st cs n M) : ctV B μ R post pc (x0 :: x1 :: x2 :: x3 :: x4 :: x5 :: x6 :: x7 :: x8 :: x9 :: x10 :: x11 :: x12 :: x13 :: l) (.int x :: st) cs n M := by subst hp; exact ct_istoreW 13 hd hi h1 K
theorem ct_astore_13 {x : Nat} {x0 : Option Value} {x1 : Option Value} {x2 : Option Value} {x3 : Option Value} {x4 : Option Value} {x5 : Option Value} {x6 : Option Value} {x7 : Option Value} {x8 : Option Value} {x9 : Option Value} {x10 : Option Value} {x11 : Option Value} {x12 : Option Value} {x13 : Option Value} {l : List (Option Value)} (hd : decode μ.2.1 pc = .ok (.astore 13, 2)) (hi : 13 < μ.2.2.1) (h1 : ctL1 (x0 :: x1 :: x2 :: x3 :: x4 :: x5 :: x6 :: x7 :: x8 :: x9 :: x10 :: x11 :: x12 :: x13 :: l) = true) (hp : pc + 2 = q) (K : ctV B μ R post q (x0 :: x1 :: x2 :: x3 :: x4 :: x5 :: x6 :: x7 :: x8 :: x9 :: x10 :: x11 :: x12 :: some (.ref x) :: l) st cs n M) : ctV B μ R post pc (x0 :: x1 :: x2 :: x3 :: x4 :: x5 :: x6 :: x7 :: x8 :: x9 :: x10 :: x11 :: x12 :: x13 :: l) (.ref x :: st) cs n M := by subst hp; exact ct_astoreW 13 hd hi h1 K
theorem ct_nstore_13 {x0 : Option Value} {x1 : Option Value} {x2 : Option Value} {x3 : Option Value} {x4 : Option Value} {x5 : Option Value} {x6 : Option Value} {x7 : Option Value} {x8 : Option Value} {x9 : Option Value} {x10 : Option Value} {x11 : Option Value} {x12 : Option Value} {x13 : Option Value} {l : List (Option Value)} (hd : decode μ.2.1 pc = .ok (.astore 13, 2)) (hi : 13 < μ.2.2.1) (h1 : ctL1 (x0 :: x1 :: x2 :: x3 :: x4 :: x5 :: x6 :: x7 :: x8 :: x9 :: x10 :: x11 :: x12 :: x13 :: l) = true) (hp : pc + 2 = q) (K : ctV B μ R post q (x0 :: x1 :: x2 :: x3 :: x4 :: x5 :: x6 :: x7 :: x8 :: x9 :: x10 :: x11 :: x12 :: some .null :: l) st cs n M) : ctV B μ R post pc (x0 :: x1 :: x2 :: x3 :: x4 :: x5 :: x6 :: x7 :: x8 :: x9 :: x10 :: x11 :: x12 :: x13 :: l) (.null :: st) cs n M := by subst hp; exact ct_astoreNullW 13 hd hi h1 K
theorem ct_iinc_13 {z : Int} {x v : Int32} {x0 : Option Value} {x1 : Option Value} {x2 : Option Value} {x3 : Option Value} {x4 : Option Value} {x5 : Option Value} {x6 : Option Value} {x7 : Option Value} {x8 : Option Value} {x9 : Option Value} {x10 : Option Value} {x11 : Option Value} {x12 : Option Value} {l : List (Option Value)} (hd : decode μ.2.1 pc = .ok (.iinc 13 z, 3)) (hv : x + Int32.ofInt z = v) (hi : 13 < μ.2.2.1) (h1 : ctL1 (x0 :: x1 :: x2 :: x3 :: x4 :: x5 :: x6 :: x7 :: x8 :: x9 :: x10 :: x11 :: x12 :: some (.int x) :: l) = true) (hp : pc + 3 = q) (K : ctV B μ R post q (x0 :: x1 :: x2 :: x3 :: x4 :: x5 :: x6 :: x7 :: x8 :: x9 :: x10 :: x11 :: x12 :: some (.int v) :: l) st cs n M) : ctV B μ R post pc (x0 :: x1 :: x2 :: x3 :: x4 :: x5 :: x6 :: x7 :: x8 :: x9 :: x10 :: x11 :: x12 :: some (.int x) :: l) st cs n M := by subst hp; exact ct_iincW 13 hd rfl hv hi h1 K
theorem ct_iadd {x y : Int32} (hd : decode μ.2.1 pc = .ok (.iadd, 1)) (hp : pc + 1 = q) (K : ctV B μ R post q (L) (.int (x + y) :: st) cs n M) : ctV B μ R post pc (L) (.int y :: .int x :: st) cs n M := by
  subst hp
  exact fun p e s m args below meth c H locs ls C w S h => lv_iadd C.1 C.2.1 hd (K p e s m args below meth c H locs ls C w S h)
theorem ct_isub {x y : Int32} (hd : decode μ.2.1 pc = .ok (.isub, 1)) (hp : pc + 1 = q) (K : ctV B μ R post q (L) (.int (x - y) :: st) cs n M) : ctV B μ R post pc (L) (.int y :: .int x :: st) cs n M := by
  subst hp
  exact fun p e s m args below meth c H locs ls C w S h => lv_isub C.1 C.2.1 hd (K p e s m args below meth c H locs ls C w S h)
theorem ct_imul {x y : Int32} (hd : decode μ.2.1 pc = .ok (.imul, 1)) (hp : pc + 1 = q) (K : ctV B μ R post q (L) (.int (x * y) :: st) cs n M) : ctV B μ R post pc (L) (.int y :: .int x :: st) cs n M := by
  subst hp
  exact fun p e s m args below meth c H locs ls C w S h => lv_imul C.1 C.2.1 hd (K p e s m args below meth c H locs ls C w S h)
theorem ct_iand {x y : Int32} (hd : decode μ.2.1 pc = .ok (.iand, 1)) (hp : pc + 1 = q) (K : ctV B μ R post q (L) (.int (x &&& y) :: st) cs n M) : ctV B μ R post pc (L) (.int y :: .int x :: st) cs n M := by
  subst hp
  exact fun p e s m args below meth c H locs ls C w S h => lv_iand C.1 C.2.1 hd (K p e s m args below meth c H locs ls C w S h)
theorem ct_ior {x y : Int32} (hd : decode μ.2.1 pc = .ok (.ior, 1)) (hp : pc + 1 = q) (K : ctV B μ R post q (L) (.int (x ||| y) :: st) cs n M) : ctV B μ R post pc (L) (.int y :: .int x :: st) cs n M := by
  subst hp
  exact fun p e s m args below meth c H locs ls C w S h => lv_ior C.1 C.2.1 hd (K p e s m args below meth c H locs ls C w S h)
theorem ct_ixor {x y : Int32} (hd : decode μ.2.1 pc = .ok (.ixor, 1)) (hp : pc + 1 = q) (K : ctV B μ R post q (L) (.int (x ^^^ y) :: st) cs n M) : ctV B μ R post pc (L) (.int y :: .int x :: st) cs n M := by
  subst hp
  exact fun p e s m args below meth c H locs ls C w S h => lv_ixor C.1 C.2.1 hd (K p e s m args below meth c H locs ls C w S h)
theorem ct_ishl {x y : Int32} (hd : decode μ.2.1 pc = .ok (.ishl, 1)) (hp : pc + 1 = q) (K : ctV B μ R post q (L) (.int (x <<< (y &&& 31)) :: st) cs n M) : ctV B μ R post pc (L) (.int y :: .int x :: st) cs n M := by
  subst hp
  exact fun p e s m args below meth c H locs ls C w S h => lv_ishl C.1 C.2.1 hd (K p e s m args below meth c H locs ls C w S h)
theorem ct_ishr {x y : Int32} (hd : decode μ.2.1 pc = .ok (.ishr, 1)) (hp : pc + 1 = q) (K : ctV B μ R post q (L) (.int (x >>> (y &&& 31)) :: st) cs n M) : ctV B μ R post pc (L) (.int y :: .int x :: st) cs n M := by
  subst hp
  exact fun p e s m args below meth c H locs ls C w S h => lv_ishr C.1 C.2.1 hd (K p e s m args below meth c H locs ls C w S h)
theorem ct_iushr {x y : Int32} (hd : decode μ.2.1 pc = .ok (.iushr, 1)) (hp : pc + 1 = q) (K : ctV B μ R post q (L) (.int ((x.toUInt32 >>> (y.toUInt32 &&& Int32.toUInt32 31)).toInt32) :: st) cs n M) : ctV B μ R post pc (L) (.int y :: .int x :: st) cs n M := by
  subst hp
  exact fun p e s m args below meth c H locs ls C w S h => lv_iushr C.1 C.2.1 hd rfl (K p e s m args below meth c H locs ls C w S h)
theorem ct_idiv {x y : Int32} (hd : decode μ.2.1 pc = .ok (.idiv, 1)) (hy : ¬ y = 0) (hp : pc + 1 = q) (K : ctV B μ R post q (L) (.int (x / y) :: st) cs n M) : ctV B μ R post pc (L) (.int y :: .int x :: st) cs n M := by
  subst hp
  exact fun p e s m args below meth c H locs ls C w S h => lv_idiv C.1 C.2.1 hd hy (K p e s m args below meth c H locs ls C w S h)
theorem ct_irem {x y : Int32} (hd : decode μ.2.1 pc = .ok (.irem, 1)) (hy : ¬ y = 0) (hp : pc + 1 = q) (K : ctV B μ R post q (L) (.int (x % y) :: st) cs n M) : ctV B μ R post pc (L) (.int y :: .int x :: st) cs n M := by
  subst hp
  exact fun p e s m args below meth c H locs ls C w S h => lv_irem C.1 C.2.1 hd hy (by rw [irem_eq_mod]; exact (K p e s m args below meth c H locs ls C w S h))
theorem ct_ineg {x : Int32} (hd : decode μ.2.1 pc = .ok (.ineg, 1)) (hp : pc + 1 = q) (K : ctV B μ R post q (L) (.int (-x) :: st) cs n M) : ctV B μ R post pc (L) (.int x :: st) cs n M := by
  subst hp
  exact fun p e s m args below meth c H locs ls C w S h => lv_ineg C.1 C.2.1 hd (K p e s m args below meth c H locs ls C w S h)
theorem ct_ladd {x y : Int64} (hd : decode μ.2.1 pc = .ok (.ladd, 1)) (hp : pc + 1 = q) (K : ctV B μ R post q (L) (.long (x + y) :: st) cs n M) : ctV B μ R post pc (L) (.long y :: .long x :: st) cs n M := by
  subst hp
  exact fun p e s m args below meth c H locs ls C w S h => lv_ladd C.1 C.2.1 hd (K p e s m args below meth c H locs ls C w S h)
theorem ct_lcmp {x y : Int64} (hd : decode μ.2.1 pc = .ok (.lcmp, 1)) (hp : pc + 1 = q) (K : ctV B μ R post q (L) (.int (lg_cmp x y) :: st) cs n M) : ctV B μ R post pc (L) (.long y :: .long x :: st) cs n M := by
  subst hp
  exact fun p e s m args below meth c H locs ls C w S h => W.lcmp C.1 C.2.1 hd (K p e s m args below meth c H locs ls C w S h)
theorem ct_i2l {x : Int32} (hd : decode μ.2.1 pc = .ok (.i2l, 1)) (hp : pc + 1 = q) (K : ctV B μ R post q (L) (.long x.toInt64 :: st) cs n M) : ctV B μ R post pc (L) (.int x :: st) cs n M := by
  subst hp
  exact fun p e s m args below meth c H locs ls C w S h => lv_i2l C.1 C.2.1 hd rfl (K p e s m args below meth c H locs ls C w S h)
theorem ct_i2b {x : Int32} (hd : decode μ.2.1 pc = .ok (.i2b, 1)) (hp : pc + 1 = q) (K : ctV B μ R post q (L) (.int x.toInt8.toInt32 :: st) cs n M) : ctV B μ R post pc (L) (.int x :: st) cs n M := by
  subst hp
  exact fun p e s m args below meth c H locs ls C w S h => lv_i2b C.1 C.2.1 hd rfl (K p e s m args below meth c H locs ls C w S h)
theorem ct_i2s {x : Int32} (hd : decode μ.2.1 pc = .ok (.i2s, 1)) (hp : pc + 1 = q) (K : ctV B μ R post q (L) (.int x.toInt16.toInt32 :: st) cs n M) : ctV B μ R post pc (L) (.int x :: st) cs n M := by
  subst hp
  exact fun p e s m args below meth c H locs ls C w S h => lv_i2s C.1 C.2.1 hd rfl (K p e s m args below meth c H locs ls C w S h)
theorem ct_dup {v : Value} (hd : decode μ.2.1 pc = .ok (.dup, 1)) (hc : v.category = 1) (hp : pc + 1 = q) (K : ctV B μ R post q (L) (v :: v :: st) cs n M) : ctV B μ R post pc (L) (v :: st) cs n M := by
  subst hp
  exact fun p e s m args below meth c H locs ls C w S h => lv_dup C.1 C.2.1 hd ((ctv_cat B v).trans hc) (K p e s m args below meth c H locs ls C w S h)
theorem ct_pop {v : Value} (hd : decode μ.2.1 pc = .ok (.pop, 1)) (hc : v.category = 1) (hp : pc + 1 = q) (K : ctV B μ R post q (L) (st) cs n M) : ctV B μ R post pc (L) (v :: st) cs n M := by
  subst hp
  exact fun p e s m args below meth c H locs ls C w S h => lv_pop C.1 C.2.1 hd ((ctv_cat B v).trans hc) (K p e s m args below meth c H locs ls C w S h)
theorem ct_dup2 {v u : Value} (hd : decode μ.2.1 pc = .ok (.dup2, 1)) (hc : v.category = 1) (hu : u.category = 1) (hp : pc + 1 = q) (K : ctV B μ R post q (L) (v :: u :: v :: u :: st) cs n M) : ctV B μ R post pc (L) (v :: u :: st) cs n M := by
  subst hp
  exact fun p e s m args below meth c H locs ls C w S h => lv_dup2_11 C.1 C.2.1 hd ((ctv_cat B v).trans hc) ((ctv_cat B u).trans hu) (K p e s m args below meth c H locs ls C w S h)
theorem ct_if_eq {x : Int32} {off : Int} {tgt : Nat} (hd : decode μ.2.1 pc = .ok (.ifCond .eq off, 3)) (ht : (pc : Int) + off = (tgt : Int)) (hp : pc + 3 = q) (kt : x = 0 → ctV B μ R post tgt L st cs n M) (kf : ¬ (x = 0) → ctV B μ R post q L st cs n M) : ctV B μ R post pc L (.int x :: st) cs n M := by
  subst hp
  exact fun p e s m args below meth c H locs ls C w S h => lv_if_eq C.1 C.2.1 hd ht (fun z => kt z p e s m args below meth c H locs ls C w S h) (fun z => kf z p e s m args below meth c H locs ls C w S h)
theorem ct_if_ne {x : Int32} {off : Int} {tgt : Nat} (hd : decode μ.2.1 pc = .ok (.ifCond .ne off, 3)) (ht : (pc : Int) + off = (tgt : Int)) (hp : pc + 3 = q) (kt : ¬ x = 0 → ctV B μ R post tgt L st cs n M) (kf : x = 0 → ctV B μ R post q L st cs n M) : ctV B μ R post pc L (.int x :: st) cs n M := by
  subst hp
  exact fun p e s m args below meth c H locs ls C w S h => lv_if_ne C.1 C.2.1 hd ht (fun z => kt z p e s m args below meth c H locs ls C w S h) (fun z => kf z p e s m args below meth c H locs ls C w S h)
theorem ct_if_lt {x : Int32} {off : Int} {tgt : Nat} (hd : decode μ.2.1 pc = .ok (.ifCond .lt off, 3)) (ht : (pc : Int) + off = (tgt : Int)) (hp : pc + 3 = q) (kt : x < 0 → ctV B μ R post tgt L st cs n M) (kf : ¬ (x < 0) → ctV B μ R post q L st cs n M) : ctV B μ R post pc L (.int x :: st) cs n M := by
  subst hp
  exact fun p e s m args below meth c H locs ls C w S h => lv_if_lt C.1 C.2.1 hd ht (fun z => kt z p e s m args below meth c H locs ls C w S h) (fun z => kf z p e s m args below meth c H locs ls C w S h)
theorem ct_if_ge {x : Int32} {off : Int} {tgt : Nat} (hd : decode μ.2.1 pc = .ok (.ifCond .ge off, 3)) (ht : (pc : Int) + off = (tgt : Int)) (hp : pc + 3 = q) (kt : 0 ≤ x → ctV B μ R post tgt L st cs n M) (kf : ¬ (0 ≤ x) → ctV B μ R post q L st cs n M) : ctV B μ R post pc L (.int x :: st) cs n M := by
  subst hp
  exact fun p e s m args below meth c H locs ls C w S h => lv_if_ge C.1 C.2.1 hd ht (fun z => kt z p e s m args below meth c H locs ls C w S h) (fun z => kf z p e s m args below meth c H locs ls C w S h)
theorem ct_if_gt {x : Int32} {off : Int} {tgt : Nat} (hd : decode μ.2.1 pc = .ok (.ifCond .gt off, 3)) (ht : (pc : Int) + off = (tgt : Int)) (hp : pc + 3 = q) (kt : 0 < x → ctV B μ R post tgt L st cs n M) (kf : ¬ (0 < x) → ctV B μ R post q L st cs n M) : ctV B μ R post pc L (.int x :: st) cs n M := by
  subst hp
  exact fun p e s m args below meth c H locs ls C w S h => lv_if_gt C.1 C.2.1 hd ht (fun z => kt z p e s m args below meth c H locs ls C w S h) (fun z => kf z p e s m args below meth c H locs ls C w S h)
theorem ct_if_le {x : Int32} {off : Int} {tgt : Nat} (hd : decode μ.2.1 pc = .ok (.ifCond .le off, 3)) (ht : (pc : Int) + off = (tgt : Int)) (hp : pc + 3 = q) (kt : x ≤ 0 → ctV B μ R post tgt L st cs n M) (kf : ¬ (x ≤ 0) → ctV B μ R post q L st cs n M) : ctV B μ R post pc L (.int x :: st) cs n M := by
  subst hp
  exact fun p e s m args below meth c H locs ls C w S h => lv_if_le C.1 C.2.1 hd ht (fun z => kt z p e s m args below meth c H locs ls C w S h) (fun z => kf z p e s m args below meth c H locs ls C w S h)
theorem ct_icmp_eq {x y : Int32} {off : Int} {tgt : Nat} (hd : decode μ.2.1 pc = .ok (.if_icmp .eq off, 3)) (ht : (pc : Int) + off = (tgt : Int)) (hp : pc + 3 = q) (kt : x = y → ctV B μ R post tgt L st cs n M) (kf : ¬ (x = y) → ctV B μ R post q L st cs n M) : ctV B μ R post pc L (.int y :: .int x :: st) cs n M := by
  subst hp
  exact fun p e s m args below meth c H locs ls C w S h => lv_icmp_eq C.1 C.2.1 hd ht (fun z => kt z p e s m args below meth c H locs ls C w S h) (fun z => kf z p e s m args below meth c H locs ls C w S h)
theorem ct_icmp_ne {x y : Int32} {off : Int} {tgt : Nat} (hd : decode μ.2.1 pc = .ok (.if_icmp .ne off, 3)) (ht : (pc : Int) + off = (tgt : Int)) (hp : pc + 3 = q) (kt : ¬ x = y → ctV B μ R post tgt L st cs n M) (kf : x = y → ctV B μ R post q L st cs n M) : ctV B μ R post pc L (.int y :: .int x :: st) cs n M := by
  subst hp
  exact fun p e s m args below meth c H locs ls C w S h => lv_icmp_ne C.1 C.2.1 hd ht (fun z => kt z p e s m args below meth c H locs ls C w S h) (fun z => kf z p e s m args below meth c H locs ls C w S h)
theorem ct_icmp_lt {x y : Int32} {off : Int} {tgt : Nat} (hd : decode μ.2.1 pc = .ok (.if_icmp .lt off, 3)) (ht : (pc : Int) + off = (tgt : Int)) (hp : pc + 3 = q) (kt : x < y → ctV B μ R post tgt L st cs n M) (kf : ¬ (x < y) → ctV B μ R post q L st cs n M) : ctV B μ R post pc L (.int y :: .int x :: st) cs n M := by
  subst hp
  exact fun p e s m args below meth c H locs ls C w S h => lv_icmp_lt C.1 C.2.1 hd ht (fun z => kt z p e s m args below meth c H locs ls C w S h) (fun z => kf z p e s m args below meth c H locs ls C w S h)
theorem ct_icmp_ge {x y : Int32} {off : Int} {tgt : Nat} (hd : decode μ.2.1 pc = .ok (.if_icmp .ge off, 3)) (ht : (pc : Int) + off = (tgt : Int)) (hp : pc + 3 = q) (kt : y ≤ x → ctV B μ R post tgt L st cs n M) (kf : ¬ (y ≤ x) → ctV B μ R post q L st cs n M) : ctV B μ R post pc L (.int y :: .int x :: st) cs n M := by
  subst hp
  exact fun p e s m args below meth c H locs ls C w S h => lv_icmp_ge C.1 C.2.1 hd ht (fun z => kt z p e s m args below meth c H locs ls C w S h) (fun z => kf z p e s m args below meth c H locs ls C w S h)
theorem ct_icmp_gt {x y : Int32} {off : Int} {tgt : Nat} (hd : decode μ.2.1 pc = .ok (.if_icmp .gt off, 3)) (ht : (pc : Int) + off = (tgt : Int)) (hp : pc + 3 = q) (kt : y < x → ctV B μ R post tgt L st cs n M) (kf : ¬ (y < x) → ctV B μ R post q L st cs n M) : ctV B μ R post pc L (.int y :: .int x :: st) cs n M := by
  subst hp
  exact fun p e s m args below meth c H locs ls C w S h => lv_icmp_gt C.1 C.2.1 hd ht (fun z => kt z p e s m args below meth c H locs ls C w S h) (fun z => kf z p e s m args below meth c H locs ls C w S h)
theorem ct_icmp_le {x y : Int32} {off : Int} {tgt : Nat} (hd : decode μ.2.1 pc = .ok (.if_icmp .le off, 3)) (ht : (pc : Int) + off = (tgt : Int)) (hp : pc + 3 = q) (kt : x ≤ y → ctV B μ R post tgt L st cs n M) (kf : ¬ (x ≤ y) → ctV B μ R post q L st cs n M) : ctV B μ R post pc L (.int y :: .int x :: st) cs n M := by
  subst hp
  exact fun p e s m args below meth c H locs ls C w S h => lv_icmp_le C.1 C.2.1 hd ht (fun z => kt z p e s m args below meth c H locs ls C w S h) (fun z => kf z p e s m args below meth c H locs ls C w S h)
theorem ct_goto {off : Int} (hd : decode μ.2.1 pc = .ok (.goto off, 3)) (ht : (pc : Int) + off = (q : Int)) (K : ctV B μ R post q L st cs n M) : ctV B μ R post pc L st cs n M :=
  fun p e s m args below meth c H locs ls C w S h => lv_goto C.1 C.2.1 hd ht (K p e s m args below meth c H locs ls C w S h)
theorem ct_ifnonnull {a : Nat} {off : Int} (hd : decode μ.2.1 pc = .ok (.ifnonnull off, 3)) (ht : (pc : Int) + off = (q : Int)) (K : ctV B μ R post q L st cs n M) : ctV B μ R post pc L (.ref a :: st) cs n M :=
  fun p e s m args below meth c H locs ls C w S h => lv_ifnonnull C.1 C.2.1 hd ht (K p e s m args below meth c H locs ls C w S h)
theorem ct_ifnonnullN {off : Int} (hd : decode μ.2.1 pc = .ok (.ifnonnull off, 3)) (hp : pc + 3 = q) (K : ctV B μ R post q L st cs n M) : ctV B μ R post pc L (.null :: st) cs n M := by
  subst hp
  exact fun p e s m args below meth c H locs ls C w S h => lv_ifnonnullN C.1 C.2.1 hd (K p e s m args below meth c H locs ls C w S h)
theorem ct_ifnull {a : Nat} {off : Int} (hd : decode μ.2.1 pc = .ok (.ifnull off, 3)) (hp : pc + 3 = q) (K : ctV B μ R post q L st cs n M) : ctV B μ R post pc L (.ref a :: st) cs n M := by
  subst hp
  exact fun p e s m args below meth c H locs ls C w S h => lv_ifnull C.1 C.2.1 hd (K p e s m args below meth c H locs ls C w S h)
theorem ct_ifnullN {off : Int} (hd : decode μ.2.1 pc = .ok (.ifnull off, 3)) (ht : (pc : Int) + off = (q : Int)) (K : ctV B μ R post q L st cs n M) : ctV B μ R post pc L (.null :: st) cs n M :=
  fun p e s m args below meth c H locs ls C w S h => lv_ifnullN C.1 C.2.1 hd ht (K p e s m args below meth c H locs ls C w S h)
/-- switches: at a known number, and elsewhere -/
theorem ct_tsw {dflt lo hi : Int} {offs : Array Int} {len : Nat} {x : Int32} {off : Int} (v : Int32) (hx : x = v) (hd : decode μ.2.1 pc = .ok (.tableswitch dflt lo hi offs, len)) (h1 : ¬ v.toInt < lo) (h2 : ¬ hi < v.toInt) (ho : offs[(v.toInt - lo).toNat]? = some off) (ht : (pc : Int) + off = (q : Int)) (K : ctV B μ R post q L st cs n M) : ctV B μ R post pc L (.int x :: st) cs n M := by
  subst hx
  exact fun p e s m args below meth c H locs ls C w S h => lv_tableIn C.1 C.2.1 hd h1 h2 ho ht (K p e s m args below meth c H locs ls C w S h)
theorem ct_tswD {dflt lo hi : Int} {offs : Array Int} {len : Nat} {x : Int32} (hd : decode μ.2.1 pc = .ok (.tableswitch dflt lo hi offs, len)) (hx : x.toInt < lo ∨ hi < x.toInt) (ht : (pc : Int) + dflt = (q : Int)) (K : ctV B μ R post q L st cs n M) : ctV B μ R post pc L (.int x :: st) cs n M :=
  fun p e s m args below meth c H locs ls C w S h => lv_tableOut C.1 C.2.1 hd hx ht (K p e s m args below meth c H locs ls C w S h)
theorem ct_lsw {dflt : Int} {ps : Array (Int × Int)} {len : Nat} {x : Int32} {off : Int} (hd : decode μ.2.1 pc = .ok (.lookupswitch dflt ps, len)) (hp : (ps.toList.zip (ps.toList.drop 1)).all (fun (a, next) => a.1 < next.1) = true) (ho : Op.lookupswitch.offset ps.toList dflt x.toInt = off) (ht : (pc : Int) + off = (q : Int)) (K : ctV B μ R post q L st cs n M) : ctV B μ R post pc L (.int x :: st) cs n M :=
  fun p e s m args below meth c H locs ls C w S h => lv_lookup C.1 C.2.1 hd hp ho ht (K p e s m args below meth c H locs ls C w S h)
/-- ends -/
theorem ct_iret {x : Int32} (hd : decode μ.2.1 pc = .ok (.ireturn, 1)) (hr : μ.2.2.2 = some .int) (hc : cs.1 ≤ R.2.1 ∧ cs.2 ≤ R.2.2) (hp : post (some (.int x)) n M) : ctV B μ R post pc L [.int x] cs n M :=
  fun p e s m args below meth c H locs ls C w S h => W.widen hc.1 hc.2 (W.iret C.1 C.2.1 (C.2.2.2.2.2.2.1.trans hr) (fun t ht hW => ⟨⟨some (.int x), n, M, rfl, hp, by rw [ht]; exact w⟩, S.F ht⟩) S.2.2 hd C.2.2.2.2.2.2.2.1)
theorem ct_zret {x : Int32} (hd : decode μ.2.1 pc = .ok (.ireturn, 1)) (hr : μ.2.2.2 = some .boolean) (hx : x = 0 ∨ x = 1) (hc : cs.1 ≤ R.2.1 ∧ cs.2 ≤ R.2.2) (hp : post (some (.int x)) n M) : ctV B μ R post pc L [.int x] cs n M :=
  fun p e s m args below meth c H locs ls C w S h => W.widen hc.1 hc.2 (W.zret C.1 C.2.1 (C.2.2.2.2.2.2.1.trans hr) (by rcases hx with rfl | rfl <;> rfl) (fun t ht hW => ⟨⟨some (.int x), n, M, rfl, hp, by rw [ht]; exact w⟩, S.F ht⟩) S.2.2 hd C.2.2.2.2.2.2.2.1)
theorem ct_vret (hd : decode μ.2.1 pc = .ok (.return_, 1)) (hr : μ.2.2.2 = none) (hc : cs.1 ≤ R.2.1 ∧ cs.2 ≤ R.2.2) (hp : post none n M) : ctV B μ R post pc L [] cs n M :=
  fun p e s m args below meth c H locs ls C w S h => W.widen hc.1 hc.2 (W.vret C.1 C.2.1 (C.2.2.2.2.2.2.1.trans hr) (fun t ht hW => ⟨⟨none, n, M, rfl, hp, by rw [ht]; exact w⟩, S.F ht⟩) S.2.2 hd C.2.2.2.2.2.2.2.1)
theorem ct_aret {a : Nat} {nm : String} (hd : decode μ.2.1 pc = .ok (.areturn, 1)) (hr : μ.2.2.2 = some (.object nm)) (hc : cs.1 ≤ R.2.1 ∧ cs.2 ≤ R.2.2) (hp : post (some (.ref a)) n M) : ctV B μ R post pc L [.ref a] cs n M :=
  fun p e s m args below meth c H locs ls C w S h => W.widen hc.1 hc.2 (W.aret (v := .ref (bAd B a)) C.1 C.2.1 (C.2.2.2.2.2.2.1.trans hr) (Or.inl ⟨_, rfl⟩) (Or.inr ⟨_, rfl⟩) (fun t ht hW => ⟨⟨some (.ref a), n, M, rfl, hp, by rw [ht]; exact w⟩, S.F ht⟩) S.2.2 hd C.2.2.2.2.2.2.2.1)
theorem ct_aretN {nm : String} (hd : decode μ.2.1 pc = .ok (.areturn, 1)) (hr : μ.2.2.2 = some (.object nm)) (hc : cs.1 ≤ R.2.1 ∧ cs.2 ≤ R.2.2) (hp : post (some .null) n M) : ctV B μ R post pc L [.null] cs n M :=
  fun p e s m args below meth c H locs ls C w S h => W.widen hc.1 hc.2 (W.aret (v := .null) C.1 C.2.1 (C.2.2.2.2.2.2.1.trans hr) (Or.inl ⟨_, rfl⟩) (Or.inl rfl) (fun t ht hW => ⟨⟨some .null, n, M, rfl, hp, by rw [ht]; exact w⟩, S.F ht⟩) S.2.2 hd C.2.2.2.2.2.2.2.1)

end
