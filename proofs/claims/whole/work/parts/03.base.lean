/-! the flat memory: cells by numbers, ints and references apart -/
abbrev ctM : Type := (Nat → Nat → Int32) × (Nat → Nat → Option Nat)
abbrev ctB : Type := Launch × va_G × (Nat → ClassId) × Nat × Nat × (Nat → Nat) × (Nat → Nat) × (Nat → Nat) × (Nat → Nat) × Bool
abbrev bL (B : ctB) : Launch := B.1
abbrev bD (B : ctB) : va_G := B.2.1
abbrev bC (B : ctB) : Nat → ClassId := B.2.2.1
abbrev bLo (B : ctB) : Nat := B.2.2.2.1
abbrev bHi (B : ctB) : Nat := B.2.2.2.2.1
abbrev bKd (B : ctB) : Nat → Nat := B.2.2.2.2.2.1
abbrev bLn (B : ctB) : Nat → Nat := B.2.2.2.2.2.2.1
abbrev bK (B : ctB) : Nat → Nat := B.2.2.2.2.2.2.2.1
abbrev bV (B : ctB) : Nat → Nat := B.2.2.2.2.2.2.2.2.1
abbrev bF (B : ctB) : Bool := B.2.2.2.2.2.2.2.2.2
def bAd (B : ctB) (a : Nat) : Nat := if a < 1000 then bLo B + a else a - 1000
def ctv (B : ctB) (v : Value) : Value := match v with
  | .ref a => .ref (bAd B a)
  | v => v
theorem ctv_cat (B : ctB) (v : Value) : (ctv B v).category = v.category := by cases v <;> rfl
theorem ctv_cats (B : ctB) (l : List Value) : ((l.map (ctv B)).map fun v => v.category) = (l.map fun v => v.category) := by
  rw [List.map_map]
  exact List.map_congr_left fun v _ => ctv_cat B v
def ctR : Nat → String
  | 0 => RX0 | 1 => RX1 | 2 => RX2 | 3 => RX3 | 4 => RX4 | 5 => RX5 | 6 => RX6 | _ => RX7
def ctT : Nat → u_T
  | 0 => TX0 | 1 => TX1 | 2 => TX2 | 3 => TX3 | 4 => TX4 | 5 => TX5 | 6 => TX6 | _ => TX7
def ctN : Nat → Nat
  | 0 => 7 | 1 => 7 | 2 => 11 | 3 => 3 | 4 => 4 | 5 => 7 | 6 => 10 | _ => 35
def ctY : Nat → Nat → FieldType
  | 0 => tyX0 | 1 => tyX1 | 2 => tyX2 | 3 => tyX3 | 4 => tyX4 | 5 => tyX5 | 6 => tyX6 | _ => tyX7
def ctQ (c k : Nat) : Bool := match ctY c k with
  | .object _ => true
  | .array _ => true
  | _ => false
abbrev ctL : List vw_C := [(RX0, TX0, 7), (RX1, TX1, 7), (RX2, TX2, 11), (RX3, TX3, 3), (RX4, TX4, 4), (RX5, TX5, 7), (RX6, TX6, 10), (RX7, TX7, 35)]
theorem ct_at {c : Nat} (h : c < 8) : ctL[c]? = some (ctR c, ctT c, ctN c) := by
  rcases (show c = 0 ∨ c = 1 ∨ c = 2 ∨ c = 3 ∨ c = 4 ∨ c = 5 ∨ c = 6 ∨ c = 7 by omega) with rfl | rfl | rfl | rfl | rfl | rfl | rfl | rfl <;> rfl
theorem ct_ty {c : Nat} (h : c < 8) : ∀ k, k < ctN c → parseFieldDescriptor (ctT c k).2.2.1 = some (ctY c k) := by
  rcases (show c = 0 ∨ c = 1 ∨ c = 2 ∨ c = 3 ∨ c = 4 ∨ c = 5 ∨ c = 6 ∨ c = 7 by omega) with rfl | rfl | rfl | rfl | rfl | rfl | rfl | rfl
  · exact tyX0_ok
  · exact tyX1_ok
  · exact tyX2_ok
  · exact tyX3_ok
  · exact tyX4_ok
  · exact tyX5_ok
  · exact tyX6_ok
  · exact tyX7_ok
theorem ct_nm {c : Nat} (h : c < 8) : ∀ a, a < ctN c → ∀ b, b < ctN c → a ≠ b → (ctT c a).2.1 ≠ (ctT c b).2.1 := by
  rcases (show c = 0 ∨ c = 1 ∨ c = 2 ∨ c = 3 ∨ c = 4 ∨ c = 5 ∨ c = 6 ∨ c = 7 by omega) with rfl | rfl | rfl | rfl | rfl | rfl | rfl | rfl
  · exact nmX0
  · exact nmX1
  · exact nmX2
  · exact nmX3
  · exact nmX4
  · exact nmX5
  · exact nmX6
  · exact nmX7
def ctG : List Cond := lw_tbl.filter goodWord
theorem ctG_in {w : Cond} (i : Nat) (h : lw_tbl[i]? = some w) (hg : goodWord w = true) : w ∈ ctG := List.mem_filter.mpr ⟨List.mem_of_getElem? h, hg⟩
theorem ctG_good : ∀ w ∈ ctG, goodWord w = true := fun w h => (List.mem_filter.mp h).2
def ctNl : Cond → Bool
  | .methodLinkNest _ _ _ _ => true
  | _ => false
def ctNw : List Cond := lw_tbl.filter ctNl
theorem ctNw_in {w : Cond} (i : Nat) (h : lw_tbl[i]? = some w) (hg : ctNl w = true) : w ∈ ctNw := List.mem_filter.mpr ⟨List.mem_of_getElem? h, hg⟩
set_option maxRecDepth 100000 in
theorem ct_in0 : ∀ w ∈ u_ws RX0 TX0 7, w ∈ ctG := by decide +kernel
set_option maxRecDepth 100000 in
theorem ct_in1 : ∀ w ∈ u_ws RX1 TX1 7, w ∈ ctG := by decide +kernel
set_option maxRecDepth 100000 in
theorem ct_in2 : ∀ w ∈ u_ws RX2 TX2 11, w ∈ ctG := by decide +kernel
set_option maxRecDepth 100000 in
theorem ct_in3 : ∀ w ∈ u_ws RX3 TX3 3, w ∈ ctG := by decide +kernel
set_option maxRecDepth 100000 in
theorem ct_in4 : ∀ w ∈ u_ws RX4 TX4 4, w ∈ ctG := by decide +kernel
set_option maxRecDepth 100000 in
theorem ct_in5 : ∀ w ∈ u_ws RX5 TX5 7, w ∈ ctG := by decide +kernel
set_option maxRecDepth 100000 in
theorem ct_in6 : ∀ w ∈ u_ws RX6 TX6 10, w ∈ ctG := by decide +kernel
set_option maxRecDepth 100000 in
theorem ct_in7 : ∀ w ∈ u_ws RX7 TX7 35, w ∈ ctG := by decide +kernel
theorem ct_in {c : Nat} (h : c < 8) : ∀ w ∈ u_ws (ctR c) (ctT c) (ctN c), w ∈ ctG := by
  rcases (show c = 0 ∨ c = 1 ∨ c = 2 ∨ c = 3 ∨ c = 4 ∨ c = 5 ∨ c = 6 ∨ c = 7 by omega) with rfl | rfl | rfl | rfl | rfl | rfl | rfl | rfl
  · exact ct_in0
  · exact ct_in1
  · exact ct_in2
  · exact ct_in3
  · exact ct_in4
  · exact ct_in5
  · exact ct_in6
  · exact ct_in7
def ctF (B : ctB) (M : ctM) (a c : Nat) : List Value := (List.range (ctN c)).map (fun k => if ctQ c k = true then va_rf ((M.2 a k).map (bAd B)) else .int (M.1 a k))
def ctE (B : ctB) (M : ctM) (a : Nat) : va_E := if bKd B a < 8 then .inr (bKd B a, ctF B M a (bKd B a)) else if bKd B a < 11 then .inl (bC B (bKd B a), bLn B a, .inl (M.1 a)) else .inl (bC B (bKd B a), bLn B a, .inr (.inr (.inr (.inr (fun j => (M.2 a j).map (bAd B))))))
def ctW (B : ctB) (n : Nat) (M : ctM) : va_W := (List.range n).map (fun a => (bLo B + a, ctE B M a))
theorem ctW_at {B : ctB} {n a : Nat} {M : ctM} (h : a < n) : (ctW B n M)[a]? = some (bLo B + a, ctE B M a) := by
  simp [ctW, h]
def ctA (B : ctB) : Nat → Prop := fun q => bLo B ≤ q ∧ q < bHi B
def ctH (B : ctB) (n : Nat) (M : ctM) (H : Heap) : Prop := va_P (bD B) ctL (ctW B n M) H ∧ bLo B + n ≤ bHi B ∧ n ≤ 1000 ∧ (bF B = true → H.size = bLo B + n)
theorem ctD {B : ctB} {n : Nat} {M : ctM} (h : bLo B + n ≤ bHi B) : va_D (ctA B) (ctW B n M) := by
  have key : ∀ (i : Nat) (p : Nat × va_E), (ctW B n M)[i]? = some p → i < n ∧ p.1 = bLo B + i := by
    intro i p hp
    have hl : i < n := by
      have := (List.getElem?_eq_some_iff.mp hp).1
      simpa [ctW] using this
    rw [ctW_at hl] at hp
    cases hp
    exact ⟨hl, rfl⟩
  refine ⟨fun i j p q hi hj e => ?_, fun k q hk => ?_⟩
  · have h1 := (key i p hi).2
    have h2 := (key j q hj).2
    omega
  · have h1 := key k q hk
    exact ⟨by omega, by omega⟩
/-- writing an int, a reference -/
def ctI (M : ctM) (a k : Nat) (v : Int32) : ctM := (va_up M.1 a (va_up (M.1 a) k v), M.2)
def ctP (M : ctM) (a k : Nat) (r : Option Nat) : ctM := (M.1, va_up M.2 a (va_up (M.2 a) k r))
theorem ctE_neI {B : ctB} {M : ctM} {a k b : Nat} {v : Int32} (h : b ≠ a) : ctE B (ctI M a k v) b = ctE B M b := by
  have e : (ctI M a k v).1 b = M.1 b := by simp [ctI, va_up, h]
  simp only [ctE, ctF, e]
  rfl
theorem ctE_neP {B : ctB} {M : ctM} {a k b : Nat} {r : Option Nat} (h : b ≠ a) : ctE B (ctP M a k r) b = ctE B M b := by
  have e : (ctP M a k r).2 b = M.2 b := by simp [ctP, va_up, h]
  simp only [ctE, ctF, e]
  rfl
theorem ctW_set {B : ctB} {n a : Nat} {M M' : ctM} {x : va_E} (h : a < n) (hx : ctE B M' a = x) (ho : ∀ b, b ≠ a → ctE B M' b = ctE B M b) : (ctW B n M).set a (bLo B + a, x) = ctW B n M' := by
  apply List.ext_getElem?
  intro i
  by_cases hi : i < n
  · by_cases hia : i = a
    · subst hia
      rw [List.getElem?_set_self (by simp [ctW]; exact h), ctW_at h, hx]
    · rw [List.getElem?_set_ne (Ne.symm hia), ctW_at hi, ctW_at hi, ho i hia]
  · rw [List.getElem?_eq_none (by simp [ctW]; omega), List.getElem?_eq_none (by simp [ctW]; omega)]
theorem ctF_len {B : ctB} {M : ctM} {a c : Nat} : (ctF B M a c).length = ctN c := by simp [ctF]
theorem ctF_at {B : ctB} {M : ctM} {a c k : Nat} (h : k < ctN c) : (ctF B M a c)[k]? = some (if ctQ c k = true then va_rf ((M.2 a k).map (bAd B)) else .int (M.1 a k)) := by
  simp [ctF, h]
theorem ctF_setI {B : ctB} {M : ctM} {a c k : Nat} {v : Int32} (h : k < ctN c) (hq : ctQ c k = false) : (ctF B M a c).set k (.int v) = ctF B (ctI M a k v) a c := by
  apply List.ext_getElem?
  intro i
  by_cases hi : i < ctN c
  · rw [ctF_at hi]
    by_cases hik : i = k
    · subst hik
      rw [List.getElem?_set_self (by rw [ctF_len]; exact h)]
      simp [ctI, va_up, hq]
    · rw [List.getElem?_set_ne (Ne.symm hik), ctF_at hi]
      simp [ctI, va_up, hik]
  · rw [List.getElem?_eq_none (by rw [List.length_set, ctF_len]; omega), List.getElem?_eq_none (by rw [ctF_len]; omega)]
theorem ctF_setP {B : ctB} {M : ctM} {a c k : Nat} {r : Option Nat} (h : k < ctN c) (hq : ctQ c k = true) : (ctF B M a c).set k (va_rf (r.map (bAd B))) = ctF B (ctP M a k r) a c := by
  apply List.ext_getElem?
  intro i
  by_cases hi : i < ctN c
  · rw [ctF_at hi]
    by_cases hik : i = k
    · subst hik
      rw [List.getElem?_set_self (by rw [ctF_len]; exact h)]
      simp [ctP, va_up, hq]
    · rw [List.getElem?_set_ne (Ne.symm hik), ctF_at hi]
      simp [ctP, va_up, hik]
  · rw [List.getElem?_eq_none (by rw [List.length_set, ctF_len]; omega), List.getElem?_eq_none (by rw [ctF_len]; omega)]
def ctTy (B : ctB) : List (ClassId × FieldType) := [(bC B 8, .byte), (bC B 9, .int), (bC B 10, .boolean), (bC B 11, .object RX0), (bC B 12, .object RX1), (bC B 13, .object RX3), (bC B 14, .object RX4)]
def ctSL : List Nat := [12, 9]
def ctSB : List (List Int32) := [[112, 97, 99, 101, 106, 111, 105, 110, 119, 105, 110, 100], [115, 110, 46, 100, 112, 115, 116, 110, 46]]
def ctS (B : ctB) (U : State) (H : Heap) : Prop := vk_S 2 ctSL ctSB (bK B) (bV B) (ctA B) U H ∧ vk_R RX5 64 "pacejoinwind" (bK B 0) U ∧ vk_R RX5 94 "sn.dpstn." (bK B 1) U ∧ va_Z RJ0 "COMPACT_STRINGS" "Z" (.int 1) (ctA B) U H ∧ va_Zq RJ3 "SIOOBE_FORMATTER" "Ljava/util/function/BiFunction;" (ctA B) U H
def ctK (B : ctB) (U : State) : Prop := va_K (bD B) ctL (ctTy B) U ∧ (∀ w ∈ ctNw, va_Nw w U) ∧ ctS B U U.heap ∧ (va_AO RX0 U ∧ va_AO RX1 U ∧ va_AO RX3 U ∧ va_AO RX4 U)
theorem ctK_same {B : ctB} {u U : State} (hv : u.vm = U.vm) (hh : u.heap = U.heap) (h : ctK B u) : ctK B U := by
  have hal : u.vm.Alike U.vm := by rw [hv]; exact Vm.Alike.refl _
  obtain ⟨h1, h2, ⟨h3, h4, h5, h6, h7⟩, o1, o2, o3, o4⟩ := h
  refine ⟨va_K.moved hal h1, fun w hw => ?_, ⟨?_, vk_R.same hv.symm h4, vk_R.same hv.symm h5, ?_, ?_⟩, o1.moved hal, o2.moved hal, o3.moved hal, o4.moved hal⟩
  · have hn := (List.mem_filter.mp hw).2
    cases w <;> first | exact va_Nw.same rfl hv (h2 _ hw) | cases hn
  · rw [← hh]; exact h3.moved hal
  · rw [← hh]; exact h6.moved hal
  · rw [← hh]; exact h7.moved hal
theorem ctK_moved {B : ctB} {s U : State} {H : Heap} {locs : List Loc} (h : ctK B s) (hS : va_S (ctA B) s.heap H locs) (hU : U.heap = H) (hW : s.WarmedH U.vm) : ctK B U := by
  have hal := hW.alike
  obtain ⟨h1, h2, ⟨h3, h4, h5, h6, h7⟩, o1, o2, o3, o4⟩ := h
  refine ⟨va_K.moved hal h1, fun w hw => ?_, ⟨?_, h4.warm hW, h5.warm hW, ?_, ?_⟩, o1.moved hal, o2.moved hal, o3.moved hal, o4.moved hal⟩
  · have hn := (List.mem_filter.mp hw).2
    cases w <;> first | exact va_Nw.warmM hW (h2 _ hw) | cases hn
  · rw [hU]; exact (h3.moved hal).kept hS.2.1
  · rw [hU]; exact (h6.moved hal).kept hS.2.1
  · rw [hU]; exact (h7.moved hal).kept hS.2.1
def ctRm (R : Nat × Nat × Nat) : Room := { frames := R.1, cells := R.2.1, slots := R.2.2, locals := 40 * R.1 }
def ctLs (B : ctB) (nL : Nat) (ls : Array Slot) (L : List (Option Value)) : Prop := ls.size = nL ∧ lv_wf ls ∧ ∀ (i : Nat) (v : Value), L[i]? = some (some v) → ls[i]? = some (.val (ctv B v))
def ctCx (B : ctB) (μ : Mi) (p : Program) (s : State) (m : MethodId) (args : Array Value) (meth : Method) (c : Code) : Prop :=
  p.tables.exec = Jvm.exec ∧ c.code = μ.2.1 ∧ c.maxLocals = μ.2.2.1 ∧ s.vm.findClass μ.1.cls = some m.cls ∧ (∀ w ∈ ctG, w.before args s = true) ∧ ctK B s ∧ meth.sig.returnType = μ.2.2.2 ∧ meth.locks = false ∧ meth.name = μ.1.name
abbrev ctPost : Type := Option Value → Nat → ctM → Prop
def ctQp (B : ctB) (post : ctPost) : Array Value → State → Outcome → State → Prop := fun _ st oc t => (∃ (v : Option Value) (n : Nat) (M : ctM), oc = .returned (v.map (ctv B)) ∧ post v n M ∧ ctH B n M t.heap) ∧ va_F (ctA B) st t
def ctV (B : ctB) (μ : Mi) (R : Nat × Nat × Nat) (post : ctPost) (pc : Nat) (L : List (Option Value)) (st : List Value) (cs : Nat × Nat) (n : Nat) (M : ctM) : Prop :=
  ∀ (p : Program) (e : Env) (s : State) (m : MethodId) (args : Array Value) (below : List Frame) (meth : Method) (c : Code) (H : Heap) (locs : List Loc) (ls : Array Slot),
    ctCx B μ p s m args meth c → ctH B n M H → va_S (ctA B) s.heap H locs → ctLs B μ.2.2.1 ls L →
    W p (bL B) e (ctRm R) s m args below meth c H locs cs.1 cs.2 (MQ below (ctQp B post) args s R.2.1 R.2.2 (ctA B)) (F0 m pc ls (st.map (ctv B)))
/-- a method's contract -/
def ctC (B : ctB) (μ : Mi) (R : Nat × Nat × Nat) (args : List Value) (n : Nat) (M : ctM) (post : ctPost) : Prop :=
  Met (bL B) μ.1 (Cond.code μ.1 μ.2.1 μ.2.2.1 μ.2.2.2 :: ctG) (ctRm R) (va_Pc (args.map (ctv B)) (fun U => ctH B n M U.heap ∧ ctK B U)) (ctQp B post) R.2.1 R.2.2 (ctA B)
/-- the locals at the entry -/
def ctEn : Nat → List Value → List (Option Value)
  | n, [] => List.replicate n none
  | n, v :: vs => if v.category = 2 then some v :: none :: ctEn (n - 2) vs else some v :: ctEn (n - 1) vs
theorem ctEn_in (B : ctB) : ∀ (vs : List Value) (n k i : Nat) (v : Value), (ctEn n vs)[i]? = some (some v) → (k + i, ctv B v) ∈ lv_args k (vs.map (ctv B)) := by
  intro vs
  induction vs with
  | nil =>
    intro n k i v h
    have h2 := List.mem_of_getElem? (show (List.replicate n (none : Option Value))[i]? = some (some v) from h)
    exact absurd (List.eq_of_mem_replicate h2) (by simp)
  | cons w vs ih =>
    intro n k i v h
    simp only [ctEn] at h
    simp only [List.map_cons, lv_args, ctv_cat]
    by_cases hw : w.category = 2
    · rw [if_pos hw] at h
      rw [if_pos hw]
      match i, h with
      | 0, h =>
        simp at h
        subst h
        exact List.mem_cons_self
      | 1, h => simp at h
      | i + 2, h =>
        simp only [List.getElem?_cons_succ] at h
        have := ih _ (k + 2) i v h
        rw [show k + 2 + i = k + (i + 2) by omega] at this
        exact List.mem_cons_of_mem _ this
    · rw [if_neg hw] at h
      rw [if_neg hw]
      match i, h with
      | 0, h =>
        simp at h
        subst h
        exact List.mem_cons_self
      | i + 1, h =>
        simp only [List.getElem?_cons_succ] at h
        have := ih _ (k + 1) i v h
        rw [show k + 1 + i = k + (i + 1) by omega] at this
        exact List.mem_cons_of_mem _ this
theorem ct_sl (B : ctB) (vs : List Value) : (lg_sl (vs.map (ctv B))).length = (lg_sl vs).length := by
  induction vs with
  | nil => rfl
  | cons w l ih =>
    have e1 : lg_sl ((w :: l).map (ctv B)) = (if (ctv B w).category = 2 then [.val (ctv B w), .second] else [.val (ctv B w)]) ++ lg_sl (l.map (ctv B)) := rfl
    have e2 : lg_sl (w :: l) = (if w.category = 2 then [.val w, .second] else [.val w]) ++ lg_sl l := rfl
    rw [e1, e2, List.length_append, List.length_append, ih, ctv_cat]
    by_cases hw : w.category = 2 <;> simp [hw]
theorem ctC_of {B : ctB} {μ : Mi} {R : Nat × Nat × Nat} {args : List Value} {n : Nat} {M : ctM} {post : ctPost} (hy : plainName μ.1.cls = true) (hl : (lg_sl args).length ≤ μ.2.2.1)
    (h : ctV B μ R post 0 (ctEn μ.2.2.1 args) [] (0, 0) n M) : ctC B μ R args n M post := by
  refine Met.ofW (cc := μ.2.1) (maxL := μ.2.2.1) (ret := μ.2.2.2) hy rfl ?_
  intro p e s m args' below meth c s₁ Bd hml hv
  obtain ⟨rfl, hH, hK⟩ := hv
  have hts := atoms_spec (ws := Cond.code μ.1 μ.2.1 μ.2.2.1 μ.2.2.2 :: ctG) Bd.pre
  have hl2 := ct_sl B args
  have hls := lv_entry (args.map (ctv B)) (n := μ.2.2.1) (by rw [hl2]; exact hl)
  rw [lg_entry_eq]
  exact h p e s m _ below meth c s.heap [] _ ⟨Bd.exec, Bd.bytes, hml, findClass_of_methodNamed Bd.named, fun w hw => hts w (List.mem_cons_of_mem _ hw), hK, Bd.returns, Bd.notSynchronized, (name_of_methodNamed Bd.named Bd.method).1⟩ hH va_S.rf
    ⟨hls.1, hls.2.1, fun i v hi => by
      have := ctEn_in B args μ.2.2.1 0 i v hi
      rw [Nat.zero_add] at this
      exact hls.2.2 _ this⟩
