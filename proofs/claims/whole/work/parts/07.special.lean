section
variable {B : ctB} {μ : Mi} {R : Nat × Nat × Nat} {post : ctPost} {pc q : Nat} {L : List (Option Value)} {st : List Value} {cs : Nat × Nat} {n : Nat} {M : ctM}
/-! new cells -/
def ctZ (M : ctM) (a : Nat) : ctM := (va_up M.1 a (fun _ => 0), va_up M.2 a (fun _ => none))
theorem ctE_neZ {B : ctB} {M : ctM} {a b : Nat} (h : b ≠ a) : ctE B (ctZ M a) b = ctE B M b := by
  have e1 : (ctZ M a).1 b = M.1 b := by simp [ctZ, va_up, h]
  have e2 : (ctZ M a).2 b = M.2 b := by simp [ctZ, va_up, h]
  simp only [ctE, ctF, e1, e2]
theorem ctW_push {B : ctB} {n : Nat} {M : ctM} : ctW B (n + 1) (ctZ M n) = ctW B n M ++ [(bLo B + n, ctE B (ctZ M n) n)] := by
  unfold ctW
  rw [List.range_succ, List.map_append, List.map_singleton]
  congr 1
  refine List.map_congr_left fun a ha => ?_
  rw [ctE_neZ (Nat.ne_of_lt (List.mem_range.mp ha))]
theorem ctH_push {B : ctB} {n : Nat} {M : ctM} {H H1 : Heap} (w : ctH B n M H) (hb : bLo B + (n + 1) ≤ bHi B) (hn : n < 1000) (hz : H1.size = bLo B + n + 1) (ho : ∀ z, z < bLo B + n → H1[z]? = H[z]?) (hc : va_at (bD B) ctL (bLo B + n, ctE B (ctZ M n) n) H1) : ctH B (n + 1) (ctZ M n) H1 := by
  refine ⟨?_, hb, hn, fun _ => by omega⟩
  rw [ctW_push]
  refine (w.1.kept (fun k x hx => ho x.1 ?_)).app (fun k x hx => ?_)
  · have hl : k < n := by
      have := (List.getElem?_eq_some_iff.mp hx).1
      simpa [ctW] using this
    rw [ctW_at hl] at hx
    cases hx
    show bLo B + k < bLo B + n
    omega
  · have hz : k < 1 := (List.getElem?_eq_some_iff.mp hx).1
    rw [show k = 0 by omega] at hx
    cases hx
    exact hc
theorem ctS_push {B : ctB} {n : Nat} {H0 H H1 : Heap} {locs : List Loc} (hs : H.size = bLo B + n) (S : va_S (ctA B) H0 H locs) (hz : H1.size = bLo B + n + 1) (ho : ∀ z, z < bLo B + n → H1[z]? = H[z]?) : va_S (ctA B) H0 H1 locs := by
  have h1 := S.1
  refine ⟨by omega, fun x g1 g2 => (ho x (by omega)).trans (S.2.1 x g1 g2), S.2.2⟩
theorem ct_ints : ∀ c, c < 8 → ∀ k, k < ctN c → ctQ c k = false → ctY c k = .int ∨ ctY c k = .boolean := by decide +kernel
theorem ct_dv {c k : Nat} (h1 : c < 8) (h2 : k < ctN c) : defaultValue (ctY c k) = if ctQ c k = true then .null else .int 0 := by
  cases hq : ctQ c k with
  | true =>
    unfold ctQ at hq
    cases hy : ctY c k <;> rw [hy] at hq <;> first | rfl | cases hq
  | false =>
    rcases ct_ints c h1 k h2 hq with h | h <;> rw [h] <;> rfl
def ctNwL (own : String) (idx c : Nat) : Prop := Cond.classLink own idx (ctR c) ∈ ctG ∧ Cond.instantiable (ctR c) (ctN c) ∈ ctG ∧ Cond.initialized (ctR c) ∈ ctG
theorem ct_new {idx c : Nat} (hfr : bF B = true) (hd : decode μ.2.1 pc = .ok (.new idx, 3)) (hl : ctNwL μ.1.cls idx c) (h1 : c < 8) (hk : bKd B n = c) (hb : bLo B + (n + 1) ≤ bHi B) (hn : n < 1000) (hcs : cs.1 + 1 ≤ R.2.1 ∧ cs.2 + ctN c ≤ R.2.2) (hp : pc + 3 = q) (K : ctV B μ R post q L (.ref n :: st) (cs.1 + 1, cs.2 + ctN c) (n + 1) (ctZ M n)) : ctV B μ R post pc L st cs n M := by
  subst hp
  intro p e s m args below meth c' H locs ls C w S h
  obtain ⟨w1, w2, w3⟩ := hl
  obtain ⟨hx, hb2, hml, hown, hts, hK, -⟩ := id C
  have hs := w.2.2.2 hfr
  have hKn := hK.1.1 c _ (ct_at h1)
  refine W.newcK hx hb2 hown (hts _ w1) (hts _ w2) (hts _ w3) rfl hd hcs.1 hcs.2 hKn.2.1 hs fun H1 kC hkC e1 z1 o1 => ?_
  have hat : va_at (bD B) ctL (bLo B + n, ctE B (ctZ M n) n) H1 := by
    rw [ctE_obj hk h1]
    refine ⟨_, ct_at h1, (u_born (ctY c) hts (ct_in h1) hKn hkC e1 (ct_ty h1)).to (fun j hj => ?_)⟩
    rw [ct_dv h1 hj]
    simp only [vp_V, List.getD_eq_getElem?_getD, ctF_at hj]
    simp [ctZ, va_up, va_rf]
  have := K p e s m args below meth c' H1 locs ls C (ctH_push w hb hn z1 o1 hat) (ctS_push hs S z1 o1) h
  rw [show (Value.ref n :: st).map (ctv B) = .ref (bLo B + n) :: st.map (ctv B) by simp [ctv, bAd, hn]] at this
  exact this
theorem ct_newarr {t : Nat} {at' : ArrayType} {i : Int32} (hat : (t = 8 ∧ at' = .byte) ∨ (t = 9 ∧ at' = .int) ∨ (t = 10 ∧ at' = .boolean)) (hfr : bF B = true) (hd : decode μ.2.1 pc = .ok (.newarray at', 2)) (hl : Cond.arrayClass (newarray.typeOf at') ∈ ctG) (hk : bKd B n = t) (hln : bLn B n = i.toNatClampNeg) (hi : ¬ i < 0) (hi2 : i.toNatClampNeg ≤ 4000) (hb : bLo B + (n + 1) ≤ bHi B) (hn : n < 1000) (hcs : cs.1 + 1 ≤ R.2.1 ∧ cs.2 + i.toNatClampNeg ≤ R.2.2) (hp : pc + 2 = q) (K : ctV B μ R post q L (.ref n :: st) (cs.1 + 1, cs.2 + i.toNatClampNeg) (n + 1) (ctZ M n)) : ctV B μ R post pc L (.int i :: st) cs n M := by
  subst hp
  intro p e s m args below meth c' H locs ls C w S h
  obtain ⟨hx, hb2, hml, hown, hts, hK, -⟩ := id C
  have hs := w.2.2.2 hfr
  have hty : ∃ ty : FieldType, newarray.typeOf at' = ty ∧ (ctTy B)[t - 8]? = some (bC B t, ty) ∧ defaultValue ty = .int 0 ∧ componentBytes ty ≤ 4 ∧ (va_RA s (bC B t) ty → s.vm.findClass ("[" ++ ty.toString) = some (bC B t)) ∧ 8 ≤ t ∧ t < 11 := by
    rcases hat with ⟨rfl, rfl⟩ | ⟨rfl, rfl⟩ | ⟨rfl, rfl⟩
    · exact ⟨.byte, rfl, rfl, rfl, by decide, fun h => h, by decide, by decide⟩
    · exact ⟨.int, rfl, rfl, rfl, by decide, fun h => h, by decide, by decide⟩
    · exact ⟨.boolean, rfl, rfl, rfl, by decide, fun h => h, by decide, by decide⟩
  obtain ⟨ty, t1, t2, t3, t4, t5, t6, t7⟩ := hty
  subst t1
  refine va_newaK hx hb2 (hts _ hl) rfl hd rfl hi rfl (by have := Nat.mul_le_mul hi2 t4; omega) hcs.1 hcs.2 hs fun H1 cA e1 z1 o1 hAr hNm => ?_
  have hcA : cA = bC B t := Option.some.inj (hNm.symm.trans (t5 (hK.1.2 (t - 8) _ t2).2))
  subst hcA
  have hat : va_at (bD B) ctL (bLo B + n, ctE B (ctZ M n) n) H1 := by
    rw [ctE_ints hk t6 t7]
    show H1[bLo B + n]? = some (vp_cell _ _)
    rw [e1, vp_cell_i, hln, t3]
    congr 3
    funext j
    simp [ctZ, va_up]
  have := K p e s m args below meth c' H1 locs ls C (ctH_push w hb hn z1 o1 hat) (ctS_push hs S z1 o1) h
  rw [show (Value.ref n :: st).map (ctv B) = .ref (bLo B + n) :: st.map (ctv B) by simp [ctv, bAd, hn]] at this
  exact this
theorem ct_AO {s : State} {t : Nat} (h : ctK B s) (h1 : 11 ≤ t) (h2 : t < 15) : va_AO (ctEl t) s := by
  obtain ⟨-, -, -, o1, o2, o3, o4⟩ := h
  rcases (show t = 11 ∨ t = 12 ∨ t = 13 ∨ t = 14 by omega) with rfl | rfl | rfl | rfl
  · exact o1
  · exact o2
  · exact o3
  · exact o4
theorem ct_anew {t idx : Nat} {i : Int32} (ht : decide (11 ≤ t) && decide (t < 15) = true) (hfr : bF B = true) (hd : decode μ.2.1 pc = .ok (.anewarray idx, 3)) (hl : Cond.classLink μ.1.cls idx (ctEl t) ∈ ctG) (hk : bKd B n = t) (hln : bLn B n = i.toNatClampNeg) (hi : ¬ i < 0) (hi2 : i.toNatClampNeg ≤ 4000) (hb : bLo B + (n + 1) ≤ bHi B) (hn : n < 1000) (hcs : cs.1 + 1 ≤ R.2.1 ∧ cs.2 + i.toNatClampNeg ≤ R.2.2) (hp : pc + 3 = q) (K : ctV B μ R post q L (.ref n :: st) (cs.1 + 1, cs.2 + i.toNatClampNeg) (n + 1) (ctZ M n)) : ctV B μ R post pc L (.int i :: st) cs n M := by
  subst hp
  intro p e s m args below meth c' H locs ls C w S h
  simp only [Bool.and_eq_true, decide_eq_true_eq] at ht
  obtain ⟨hx, hb2, hml, hown, hts, hK, -⟩ := id C
  have hs := w.2.2.2 hfr
  refine W.anew hx hb2 hown (hts _ hl) (va_AO.use (ct_AO hK ht.1 ht.2)) rfl hd rfl hi (by omega) hcs.1 hcs.2 fun cA kA comp f1 f2 f3 f4 => ?_
  generalize hH1 : H.push ({ cls := cA, slots := Array.replicate i.toNatClampNeg .null, vm := .none } : Cell) = H1
  have z1 : H1.size = bLo B + n + 1 := by rw [← hH1, Array.size_push, hs]
  have e1 : H1[bLo B + n]? = some (arrV cA i.toNatClampNeg (fun _ => .null)) := by rw [← hs, ← hH1, Array.getElem?_push_size, ← arrV_new]
  have o1 : ∀ z : Nat, z < bLo B + n → H1[z]? = H[z]? := fun z hz => by rw [← hH1, Array.getElem?_push, if_neg (by omega)]
  obtain ⟨kA', comp', y1, y2, y3, y4⟩ := (hK.1.2 (t - 8) _ (ctTy_at ht.1 ht.2)).2
  have hcA : cA = bC B t := Option.some.inj (f1.symm.trans y4)
  subst hcA
  have hat : va_at (bD B) ctL (bLo B + n, ctE B (ctZ M n) n) H1 := by
    rw [ctE_refs hk ht.1]
    show H1[bLo B + n]? = some (vp_cell _ _)
    rw [e1, vp_cell_q, hln]
    congr 3
    funext j
    simp [ctZ, va_up, va_rf]
  have := K p e s m args below meth c' H1 locs ls C (ctH_push w hb hn z1 o1 hat) (ctS_push hs S z1 o1) h
  rw [show (Value.ref n :: st).map (ctv B) = .ref (bLo B + n) :: st.map (ctv B) by simp [ctv, bAd, hn]] at this
  rw [hs]
  exact this
/-! Object's constructor, Math, arraycopy -/
def ctOb (own : String) (idx : Nat) : Prop := Cond.methodLink own idx objectInit ∈ ctG ∧ Cond.instanceMethod objectInit ∈ ctG ∧ Cond.code objectInit ⟨#[0xb1]⟩ 1 none ∈ ctG
theorem ct_obj {idx a : Nat} (hd : decode μ.2.1 pc = .ok (.invokespecial idx, 3)) (hl : ctOb μ.1.cls idx) (hR : 1 ≤ R.1) (hrest : (st.map fun v => v.category).sum ≤ 8) (hp : pc + 3 = q) (K : ctV B μ R post q L st cs n M) : ctV B μ R post pc L (.ref a :: st) cs n M := by
  subst hp
  intro p e s m args below meth c H locs ls C w S h
  obtain ⟨w1, w2, w3⟩ := hl
  obtain ⟨hx, hb2, hml, hown, hts, hK, -⟩ := id C
  exact W.objInit hx hb2 hown (hts _ w1) (hts _ w2) (hts _ w3) rfl (by rw [hml]; exact h.1) rfl hd hR (by
    show 2 * 0 + ((st.map (ctv B)).map fun v => v.category).sum + 12 ≤ 40 * R.1
    rw [ctv_cats]
    omega) (K p e s m args below meth c H locs ls C w S h)
def ctMx (own : String) (idx : Nat) : Prop := Cond.methodLink own idx Lib.Math.max.name ∈ ctG ∧ Cond.static Lib.Math.max.name ∈ ctG ∧ Cond.initialized "java/lang/Math" ∈ ctG ∧ Cond.code Lib.Math.max.name Lib.Math.max.code 2 (some .int) ∈ ctG
def ctMn (own : String) (idx : Nat) : Prop := Cond.methodLink own idx Lib.Math.min.name ∈ ctG ∧ Cond.static Lib.Math.min.name ∈ ctG ∧ Cond.initialized "java/lang/Math" ∈ ctG ∧ Cond.code Lib.Math.min.name Lib.Math.min.code 2 (some .int) ∈ ctG
def ctMa (own : String) (idx : Nat) : Prop := Cond.methodLink own idx Lib.Math.abs.name ∈ ctG ∧ Cond.static Lib.Math.abs.name ∈ ctG ∧ Cond.initialized "java/lang/Math" ∈ ctG ∧ Cond.code Lib.Math.abs.name Lib.Math.abs.code 1 (some .int) ∈ ctG
theorem ct_loc {rest : List Value} (hR : 1 ≤ R.1) (hrest : (rest.map fun v => v.category).sum ≤ 8) : ((rest.map (ctv B)).map fun v => v.category).sum + 13 ≤ (ctRm R).locals := by
  rw [ctv_cats]
  show _ + 13 ≤ 40 * R.1
  omega
theorem ct_max {idx : Nat} {x y : Int32} (hd : decode μ.2.1 pc = .ok (.invokestatic idx, 3)) (hl : ctMx μ.1.cls idx) (hR : 1 ≤ R.1) (hrest : (st.map fun v => v.category).sum ≤ 8) (hc : cs.1 ≤ R.2.1 ∧ cs.2 ≤ R.2.2) (hp : pc + 3 = q) (K : ctV B μ R post q L (.int (if x < y then y else x) :: st) cs n M) : ctV B μ R post pc L (.int y :: .int x :: st) cs n M := by
  subst hp
  intro p e s m args below meth c H locs ls C w S h
  obtain ⟨w1, w2, w3, w4⟩ := hl
  obtain ⟨hx, hb2, hml, hown, hts, hK, -⟩ := id C
  exact va_mmax hx hb2 (hml.trans h.1.symm) hown (hts _ w1) (hts _ w2) (hts _ w3) (hts _ w4) hR (ct_loc hR hrest) hc.1 hc.2 hd (K p e s m args below meth c H locs ls C w S h)
theorem ct_min {idx : Nat} {x y : Int32} (hd : decode μ.2.1 pc = .ok (.invokestatic idx, 3)) (hl : ctMn μ.1.cls idx) (hR : 1 ≤ R.1) (hrest : (st.map fun v => v.category).sum ≤ 8) (hc : cs.1 ≤ R.2.1 ∧ cs.2 ≤ R.2.2) (hp : pc + 3 = q) (K : ctV B μ R post q L (.int (if y < x then y else x) :: st) cs n M) : ctV B μ R post pc L (.int y :: .int x :: st) cs n M := by
  subst hp
  intro p e s m args below meth c H locs ls C w S h
  obtain ⟨w1, w2, w3, w4⟩ := hl
  obtain ⟨hx, hb2, hml, hown, hts, hK, -⟩ := id C
  exact va_mmin hx hb2 (hml.trans h.1.symm) hown (hts _ w1) (hts _ w2) (hts _ w3) (hts _ w4) hR (ct_loc hR hrest) hc.1 hc.2 hd (K p e s m args below meth c H locs ls C w S h)
theorem ct_abs {idx : Nat} {x : Int32} (hd : decode μ.2.1 pc = .ok (.invokestatic idx, 3)) (hl : ctMa μ.1.cls idx) (hR : 1 ≤ R.1) (hrest : (st.map fun v => v.category).sum ≤ 8) (hc : cs.1 ≤ R.2.1 ∧ cs.2 ≤ R.2.2) (hp : pc + 3 = q) (K : ctV B μ R post q L (.int (if 0 ≤ x then x else 0 - x) :: st) cs n M) : ctV B μ R post pc L (.int x :: st) cs n M := by
  subst hp
  intro p e s m args below meth c H locs ls C w S h
  obtain ⟨w1, w2, w3, w4⟩ := hl
  obtain ⟨hx, hb2, hml, hown, hts, hK, -⟩ := id C
  exact va_mabs hx hb2 (hml.trans h.1.symm) hown (hts _ w1) (hts _ w2) (hts _ w3) (hts _ w4) hR (ct_loc hR hrest) hc.1 hc.2 hd (K p e s m args below meth c H locs ls C w S h)
def ctCy (own : String) (idx : Nat) : Prop := Cond.methodLink own idx arraycopyName ∈ ctG ∧ Cond.native arraycopyName ∈ ctG ∧ Cond.static arraycopyName ∈ ctG ∧ Cond.initialized "java/lang/System" ∈ ctG
/-- arraycopy of ints -/
def cI (kd ln : Nat → Nat) (a : Nat) (sp : Int32) (b : Nat) (dp k : Int32) (M : ctM) : Option ctM := if (kd a = 9 ∧ kd b = 9) ∧ (¬ sp < 0 ∧ ¬ dp < 0 ∧ ¬ k < 0) ∧ sp.toNatClampNeg + k.toNatClampNeg ≤ ln a ∧ dp.toNatClampNeg + k.toNatClampNeg ≤ ln b then some (va_up M.1 b (va_cpy (M.1 a) (M.1 b) sp.toNatClampNeg dp.toNatClampNeg k.toNatClampNeg), M.2) else none
theorem ct_copy {idx a b : Nat} {sp dp k : Int32} {M' : ctM} {kd ln : Nat → Nat} (hB : ctOk B kd ln n) (hfr : bF B = false) (hd : decode μ.2.1 pc = .ok (.invokestatic idx, 3)) (hl : ctCy μ.1.cls idx) (hR : 1 ≤ R.1) (hrest : (st.map fun v => v.category).sum ≤ 8) (hx : cI kd ln a sp b dp k M = some M') (hp : pc + 3 = q) (K : ctV B μ R post q L st cs n M') : ctV B μ R post pc L (.int k :: .int dp :: .ref b :: .int sp :: .ref a :: st) cs n M := by
  subst hp
  intro p e s m args below meth c H locs ls C w S h
  obtain ⟨w1, w2, w3, w4⟩ := hl
  obtain ⟨hx2, hb2, hml, hown, hts, hK, -⟩ := id C
  unfold cI at hx
  split at hx
  · rename_i g
    obtain ⟨⟨ga, gb⟩, ⟨g1, g2, g3⟩, g4, g5⟩ := g
    cases hx
    obtain ⟨a2, a3, a4⟩ := hB a (by omega)
    obtain ⟨b2, b3, b4⟩ := hB b (by omega)
    have ha := ctW_at (B := B) (M := M) a4
    have hb := ctW_at (B := B) (M := M) b4
    rw [ctE_ints (a2.trans ga) (by decide) (by decide)] at ha
    rw [ctE_ints (b2.trans gb) (by decide) (by decide)] at hb
    have e1 : (Value.int k :: Value.int dp :: Value.ref b :: Value.int sp :: Value.ref a :: st).map (ctv B) = .int k :: .int dp :: .ref (bLo B + b) :: .int sp :: .ref (bLo B + a) :: st.map (ctv B) := by simp [ctv, ctAd a4 w.2.2.1, ctAd b4 w.2.2.1]
    rw [e1]
    refine va_copyi hx2 hb2 (hml.trans h.1.symm) hown (hts _ w1) (hts _ w2) (hts _ w3) (hts _ w4) hK.1 w.1 (ctD w.2.1) S a b 1 1 ha hb rfl rfl rfl g1 g2 g3 (by rw [a3]; exact g4) (by rw [b3]; exact g5) (fun i hi => rfl) hR ?_ hd (fun H1 locs1 hP hD hS => ?_)
    · rw [ctv_cats]
      show _ + (nativeFrameWords "java/lang/System" "arraycopy" 5 + 11) ≤ 40 * R.1
      have : nativeFrameWords "java/lang/System" "arraycopy" 5 ≤ 20 := by decide +kernel
      omega
    · rw [ctW_set (M' := (va_up M.1 b (va_cpy (M.1 a) (M.1 b) sp.toNatClampNeg dp.toNatClampNeg k.toNatClampNeg), M.2)) b4 (by
        rw [ctE_ints (b2.trans gb) (by decide) (by decide)]
        simp [va_up]) (fun z hz => by
        simp only [ctE, ctF, va_up, if_neg hz])] at hP
      exact K p e s m args below meth c H1 locs1 ls C ⟨hP, w.2.1, w.2.2.1, fun hf => by rw [hfr] at hf; cases hf⟩ hS h
  · cases hx
end
