section
variable {B : ctB} {μ : Mi} {R : Nat × Nat × Nat} {post : ctPost} {pc q : Nat} {L : List (Option Value)} {st : List Value} {cs : Nat × Nat} {n : Nat} {M : ctM}
/-- a field's link; a field of ints, of references -/
def ctFl (own : String) (idx c k : Nat) : Prop := Cond.fieldLink own idx (ctT c k).1 (ctT c k).2.1 (ctT c k).2.2.1 ∈ ctG
def ctFi (c k : Nat) : Bool := decide (c < 8) && decide (k < ctN c) && !ctQ c k
def ctFr (c k : Nat) : Bool := decide (c < 8) && decide (k < ctN c) && ctQ c k
theorem ctFi_spec {c k : Nat} (h : ctFi c k = true) : c < 8 ∧ k < ctN c ∧ ctQ c k = false := by
  simp only [ctFi, Bool.and_eq_true, decide_eq_true_eq, Bool.not_eq_true'] at h
  exact ⟨h.1.1, h.1.2, h.2⟩
theorem ctFr_spec {c k : Nat} (h : ctFr c k = true) : c < 8 ∧ k < ctN c ∧ ctQ c k = true := by
  simp only [ctFr, Bool.and_eq_true, decide_eq_true_eq] at h
  exact ⟨h.1.1, h.1.2, h.2⟩
theorem ctE_obj {B : ctB} {M : ctM} {a c : Nat} (h : bKd B a = c) (hc : c < 8) : ctE B M a = .inr (c, ctF B M a c) := by
  subst h
  simp [ctE, hc]
theorem ctE_ints {B : ctB} {M : ctM} {a t : Nat} (h : bKd B a = t) (h1 : 8 ≤ t) (h2 : t < 11) : ctE B M a = .inl (bC B t, bLn B a, .inl (M.1 a)) := by
  subst h
  simp [ctE, h2, Nat.not_lt.mpr h1]
theorem ctE_refs {B : ctB} {M : ctM} {a t : Nat} (h : bKd B a = t) (h1 : 11 ≤ t) : ctE B M a = .inl (bC B t, bLn B a, .inr (.inr (.inr (.inr (fun j => (M.2 a j).map (bAd B)))))) := by
  subst h
  have : ¬ bKd B a < 8 := by omega
  simp [ctE, this, Nat.not_lt.mpr h1]
theorem ctAd {B : ctB} {a n : Nat} (h : a < n) (hn : n ≤ 1000) : bAd B a = bLo B + a := by
  have : a < 1000 := by omega
  simp [bAd, this]
theorem ctH_set {B : ctB} {n : Nat} {M M' : ctM} {H H1 : Heap} (w : ctH B n M H) (hz : H1.size = H.size) (h : va_P (bD B) ctL (ctW B n M') H1) : ctH B n M' H1 := ⟨h, w.2.1, w.2.2.1, fun hf => by rw [hz]; exact w.2.2.2 hf⟩
theorem gI_spec {kd : Nat → Nat} {c k a : Nat} {M : ctM} {x : Int32} (h : gI kd c k a M = some x) : kd a = c ∧ x = M.1 a k := by
  unfold gI at h
  split at h
  · exact ⟨by assumption, (Option.some.inj h).symm⟩
  · cases h
theorem gP_spec {kd : Nat → Nat} {c k a x : Nat} {M : ctM} (h : gP kd c k a M = some x) : kd a = c ∧ M.2 a k = some x := by
  unfold gP at h
  split at h
  · exact ⟨by assumption, h⟩
  · cases h
theorem pI_spec {kd : Nat → Nat} {c k a : Nat} {M M' : ctM} {v : Int32} (h : pI kd c k a v M = some M') : kd a = c ∧ M' = ctI M a k v := by
  unfold pI at h
  split at h
  · exact ⟨by assumption, (Option.some.inj h).symm⟩
  · cases h
theorem pP_spec {kd : Nat → Nat} {c k a b : Nat} {M M' : ctM} (h : pP kd c k a b M = some M') : kd a = c ∧ M' = ctP M a k (some b) := by
  unfold pP at h
  split at h
  · exact ⟨by assumption, (Option.some.inj h).symm⟩
  · cases h
theorem aI_spec {kd ln : Nat → Nat} {t a : Nat} {i x : Int32} {M : ctM} (h : aI kd ln t a i M = some x) : kd a = t ∧ vp_in i (ln a) ∧ x = M.1 a i.toNatClampNeg := by
  unfold aI at h
  split at h
  · rename_i g
    exact ⟨g.1, fun z => z.elim g.2.1 (fun y => by omega), (Option.some.inj h).symm⟩
  · cases h
theorem aP_spec {kd ln : Nat → Nat} {t a x : Nat} {i : Int32} {M : ctM} (h : aP kd ln t a i M = some x) : kd a = t ∧ vp_in i (ln a) ∧ M.2 a i.toNatClampNeg = some x := by
  unfold aP at h
  split at h
  · rename_i g
    exact ⟨g.1, fun z => z.elim g.2.1 (fun y => by omega), h⟩
  · cases h
theorem sI_spec {kd ln : Nat → Nat} {t a : Nat} {i v : Int32} {M M' : ctM} (h : sI kd ln t a i v M = some M') : kd a = t ∧ vp_in i (ln a) ∧ M' = ctI M a i.toNatClampNeg v := by
  unfold sI at h
  split at h
  · rename_i g
    exact ⟨g.1, fun z => z.elim g.2.1 (fun y => by omega), (Option.some.inj h).symm⟩
  · cases h
theorem sP_spec {kd ln : Nat → Nat} {t c a b : Nat} {i : Int32} {M M' : ctM} (h : sP kd ln t c a i b M = some M') : kd a = t ∧ kd b = c ∧ vp_in i (ln a) ∧ M' = ctP M a i.toNatClampNeg (some b) := by
  unfold sP at h
  split at h
  · rename_i g
    exact ⟨g.1, g.2.1, fun z => z.elim g.2.2.1 (fun y => by omega), (Option.some.inj h).symm⟩
  · cases h
variable {kd ln : Nat → Nat}
theorem ct_getI {c k a idx : Nat} {x : Int32} (hB : ctOk B kd ln n) (hd : decode μ.2.1 pc = .ok (.getfield idx, 3)) (hl : ctFl μ.1.cls idx c k) (hs : ctFi c k = true) (hx : gI kd c k a M = some x) (hp : pc + 3 = q) (K : ctV B μ R post q L (.int x :: st) cs n M) : ctV B μ R post pc L (.ref a :: st) cs n M := by
  subst hp
  intro p e s m args below meth c' H locs ls C w S h
  obtain ⟨h1, h2, h3⟩ := ctFi_spec hs
  obtain ⟨g1, rfl⟩ := gI_spec hx
  obtain ⟨g2, g3, g4⟩ := hB a (by omega)
  have he := ctW_at (B := B) (M := M) g4
  rw [ctE_obj (g2.trans g1) h1] at he
  have e1 : (Value.ref a :: st).map (ctv B) = .ref (bLo B + a) :: st.map (ctv B) := by simp [ctv, ctAd g4 w.2.2.1]
  rw [e1]
  refine va_get (D := bD B) (cl := ctL) C.1 C.2.1 C.2.2.2.2.1 (ct_in h1) C.2.2.2.1 C.2.2.2.2.2.1.1 w.1 a he (ct_at h1) k h2 (C.2.2.2.2.1 _ hl) (fun _ z => z) (v := .int (M.1 a k)) (by rw [ctF_at h2, h3]; rfl) hd (K p e s m args below meth c' H locs ls C w S h)
theorem ct_getP {c k a x idx : Nat} (hB : ctOk B kd ln n) (hd : decode μ.2.1 pc = .ok (.getfield idx, 3)) (hl : ctFl μ.1.cls idx c k) (hs : ctFr c k = true) (hx : gP kd c k a M = some x) (hp : pc + 3 = q) (K : ctV B μ R post q L (.ref x :: st) cs n M) : ctV B μ R post pc L (.ref a :: st) cs n M := by
  subst hp
  intro p e s m args below meth c' H locs ls C w S h
  obtain ⟨h1, h2, h3⟩ := ctFr_spec hs
  obtain ⟨g1, hx2⟩ := gP_spec hx
  obtain ⟨g2, g3, g4⟩ := hB a (by omega)
  have he := ctW_at (B := B) (M := M) g4
  rw [ctE_obj (g2.trans g1) h1] at he
  have e1 : (Value.ref a :: st).map (ctv B) = .ref (bLo B + a) :: st.map (ctv B) := by simp [ctv, ctAd g4 w.2.2.1]
  rw [e1]
  refine va_get (D := bD B) (cl := ctL) C.1 C.2.1 C.2.2.2.2.1 (ct_in h1) C.2.2.2.1 C.2.2.2.2.2.1.1 w.1 a he (ct_at h1) k h2 (C.2.2.2.2.1 _ hl) (fun _ z => z) (v := .ref (bAd B x)) (by rw [ctF_at h2, if_pos h3, hx2]; rfl) hd (K p e s m args below meth c' H locs ls C w S h)
/-- a field is written -/
theorem ct_put {c k a idx : Nat} {v : Value} {M' : ctM} (hB : ctOk B kd ln n) (hd : decode μ.2.1 pc = .ok (.putfield idx, 3)) (hl : ctFl μ.1.cls idx c k) (h1 : c < 8) (h2 : k < ctN c) (hf : (ctT c k).2.2.2 = false ∨ ((ctT c k).2.2.2 = true ∧ μ.1.name = "<init>" ∧ (ctT c k).1 = μ.1.cls)) (hn : narrow (ctY c k) (ctv B v) = ctv B v) (hfit : fits (ctY c k) (ctv B v) = true) (g1 : kd a = c) (hset : (ctF B M a c).set k (ctv B v) = ctF B M' a c) (ho : ∀ b, b ≠ a → ctE B M' b = ctE B M b) (hp : pc + 3 = q) (K : ctV B μ R post q L st cs n M') : ctV B μ R post pc L (v :: .ref a :: st) cs n M := by
  subst hp
  intro p e s m args below meth c' H locs ls C w S h
  obtain ⟨g2, g3, g4⟩ := hB a (by omega)
  have he := ctW_at (B := B) (M := M) g4
  rw [ctE_obj (g2.trans g1) h1] at he
  have e1 : (v :: Value.ref a :: st).map (ctv B) = ctv B v :: .ref (bLo B + a) :: st.map (ctv B) := by
    show ctv B v :: .ref (bAd B a) :: _ = _
    rw [ctAd g4 w.2.2.1]
  rw [e1]
  obtain ⟨hx, hb, -, hown, hts, ⟨hK, -⟩, -, -, hname⟩ := id C
  have hap := va_apart (own := μ.1.cls) hts (ct_in h1) (ctY c) (ct_ty h1) (ct_nm h1) hK (ct_at h1)
  obtain ⟨r, hr, cell, q1, q2, q3, q4⟩ := w.1 a _ he
  have hr2 : r = (ctR c, ctT c, ctN c) := Option.some.inj (hr.symm.trans (ct_at h1))
  subst hr2
  obtain ⟨hSl, hfc, kC, hkC, hkind⟩ := hK.1 c _ (ct_at h1)
  obtain ⟨cf, kf, fi, f, hi, hsl⟩ := hSl k h2
  have hlay := hts _ (ct_in h1 _ (u_in_lay h2))
  have hst := (u_facts hfc hkC (u_lays hts (ct_in h1) h2) hi).1
  have hlt : f.slot < cell.slots.size := by rw [hsl]; exact k2_hasslot (q4 k h2)
  have fin : ∀ H' : Heap, H'[bLo B + a]? = some (cell.setSlot f.slot (ctv B v)) → H'.size = H.size → (∀ z : Nat, z ≠ bLo B + a → H'[z]? = H[z]?) → W p (bL B) e (ctRm R) s m args below meth c' H' (locs ++ [⟨bLo B + a, f.slot⟩]) cs.1 cs.2 (MQ below (ctQp B post) args s R.2.1 R.2.2 (ctA B)) (F0 m (pc + 3) ls (st.map (ctv B))) := by
    intro H' a1 a2 a3
    rw [hsl] at a1 ⊢
    have hP := w.1.set (ctD w.2.1) he (e := .inr (c, (ctF B M a c).set k (ctv B v))) ⟨_, ct_at h1, t_OB.to (V := updV (vp_V (ctF B M a c)) k (ctv B v)) ⟨_, a1, q2, q3, t_set q4 hap h2 (ctv B v)⟩ (fun j _ => vp_updV_set (by rw [ctF_len]; exact h2) (ctv B v) j)⟩ a3
    rw [hset, ctW_set g4 (ctE_obj (g2.trans g1) h1) ho] at hP
    exact K p e s m args below meth c' H' _ ls C (ctH_set w a2 hP) (S.put a2 a3 ((ctD w.2.1).2 a _ he)) h
  rcases hf with hf | ⟨hf, hi2, hdecl⟩
  · unfold u_lay at hlay
    rw [if_neg (by rw [hf]; decide)] at hlay
    have h6 := u_store hfc hkC hkind hlay hi (ct_ty h1 k h2) hn hfit
    exact W.putK hx hb (f := f) ⟨hown, hts _ hl, ⟨_, _, _, hi⟩, hst⟩ (by rw [q2]; exact h6) q1 q3 hlt rfl rfl hd fin
  · unfold u_lay at hlay
    rw [if_pos hf] at hlay
    have hcf : m.cls = cf := by
      obtain ⟨_, _, c2, _, _, _, -, -, hf', -, -, -, hown2, -⟩ := Cond.laysFinal_spec hlay
      have e1 : c2 = cf := by have := hi.symm.trans hf'; simp at this; exact this.1.symm
      rw [hdecl] at hown2
      rw [← e1]; exact Option.some.inj (hown.symm.trans hown2)
    have h6 := u_fits hfc hkC hkind (Or.inr hlay) hi (ct_ty h1 k h2) hn hfit
    exact W.putFinK hx hb hown (hts _ hl) hi hst hcf (hname.trans hi2) (by rw [q2]; exact h6) q1 q3 hlt rfl rfl hd fin
def ctMay (μ : Mi) (c k : Nat) : Bool := !(ctT c k).2.2.2 || (μ.1.name == "<init>" && (ctT c k).1 == μ.1.cls)
theorem ctMay_spec {μ : Mi} {c k : Nat} (h : ctMay μ c k = true) : (ctT c k).2.2.2 = false ∨ ((ctT c k).2.2.2 = true ∧ μ.1.name = "<init>" ∧ (ctT c k).1 = μ.1.cls) := by
  simp only [ctMay, Bool.or_eq_true, Bool.not_eq_true', Bool.and_eq_true, beq_iff_eq] at h
  cases hb : (ctT c k).2.2.2 with
  | false => exact Or.inl rfl
  | true =>
    rw [hb] at h
    exact Or.inr ⟨rfl, (h.resolve_left (by decide)).1, (h.resolve_left (by decide)).2⟩
theorem ct_putI {c k a idx : Nat} {v : Int32} {M' : ctM} (hB : ctOk B kd ln n) (hd : decode μ.2.1 pc = .ok (.putfield idx, 3)) (hl : ctFl μ.1.cls idx c k) (hs : ctFi c k = true) (hf : ctMay μ c k = true) (ht : ctY c k = .int ∨ (ctY c k = .boolean ∧ (v = 0 ∨ v = 1))) (hx : pI kd c k a v M = some M') (hp : pc + 3 = q) (K : ctV B μ R post q L st cs n M') : ctV B μ R post pc L (.int v :: .ref a :: st) cs n M := by
  obtain ⟨h1, h2, h3⟩ := ctFi_spec hs
  obtain ⟨g1, rfl⟩ := pI_spec hx
  have hn : narrow (ctY c k) (.int v) = .int v ∧ fits (ctY c k) (.int v) = true := by
    rcases ht with ht | ⟨ht, rfl | rfl⟩ <;> rw [ht] <;> exact ⟨rfl, rfl⟩
  exact ct_put (v := .int v) hB hd hl h1 h2 (ctMay_spec hf) hn.1 hn.2 g1 (ctF_setI h2 h3) (fun b hb => ctE_neI hb) hp K
theorem ct_putP {c k a b idx : Nat} {M' : ctM} (hB : ctOk B kd ln n) (hd : decode μ.2.1 pc = .ok (.putfield idx, 3)) (hl : ctFl μ.1.cls idx c k) (hs : ctFr c k = true) (hf : ctMay μ c k = true) (hx : pP kd c k a b M = some M') (hp : pc + 3 = q) (K : ctV B μ R post q L st cs n M') : ctV B μ R post pc L (.ref b :: .ref a :: st) cs n M := by
  obtain ⟨h1, h2, h3⟩ := ctFr_spec hs
  obtain ⟨g1, rfl⟩ := pP_spec hx
  have hn : narrow (ctY c k) (.ref (bAd B b)) = .ref (bAd B b) ∧ fits (ctY c k) (.ref (bAd B b)) = true := by
    unfold ctQ at h3
    cases hy : ctY c k <;> rw [hy] at h3 <;> first | exact ⟨rfl, rfl⟩ | cases h3
  exact ct_put (v := .ref b) hB hd hl h1 h2 (ctMay_spec hf) hn.1 hn.2 g1 (ctF_setP (r := some b) h2 h3) (fun b hb => ctE_neP hb) hp K
/-! arrays -/
theorem ct_iald {a : Nat} {i x : Int32} (hB : ctOk B kd ln n) (hd : decode μ.2.1 pc = .ok (.iaload, 1)) (hx : aI kd ln 9 a i M = some x) (hp : pc + 1 = q) (K : ctV B μ R post q L (.int x :: st) cs n M) : ctV B μ R post pc L (.int i :: .ref a :: st) cs n M := by
  subst hp
  intro p e s m args below meth c' H locs ls C w S h
  obtain ⟨g1, hin, rfl⟩ := aI_spec hx
  obtain ⟨g2, g3, g4⟩ := hB a (by omega)
  have he := ctW_at (B := B) (M := M) g4
  rw [ctE_ints (g2.trans g1) (by decide) (by decide), g3] at he
  have e1 : (Value.int i :: Value.ref a :: st).map (ctv B) = .int i :: .ref (bLo B + a) :: st.map (ctv B) := by simp [ctv, ctAd g4 w.2.2.1]
  rw [e1]
  exact va_iald C.1 C.2.1 C.2.2.2.2.2.1.1 w.1 a 1 he rfl hin hd (K p e s m args below meth c' H locs ls C w S h)
theorem ct_bald {a : Nat} {i x : Int32} (hB : ctOk B kd ln n) (hd : decode μ.2.1 pc = .ok (.baload, 1)) (hx : aI kd ln 8 a i M = some x) (hp : pc + 1 = q) (K : ctV B μ R post q L (.int x :: st) cs n M) : ctV B μ R post pc L (.int i :: .ref a :: st) cs n M := by
  subst hp
  intro p e s m args below meth c' H locs ls C w S h
  obtain ⟨g1, hin, rfl⟩ := aI_spec hx
  obtain ⟨g2, g3, g4⟩ := hB a (by omega)
  have he := ctW_at (B := B) (M := M) g4
  rw [ctE_ints (g2.trans g1) (by decide) (by decide), g3] at he
  have e1 : (Value.int i :: Value.ref a :: st).map (ctv B) = .int i :: .ref (bLo B + a) :: st.map (ctv B) := by simp [ctv, ctAd g4 w.2.2.1]
  rw [e1]
  exact va_bald C.1 C.2.1 C.2.2.2.2.2.1.1 w.1 a 0 he rfl hin hd (K p e s m args below meth c' H locs ls C w S h)
theorem ct_zald {a : Nat} {i x : Int32} (hB : ctOk B kd ln n) (hd : decode μ.2.1 pc = .ok (.baload, 1)) (hx : aI kd ln 10 a i M = some x) (hp : pc + 1 = q) (K : ctV B μ R post q L (.int x :: st) cs n M) : ctV B μ R post pc L (.int i :: .ref a :: st) cs n M := by
  subst hp
  intro p e s m args below meth c' H locs ls C w S h
  obtain ⟨g1, hin, rfl⟩ := aI_spec hx
  obtain ⟨g2, g3, g4⟩ := hB a (by omega)
  have he := ctW_at (B := B) (M := M) g4
  rw [ctE_ints (g2.trans g1) (by decide) (by decide), g3] at he
  have e1 : (Value.int i :: Value.ref a :: st).map (ctv B) = .int i :: .ref (bLo B + a) :: st.map (ctv B) := by simp [ctv, ctAd g4 w.2.2.1]
  rw [e1]
  exact va_zald C.1 C.2.1 C.2.2.2.2.2.1.1 w.1 a 2 he rfl hin hd (K p e s m args below meth c' H locs ls C w S h)
def ctEl : Nat → String
  | 11 => RX0 | 12 => RX1 | 13 => RX3 | _ => RX4
theorem ctTy_at {B : ctB} {t : Nat} (h : 11 ≤ t) (h2 : t < 15) : (ctTy B)[t - 8]? = some (bC B t, .object (ctEl t)) := by
  rcases (show t = 11 ∨ t = 12 ∨ t = 13 ∨ t = 14 by omega) with rfl | rfl | rfl | rfl <;> rfl
theorem ct_aald {a x : Nat} {i : Int32} {t : Nat} (ht : decide (11 ≤ t) && decide (t < 15) = true) (hB : ctOk B kd ln n) (hd : decode μ.2.1 pc = .ok (.aaload, 1)) (hx : aP kd ln t a i M = some x) (hp : pc + 1 = q) (K : ctV B μ R post q L (.ref x :: st) cs n M) : ctV B μ R post pc L (.int i :: .ref a :: st) cs n M := by
  subst hp
  intro p e s m args below meth c' H locs ls C w S h
  simp only [Bool.and_eq_true, decide_eq_true_eq] at ht
  obtain ⟨g1, hin, hx2⟩ := aP_spec hx
  obtain ⟨g2, g3, g4⟩ := hB a (by omega)
  have he := ctW_at (B := B) (M := M) g4
  rw [ctE_refs (g2.trans g1) ht.1, g3] at he
  have e1 : (Value.int i :: Value.ref a :: st).map (ctv B) = .int i :: .ref (bLo B + a) :: st.map (ctv B) := by simp [ctv, ctAd g4 w.2.2.1]
  rw [e1]
  refine va_aldq C.1 C.2.1 C.2.2.2.2.2.1.1 w.1 a (t - 8) he (ctTy_at ht.1 ht.2) hin hd ?_
  rw [hx2]
  exact K p e s m args below meth c' H locs ls C w S h
theorem ctW_ints {B : ctB} {n a t : Nat} {M : ctM} {j : Nat} {v : Int32} (g4 : a < n) (g : bKd B a = t) (h1 : 8 ≤ t) (h2 : t < 11) : (ctW B n M).set a (bLo B + a, .inl (bC B t, bLn B a, .inl (upd (M.1 a) j v))) = ctW B n (ctI M a j v) := by
  refine ctW_set g4 ?_ (fun b hb => ctE_neI hb)
  rw [ctE_ints g h1 h2]
  simp only [ctI, va_up, if_true]
  rfl
theorem ct_iast {a : Nat} {i v : Int32} {M' : ctM} (hB : ctOk B kd ln n) (hd : decode μ.2.1 pc = .ok (.iastore, 1)) (hx : sI kd ln 9 a i v M = some M') (hp : pc + 1 = q) (K : ctV B μ R post q L st cs n M') : ctV B μ R post pc L (.int v :: .int i :: .ref a :: st) cs n M := by
  subst hp
  intro p e s m args below meth c' H locs ls C w S h
  obtain ⟨g1, hin, rfl⟩ := sI_spec hx
  obtain ⟨g2, g3, g4⟩ := hB a (by omega)
  have he := ctW_at (B := B) (M := M) g4
  rw [ctE_ints (g2.trans g1) (by decide) (by decide)] at he
  rw [← g3] at hin
  have e1 : (Value.int v :: Value.int i :: Value.ref a :: st).map (ctv B) = .int v :: .int i :: .ref (bLo B + a) :: st.map (ctv B) := by simp [ctv, ctAd g4 w.2.2.1]
  rw [e1]
  refine W.iast C.1 C.2.1 (w.1 a _ he) ((C.2.2.2.2.2.1.1.2 1 _ rfl).1 _ (fun j => .int (M.1 a j))) (fun z => by cases z) (by show ¬ (i < 0 ∨ (arrV _ _ _).slots.size ≤ _); rw [arrV_size]; exact hin) rfl rfl hd fun H1 y1 y2 y3 => ?_
  have hP := w.1.set (ctD w.2.1) he (e := .inl (bC B 9, bLn B a, .inl (upd (M.1 a) i.toNatClampNeg v))) (by
    show H1[_]? = some (vp_cell _ _)
    rw [y1, vp_cell_i, vp_cell_i, arrV_store]
    congr 2
    funext z
    by_cases hz : z = i.toNatClampNeg <;> simp [updV, upd, hz]) y3
  rw [ctW_ints g4 (g2.trans g1) (by decide) (by decide)] at hP
  exact K p e s m args below meth c' H1 _ ls C (ctH_set w y2 hP) (S.put y2 y3 ((ctD w.2.1).2 a _ he)) h
theorem ct_bast {a : Nat} {i v : Int32} {M' : ctM} (hB : ctOk B kd ln n) (hd : decode μ.2.1 pc = .ok (.bastore, 1)) (hv : narrow .byte (.int v) = .int v) (hx : sI kd ln 8 a i v M = some M') (hp : pc + 1 = q) (K : ctV B μ R post q L st cs n M') : ctV B μ R post pc L (.int v :: .int i :: .ref a :: st) cs n M := by
  subst hp
  intro p e s m args below meth c' H locs ls C w S h
  obtain ⟨g1, hin, rfl⟩ := sI_spec hx
  obtain ⟨g2, g3, g4⟩ := hB a (by omega)
  have he := ctW_at (B := B) (M := M) g4
  rw [ctE_ints (g2.trans g1) (by decide) (by decide)] at he
  rw [← g3] at hin
  have e1 : (Value.int v :: Value.int i :: Value.ref a :: st).map (ctv B) = .int v :: .int i :: .ref (bLo B + a) :: st.map (ctv B) := by simp [ctv, ctAd g4 w.2.2.1]
  rw [e1]
  refine W.bast C.1 C.2.1 (w.1 a _ he) ((C.2.2.2.2.2.1.1.2 0 _ rfl).1 _ (fun j => .int (M.1 a j))) (fun z => by cases z) (by show ¬ (i < 0 ∨ (arrV _ _ _).slots.size ≤ _); rw [arrV_size]; exact hin) rfl rfl hd fun H1 y1 y2 y3 => ?_
  rw [hv] at y1
  have hP := w.1.set (ctD w.2.1) he (e := .inl (bC B 8, bLn B a, .inl (upd (M.1 a) i.toNatClampNeg v))) (by
    show H1[_]? = some (vp_cell _ _)
    rw [y1, vp_cell_i, vp_cell_i, arrV_store]
    congr 2
    funext z
    by_cases hz : z = i.toNatClampNeg <;> simp [updV, upd, hz]) y3
  rw [ctW_ints g4 (g2.trans g1) (by decide) (by decide)] at hP
  exact K p e s m args below meth c' H1 _ ls C (ctH_set w y2 hP) (S.put y2 y3 ((ctD w.2.1).2 a _ he)) h
theorem ct_zast {a : Nat} {i v : Int32} {M' : ctM} (hB : ctOk B kd ln n) (hd : decode μ.2.1 pc = .ok (.bastore, 1)) (hv : narrow .boolean (.int v) = .int v) (hx : sI kd ln 10 a i v M = some M') (hp : pc + 1 = q) (K : ctV B μ R post q L st cs n M') : ctV B μ R post pc L (.int v :: .int i :: .ref a :: st) cs n M := by
  subst hp
  intro p e s m args below meth c' H locs ls C w S h
  obtain ⟨g1, hin, rfl⟩ := sI_spec hx
  obtain ⟨g2, g3, g4⟩ := hB a (by omega)
  have he := ctW_at (B := B) (M := M) g4
  rw [ctE_ints (g2.trans g1) (by decide) (by decide)] at he
  rw [← g3] at hin
  have e1 : (Value.int v :: Value.int i :: Value.ref a :: st).map (ctv B) = .int v :: .int i :: .ref (bLo B + a) :: st.map (ctv B) := by simp [ctv, ctAd g4 w.2.2.1]
  rw [e1]
  refine W.zast C.1 C.2.1 (w.1 a _ he) ((C.2.2.2.2.2.1.1.2 2 _ rfl).1 _ (fun j => .int (M.1 a j))) (fun z => by cases z) (by show ¬ (i < 0 ∨ (arrV _ _ _).slots.size ≤ _); rw [arrV_size]; exact hin) rfl rfl hd fun H1 y1 y2 y3 => ?_
  rw [hv] at y1
  have hP := w.1.set (ctD w.2.1) he (e := .inl (bC B 10, bLn B a, .inl (upd (M.1 a) i.toNatClampNeg v))) (by
    show H1[_]? = some (vp_cell _ _)
    rw [y1, vp_cell_i, vp_cell_i, arrV_store]
    congr 2
    funext z
    by_cases hz : z = i.toNatClampNeg <;> simp [updV, upd, hz]) y3
  rw [ctW_ints g4 (g2.trans g1) (by decide) (by decide)] at hP
  exact K p e s m args below meth c' H1 _ ls C (ctH_set w y2 hP) (S.put y2 y3 ((ctD w.2.1).2 a _ he)) h
def ctTc (t c : Nat) : Bool := (t == 11 && c == 0) || (t == 12 && c == 1) || (t == 13 && c == 3) || (t == 14 && c == 4)
theorem ctTc_spec {t c : Nat} (h : ctTc t c = true) : 11 ≤ t ∧ t < 15 ∧ c < 8 ∧ ctEl t = ctR c := by
  simp only [ctTc, Bool.or_eq_true, Bool.and_eq_true, beq_iff_eq] at h
  rcases h with ((⟨rfl, rfl⟩ | ⟨rfl, rfl⟩) | ⟨rfl, rfl⟩) | ⟨rfl, rfl⟩ <;> exact ⟨by decide, by decide, by decide, rfl⟩
theorem ct_aast {t c a b : Nat} {i : Int32} {M' : ctM} (htc : ctTc t c = true) (hB : ctOk B kd ln n) (hd : decode μ.2.1 pc = .ok (.aastore, 1)) (hx : sP kd ln t c a i b M = some M') (hp : pc + 1 = q) (K : ctV B μ R post q L st cs n M') : ctV B μ R post pc L (.ref b :: .int i :: .ref a :: st) cs n M := by
  subst hp
  intro p e s m args below meth c' H locs ls C w S h
  obtain ⟨t1, t2, t3, t4⟩ := ctTc_spec htc
  obtain ⟨g1, k1, hin, rfl⟩ := sP_spec hx
  obtain ⟨g2, g3, g4⟩ := hB a (by omega)
  obtain ⟨k2, k3, k4⟩ := hB b (by omega)
  have he := ctW_at (B := B) (M := M) g4
  rw [ctE_refs (g2.trans g1) t1] at he
  have hv := ctW_at (B := B) (M := M) k4
  rw [ctE_obj (k2.trans k1) t3] at hv
  rw [← g3] at hin
  have e1 : (Value.ref b :: Value.int i :: Value.ref a :: st).map (ctv B) = .ref (bLo B + b) :: .int i :: .ref (bLo B + a) :: st.map (ctv B) := by simp [ctv, ctAd g4 w.2.2.1, ctAd k4 w.2.2.1]
  rw [e1]
  have hlt : i.toNatClampNeg < bLn B a := Nat.not_le.mp fun z => hin (Or.inr z)
  have h0 : ¬ i < 0 := fun z => hin (Or.inl z)
  have hK := C.2.2.2.2.2.1.1
  obtain ⟨r', hr', cellV, v1, v2, v3, -⟩ := w.1 b _ hv
  have hcls := (hK.1 c _ (ct_at t3)).2
  obtain ⟨kA, comp, z1, z2, z3, -⟩ := (hK.2 (t - 8) _ (ctTy_at t1 t2)).2
  rw [t4] at z3
  have hcomp : comp = (bD B).1 c := Option.some.inj (z3.symm.trans hcls.1)
  subst hcomp
  obtain ⟨kC, hkC, -⟩ := hcls.2
  refine W.aast C.1 C.2.1 (w.1 a _ he) (fun z h => by cases h) (fun h => by cases h) z1 z2 rfl hkC ⟨h0, by show _ < (arrV _ _ _).slots.size; rw [arrV_size]; exact hlt⟩ v1 (fun z h => by rw [v3] at h; cases h) (by rw [v2]; exact hkC) (by rw [v2]; exact va_assign hcls) rfl rfl hd fun H1 y1 y2 y3 => ?_
  have hP := w.1.set (ctD w.2.1) he (e := .inl (bC B t, bLn B a, .inr (.inr (.inr (.inr (va_up (fun j => (M.2 a j).map (bAd B)) i.toNatClampNeg (some (bLo B + b)))))))) (by
    show H1[_]? = some (vp_cell _ _)
    rw [y1, vp_cell_q, vp_cell_q, arrV_store]
    congr 2
    funext z
    by_cases hz : z = i.toNatClampNeg <;> simp [updV, va_up, va_rf, hz]) y3
  rw [ctW_set (M' := ctP M a i.toNatClampNeg (some b)) g4 (by
    rw [ctE_refs (g2.trans g1) t1]
    congr 7
    funext j
    by_cases hj : j = i.toNatClampNeg <;> simp [ctP, va_up, hj, ctAd k4 w.2.2.1]) (fun b hb => ctE_neP hb)] at hP
  exact K p e s m args below meth c' H1 _ ls C (ctH_set w y2 hP) (S.put y2 y3 ((ctD w.2.1).2 a _ he)) h
end
