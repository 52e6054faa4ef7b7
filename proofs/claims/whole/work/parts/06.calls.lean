section
variable {B : ctB} {μ μ' : Mi} {R R' : Nat × Nat × Nat} {post post' : ctPost} {pc q : Nat} {L : List (Option Value)} {st : List Value} {cs : Nat × Nat} {n : Nat} {M : ctM}
/-- the words of a call -/
def ctLk (μ' : Mi) (k : Nat) : Prop := Cond.initialized μ'.1.cls ∈ ctG ∧ Cond.code μ'.1 μ'.2.1 μ'.2.2.1 μ'.2.2.2 ∈ ctG ∧ (μ'.1.cls ≠ "java/lang/invoke/MethodHandle" ∧ μ'.1.cls ≠ "java/lang/invoke/VarHandle" ∧ (parseMethodDescriptor μ'.1.desc).map (fun d => d.parameters.length) = some k) ∧ μ'.2.2.1 ≤ 21
def ctLkV (own : String) (idx : Nat) (μ' : Mi) (k : Nat) : Prop := ctLk μ' k ∧ Cond.methodLink own idx μ'.1 ∈ ctG ∧ Cond.instanceMethod μ'.1 ∈ ctG ∧ Cond.selects μ'.1.cls μ'.1 μ'.1 ∈ ctG
def ctLkS (own : String) (idx : Nat) (μ' : Mi) (k : Nat) : Prop := ctLk μ' k ∧ Cond.methodLink own idx μ'.1 ∈ ctG ∧ Cond.static μ'.1 ∈ ctG
def ctLkSN (own : String) (idx : Nat) (μ' : Mi) (k : Nat) (host : String) : Prop := ctLk μ' k ∧ Cond.methodLinkNest own idx μ'.1 host ∈ ctNw ∧ Cond.static μ'.1 ∈ ctG
def ctLkI (own : String) (idx : Nat) (μ' : Mi) (k : Nat) : Prop := ctLk μ' k ∧ Cond.methodLink own idx μ'.1 ∈ ctG ∧ Cond.instanceMethod μ'.1 ∈ ctG ∧ μ'.1.name = "<init>" ∧ μ'.2.2.2 = none
def ctLkIN (own : String) (idx : Nat) (μ' : Mi) (k : Nat) (host : String) : Prop := ctLk μ' k ∧ Cond.methodLinkNest own idx μ'.1 host ∈ ctNw ∧ Cond.instanceMethod μ'.1 ∈ ctG ∧ μ'.1.name = "<init>" ∧ μ'.2.2.2 = none
theorem ct_goodIn (hc : Cond.code μ'.1 μ'.2.1 μ'.2.2.1 μ'.2.2.2 ∈ ctG) : GoodIn ctG (Cond.code μ'.1 μ'.2.1 μ'.2.2.1 μ'.2.2.2 :: ctG) := by
  intro w hw
  have h1 : w ∈ ctG := (List.mem_cons.mp hw).elim (fun e => e ▸ hc) id
  exact ⟨h1, good_of_word (ctG_good w h1)⟩
theorem ct_room (hR : R'.1 + 1 ≤ R.1) (hm : μ'.2.2.1 ≤ 21) : (ctRm R').frames + 1 ≤ (ctRm R).frames ∧ 8 + (μ'.2.2.1 + 11) + (ctRm R').locals ≤ (ctRm R).locals := by
  refine ⟨hR, ?_⟩
  show 8 + (μ'.2.2.1 + 11) + 40 * R'.1 ≤ 40 * R.1
  omega
theorem ct_blind {args : List Value} : FrameBlind (va_Pc (args.map (ctv B)) (fun U => ctH B n M U.heap ∧ ctK B U)) := by
  intro a U g mk h
  obtain ⟨h1, h2, h3⟩ := h
  exact ⟨h1, h2, ctK_same (u := U) (U := U.calling g mk a) rfl rfl h3⟩
/-- behind a call -/
theorem ct_back {p : Program} {l : Launch} {e : Env} {Rm : Room} {s : State} {m : MethodId} {args : Array Value} {below : List Frame} {meth : Method} {c : Code} {H : Heap} {locs : List Loc} {cells slots mc ms : Nat} {Q : State → Prop} {ls : Array Slot} {rest st0 : List Value} {a : Array Value} {H0 : Heap}
    (hr : va_Run p l e Rm s m args below meth c H locs cells slots mc ms (F0 m pc ls st0) rest (ctQp B post' a) (ctA B)) (hS : va_S (ctA B) H0 H locs)
    (kk : ∀ (v : Option Value) (n' : Nat) (M' : ctM) (H1 : Heap) (locs1 : List Loc), post' v n' M' → ctH B n' M' H1 → va_S (ctA B) H0 H1 locs1 → W p l e Rm s m args below meth c H1 locs1 (cells + mc) (slots + ms) Q (F0 m (pc + 3) ls ((v.map (ctv B)).toList ++ rest))) : W p l e Rm s m args below meth c H locs cells slots Q (F0 m pc ls st0) := by
  intro T hT X
  obtain ⟨v, st₀, t, T', Lc, h0, X', hL, e1, e2, ⟨⟨v0, n', M', hv, hp, hb⟩, hz, hk⟩, sts⟩ := hr T hT X
  cases hv
  rw [h0] at hz hk
  obtain ⟨t2, a1, b1⟩ := kk v0 n' M' T'.heap (locs ++ Lc) hp (by rw [e1]; exact hb)
    ⟨Nat.le_trans hS.1 (by rw [e1]; exact hz), fun z h1 h2 => by rw [e1, hk z (Nat.lt_of_lt_of_le h1 hS.1) h2]; exact hS.2.1 z h1 h2, fun z hq => by
      rcases List.mem_append.mp hq with h | h
      · exact hS.2.2 z h
      · exact hL z h⟩ T' rfl X'
  exact ⟨t2, sts t2 a1, b1⟩
theorem ct_tl (v : Option Value) (rest : List Value) : (v.toList ++ rest).map (ctv B) = (v.map (ctv B)).toList ++ rest.map (ctv B) := by cases v <;> rfl
theorem ct_rs {rest : List Value} {m : MethodId} {ls : Array Slot} {st0 : List Value} (h : (rest.map fun v => v.category).sum ≤ 8) : 2 * (F0 m pc ls st0).monitorRoom + ((rest.map (ctv B)).map fun v => v.category).sum ≤ 8 := lv_room (by rw [ctv_cats]; exact h)
theorem ct_callV {idx k ci a : Nat} {As rest : List Value} {kd ln : Nat → Nat} (hB : ctOk B kd ln n) (hd : decode μ.2.1 pc = .ok (.invokevirtual idx, 3)) (hl : ctLkV μ.1.cls idx μ' k) (hk : As.length = k) (hR : R'.1 + 1 ≤ R.1) (hC : ctC B μ' R' (.ref a :: As) n M post') (ha : kd a = ci) (hci : ci < 8) (hcn : ctR ci = μ'.1.cls) (hrest : (rest.map fun v => v.category).sum ≤ 8) (hcs : cs.1 + R'.2.1 ≤ R.2.1 ∧ cs.2 + R'.2.2 ≤ R.2.2) (hst : st = As.reverse ++ .ref a :: rest)
    (kk : ∀ (v : Option Value) (n' : Nat) (M' : ctM), post' v n' M' → ctV B μ R post (pc + 3) L (v.toList ++ rest) (cs.1 + R'.2.1, cs.2 + R'.2.2) n' M') : ctV B μ R post pc L st cs n M := by
  subst hst
  intro p e s m args below meth c H locs ls C w S h
  obtain ⟨⟨w1, w2, w3, w4⟩, w5, w6, w7⟩ := hl
  obtain ⟨g2, -, g4⟩ := hB a (by omega)
  have he := ctW_at (B := B) (M := M) g4
  rw [ctE_obj (g2.trans ha) hci] at he
  obtain ⟨hx, hb, hml, hown, hts, hK, -⟩ := id C
  have hrecv := va_recv hK.1 w.1 (ct_at hci) he
  simp only [hcn] at hrecv
  refine ct_back (rest := rest.map (ctv B)) (va_runV (b := bLo B + a) (C := μ'.1.cls) (As := As.map (ctv B)) (rest := rest.map (ctv B)) (Ts := ctG) (ws := Cond.code μ'.1 μ'.2.1 μ'.2.2.1 μ'.2.2.2 :: ctG) (nL := μ.2.2.1) ⟨hx, hb, hml, hown, hts⟩ hC (cwV (ws' := ctG) k hts (fun x hx2 => ?_) rfl rfl rfl ⟨rfl, w3⟩ (ct_room hR w4)) ⟨ct_blind, hrecv, fun U hU hW => ⟨?_, by rw [hU]; exact w, ctK_moved hK S hU hW⟩⟩ rfl (by rw [List.length_map, hk]) h.1 ?_ (ct_rs hrest) hd hcs) S (fun v n' M' H1 locs1 hp hH hS => ?_)
  · unfold wsV at hx2
    rcases List.mem_append.mp hx2 with hx3 | hx3
    · have hg : x ∈ ctG := by
        simp only [List.mem_cons, List.mem_nil_iff, or_false] at hx3
        rcases hx3 with rfl | rfl | rfl | rfl
        · exact w5
        · exact w6
        · exact w7
        · exact w1
      exact ⟨hg, good_of_word (ctG_good x hg)⟩
    · exact ct_goodIn w2 x hx3
  · show (Value.ref (bLo B + a) :: As.map (ctv B)).toArray = ((Value.ref a :: As).map (ctv B)).toArray
    simp [ctv, ctAd g4 w.2.2.1]
  · show (As.reverse ++ Value.ref a :: rest).map (ctv B) = _
    simp [ctv, ctAd g4 w.2.2.1]
  · have := kk v n' M' hp p e s m args below meth c H1 locs1 ls C hH hS h
    rw [ct_tl] at this
    exact this
theorem ct_callS {idx k : Nat} {As rest : List Value} (hd : decode μ.2.1 pc = .ok (.invokestatic idx, 3)) (hl : ctLkS μ.1.cls idx μ' k ∨ ∃ host, ctLkSN μ.1.cls idx μ' k host) (hk : As.length = k) (hR : R'.1 + 1 ≤ R.1) (hC : ctC B μ' R' As n M post') (hrest : (rest.map fun v => v.category).sum ≤ 8) (hcs : cs.1 + R'.2.1 ≤ R.2.1 ∧ cs.2 + R'.2.2 ≤ R.2.2) (hst : st = As.reverse ++ rest)
    (kk : ∀ (v : Option Value) (n' : Nat) (M' : ctM), post' v n' M' → ctV B μ R post (pc + 3) L (v.toList ++ rest) (cs.1 + R'.2.1, cs.2 + R'.2.2) n' M') : ctV B μ R post pc L st cs n M := by
  subst hst
  intro p e s m args below meth c H locs ls C w S h
  obtain ⟨hx, hb, hml, hown, hts, hK, -⟩ := id C
  have hpre : PreS s H (va_Pc (As.map (ctv B)) (fun U => ctH B n M U.heap ∧ ctK B U)) (As.map (ctv B)) := ⟨ct_blind, fun U hU hW => ⟨rfl, by rw [hU]; exact w, ctK_moved hK S hU hW⟩⟩
  have hst2 : (F0 m pc ls ((As.reverse ++ rest).map (ctv B))).stack = (As.map (ctv B)).reverse ++ rest.map (ctv B) := by simp
  have fin : ∀ (v : Option Value) (n' : Nat) (M' : ctM) (H1 : Heap) (locs1 : List Loc), post' v n' M' → ctH B n' M' H1 → va_S (ctA B) s.heap H1 locs1 → W p (bL B) e (ctRm R) s m args below meth c H1 locs1 (cs.1 + R'.2.1) (cs.2 + R'.2.2) (MQ below (ctQp B post) args s R.2.1 R.2.2 (ctA B)) (F0 m (pc + 3) ls ((v.map (ctv B)).toList ++ rest.map (ctv B))) := by
    intro v n' M' H1 locs1 hp hH hS
    have := kk v n' M' hp p e s m args below meth c H1 locs1 ls C hH hS h
    rw [ct_tl] at this
    exact this
  rcases hl with ⟨⟨w1, w2, w3, w4⟩, w5, w6⟩ | ⟨host, ⟨w1, w2, w3, w4⟩, w5, w6⟩
  · exact ct_back (rest := rest.map (ctv B)) (va_runS (As := As.map (ctv B)) (rest := rest.map (ctv B)) (Ts := ctG) (ws := Cond.code μ'.1 μ'.2.1 μ'.2.2.1 μ'.2.2.2 :: ctG) (nL := μ.2.2.1) ⟨hx, hb, hml, hown, hts⟩ hC ⟨callB_of (ws' := ctG) k hts (ct_goodIn w2) rfl rfl rfl (hts _ w1) (hts _ w5) w3 (ct_room hR w4), hts _ w6⟩ hpre rfl (by rw [List.length_map, hk]) h.1 hst2 (ct_rs hrest) hd hcs) S fin
  · exact ct_back (rest := rest.map (ctv B)) (va_runSN (host := host) (As := As.map (ctv B)) (rest := rest.map (ctv B)) (Ts := ctG) (ws := Cond.code μ'.1 μ'.2.1 μ'.2.2.1 μ'.2.2.2 :: ctG) (nL := μ.2.2.1) ⟨hx, hb, hml, hown, hts⟩ hC ⟨va_cnB (ws' := ctG) k hts (ct_goodIn w2) rfl rfl rfl (hK.2.1 _ w5) (hts _ w1) w3 (ct_room hR w4), hts _ w6, trivial⟩ hpre rfl (by rw [List.length_map, hk]) h.1 hst2 (ct_rs hrest) hd hcs) S fin
theorem ct_callI {idx k a : Nat} {As rest : List Value} (hd : decode μ.2.1 pc = .ok (.invokespecial idx, 3)) (hl : ctLkI μ.1.cls idx μ' k ∨ ∃ host, ctLkIN μ.1.cls idx μ' k host) (hk : As.length = k) (hR : R'.1 + 1 ≤ R.1) (hC : ctC B μ' R' (.ref a :: As) n M post') (hrest : (rest.map fun v => v.category).sum ≤ 8) (hcs : cs.1 + R'.2.1 ≤ R.2.1 ∧ cs.2 + R'.2.2 ≤ R.2.2) (hst : st = As.reverse ++ .ref a :: rest)
    (kk : ∀ (v : Option Value) (n' : Nat) (M' : ctM), post' v n' M' → ctV B μ R post (pc + 3) L (v.toList ++ rest) (cs.1 + R'.2.1, cs.2 + R'.2.2) n' M') : ctV B μ R post pc L st cs n M := by
  subst hst
  intro p e s m args below meth c H locs ls C w S h
  obtain ⟨hx, hb, hml, hown, hts, hK, -⟩ := id C
  have hpre : PreS s H (va_Pc ((Value.ref a :: As).map (ctv B)) (fun U => ctH B n M U.heap ∧ ctK B U)) (.ref (bAd B a) :: As.map (ctv B)) := ⟨ct_blind, fun U hU hW => ⟨rfl, by rw [hU]; exact w, ctK_moved hK S hU hW⟩⟩
  have hst2 : (F0 m pc ls ((As.reverse ++ Value.ref a :: rest).map (ctv B))).stack = (As.map (ctv B)).reverse ++ .ref (bAd B a) :: rest.map (ctv B) := by simp [ctv]
  have fin : ∀ (v : Option Value) (n' : Nat) (M' : ctM) (H1 : Heap) (locs1 : List Loc), post' v n' M' → ctH B n' M' H1 → va_S (ctA B) s.heap H1 locs1 → W p (bL B) e (ctRm R) s m args below meth c H1 locs1 (cs.1 + R'.2.1) (cs.2 + R'.2.2) (MQ below (ctQp B post) args s R.2.1 R.2.2 (ctA B)) (F0 m (pc + 3) ls ((v.map (ctv B)).toList ++ rest.map (ctv B))) := by
    intro v n' M' H1 locs1 hp hH hS
    have := kk v n' M' hp p e s m args below meth c H1 locs1 ls C hH hS h
    rw [ct_tl] at this
    exact this
  rcases hl with ⟨⟨w1, w2, w3, w4⟩, w5, w6, w7, w8⟩ | ⟨host, ⟨w1, w2, w3, w4⟩, w5, w6, w7, w8⟩
  · have hG := ct_goodIn w2
    unfold ctC at hC
    rw [w8] at hC hG
    exact ct_back (rest := rest.map (ctv B)) (va_runI (b := bAd B a) (As := As.map (ctv B)) (rest := rest.map (ctv B)) (Ts := ctG) (ws := Cond.code μ'.1 μ'.2.1 μ'.2.2.1 none :: ctG) (nL := μ.2.2.1) ⟨hx, hb, hml, hown, hts⟩ hC ⟨callB_of (ws' := ctG) k hts hG rfl rfl rfl (hts _ w1) (hts _ w5) w3 (ct_room hR w4), w7, hts _ w6⟩ hpre rfl (by rw [List.length_map, hk]) h.1 hst2 (ct_rs hrest) hd hcs) S fin
  · have hG := ct_goodIn w2
    unfold ctC at hC
    rw [w8] at hC hG
    exact ct_back (rest := rest.map (ctv B)) (va_runIN (b := bAd B a) (host := host) (As := As.map (ctv B)) (rest := rest.map (ctv B)) (Ts := ctG) (ws := Cond.code μ'.1 μ'.2.1 μ'.2.2.1 none :: ctG) (nL := μ.2.2.1) ⟨hx, hb, hml, hown, hts⟩ hC ⟨va_cnB (ws' := ctG) k hts hG rfl rfl rfl (hK.2.1 _ w5) (hts _ w1) w3 (ct_room hR w4), w7, hts _ w6⟩ hpre rfl (by rw [List.length_map, hk]) h.1 hst2 (ct_rs hrest) hd hcs) S fin
end
