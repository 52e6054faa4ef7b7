section
variable {B : ctB} {μ μ' : Mi} {R R' : Nat × Nat × Nat} {post post' : ctPost} {pc q : Nat} {L : List (Option Value)} {st : List Value} {cs : Nat × Nat} {n : Nat} {M : ctM}
/-! the two texts: their cells lie outside -/
abbrev ctsK (B : ctB) (i : Nat) : Value := .ref (1000 + bK B i)
abbrev ctsV (B : ctB) (i : Nat) : Value := .ref (1000 + bV B i)
theorem ct_out (x : Nat) : ctv B (.ref (1000 + x)) = .ref x := by
  have : ¬ 1000 + x < 1000 := by omega
  simp [ctv, bAd, this]
theorem ct_ldcS {idx i : Nat} (hi : (i = 0 ∧ idx = 64) ∨ (i = 1 ∧ idx = 94)) (hown : μ.1.cls = RX5) (hd : decode μ.2.1 pc = .ok (.ldc idx, 2)) (hp : pc + 2 = q) (K : ctV B μ R post q L (ctsK B i :: st) cs n M) : ctV B μ R post pc L st cs n M := by
  subst hp
  intro p e s m args below meth c H locs ls C w S h
  have k := K p e s m args below meth c H locs ls C w S h
  rw [List.map_cons, ct_out] at k
  obtain ⟨hx, hb2, hml, hown2, hts, ⟨-, -, ⟨-, r0, r1, -⟩, -⟩, -⟩ := id C
  rw [hown] at hown2
  rcases hi with ⟨rfl, rfl⟩ | ⟨rfl, rfl⟩
  · exact va_ldcS hx hb2 hown2 r0 hd k
  · exact va_ldcS hx hb2 hown2 r1 hd k
theorem ct_gsC {idx : Nat} (hd : decode μ.2.1 pc = .ok (.getstatic idx, 3)) (hl : Cond.fieldLink μ.1.cls idx RJ0 "COMPACT_STRINGS" "Z" ∈ ctG) (hp : pc + 3 = q) (K : ctV B μ R post q L (.int 1 :: st) cs n M) : ctV B μ R post pc L st cs n M := by
  subst hp
  intro p e s m args below meth c H locs ls C w S h
  obtain ⟨hx, hb2, hml, hown, hts, ⟨-, -, ⟨-, -, -, z, -⟩, -⟩, -⟩ := id C
  exact va_gets hx hb2 z S hown (hts _ hl) (fun _ y => y) hd (K p e s m args below meth c H locs ls C w S h)
theorem ct_gsF {idx : Nat} (hd : decode μ.2.1 pc = .ok (.getstatic idx, 3)) (hl : Cond.fieldLink μ.1.cls idx RJ3 "SIOOBE_FORMATTER" "Ljava/util/function/BiFunction;" ∈ ctG) (hp : pc + 3 = q) (K1 : ctV B μ R post q L (.null :: st) cs n M) (K2 : ∀ t : Nat, ctV B μ R post q L (.ref (1000 + t) :: st) cs n M) : ctV B μ R post pc L st cs n M := by
  subst hp
  intro p e s m args below meth c H locs ls C w S h
  obtain ⟨hx, hb2, hml, hown, hts, ⟨-, -, ⟨-, -, -, -, z⟩, -⟩, -⟩ := id C
  rcases z with z | ⟨t, z⟩
  · exact va_gets hx hb2 z S hown (hts _ hl) (fun _ y => y) hd (K1 p e s m args below meth c H locs ls C w S h)
  · have k := K2 t p e s m args below meth c H locs ls C w S h
    rw [List.map_cons, ct_out] at k
    exact va_gets hx hb2 z S hown (hts _ hl) (fun _ y => y) hd k
theorem ct_gcod {idx i : Nat} (hi : i < 2) (hd : decode μ.2.1 pc = .ok (.getfield idx, 3)) (hl : Cond.fieldLink μ.1.cls idx RJ0 "coder" "B" ∈ ctG) (hp : pc + 3 = q) (K : ctV B μ R post q L (.int 0 :: st) cs n M) : ctV B μ R post pc L (ctsK B i :: st) cs n M := by
  subst hp
  intro p e s m args below meth c H locs ls C w S h
  obtain ⟨hx, hb2, hml, hown, hts, ⟨-, -, ⟨z, -⟩, -⟩, -⟩ := id C
  rw [List.map_cons, ct_out]
  exact vk_getf hx hb2 (z.1 i hi).2.1 S hown (hts _ hl) (fun _ y => y) hd (K p e s m args below meth c H locs ls C w S h)
theorem ct_gval {idx i : Nat} (hi : i < 2) (hd : decode μ.2.1 pc = .ok (.getfield idx, 3)) (hl : Cond.fieldLink μ.1.cls idx RJ0 "value" "[B" ∈ ctG) (hp : pc + 3 = q) (K : ctV B μ R post q L (ctsV B i :: st) cs n M) : ctV B μ R post pc L (ctsK B i :: st) cs n M := by
  subst hp
  intro p e s m args below meth c H locs ls C w S h
  obtain ⟨hx, hb2, hml, hown, hts, ⟨-, -, ⟨z, -⟩, -⟩, -⟩ := id C
  have k := K p e s m args below meth c H locs ls C w S h
  rw [List.map_cons, ct_out] at k ⊢
  exact vk_getf hx hb2 (z.1 i hi).2.2.1 S hown (hts _ hl) (fun _ y => y) hd k
theorem ct_slen {i : Nat} (hi : i < 2) (hd : decode μ.2.1 pc = .ok (.arraylength, 1)) (hp : pc + 1 = q) (K : ctV B μ R post q L (.int (Int32.ofNat (ctSL.getD i 0)) :: st) cs n M) : ctV B μ R post pc L (ctsV B i :: st) cs n M := by
  subst hp
  intro p e s m args below meth c H locs ls C w S h
  obtain ⟨hx, hb2, hml, hown, hts, ⟨-, -, ⟨z, -⟩, -⟩, -⟩ := id C
  rw [List.map_cons, ct_out]
  exact va_tlen hx hb2 (z.1 i hi).2.2.2 S rfl hd (K p e s m args below meth c H locs ls C w S h)
theorem ct_sbald {i : Nat} {k : Int32} (hi : i < 2) (hin : vp_in k (ctSL.getD i 0)) (hd : decode μ.2.1 pc = .ok (.baload, 1)) (hp : pc + 1 = q) (K : ctV B μ R post q L (.int ((ctSB.getD i []).getD k.toNatClampNeg 0) :: st) cs n M) : ctV B μ R post pc L (.int k :: ctsV B i :: st) cs n M := by
  subst hp
  intro p e s m args below meth c H locs ls C w S h
  obtain ⟨hx, hb2, hml, hown, hts, ⟨-, -, ⟨z, -⟩, -⟩, -⟩ := id C
  rw [List.map_cons, List.map_cons, ct_out]
  exact va_tb hx hb2 (z.1 i hi).2.2.2 S hin rfl hd (K p e s m args below meth c H locs ls C w S h)
theorem ct_i2c {x : Int32} (hd : decode μ.2.1 pc = .ok (.i2c, 1)) (hp : pc + 1 = q) (K : ctV B μ R post q L (.int (x.toUInt32 % 65536).toInt32 :: st) cs n M) : ctV B μ R post pc L (.int x :: st) cs n M := by
  subst hp
  exact fun p e s m args below meth c H locs ls C w S h => lv_i2c C.1 C.2.1 hd rfl (K p e s m args below meth c H locs ls C w S h)
theorem ct_cret {x : Int32} (hd : decode μ.2.1 pc = .ok (.ireturn, 1)) (hr : μ.2.2.2 = some .char) (hx : narrow .char (.int x) = .int x) (hc : cs.1 ≤ R.2.1 ∧ cs.2 ≤ R.2.2) (hp : post (some (.int x)) n M) : ctV B μ R post pc L [.int x] cs n M :=
  fun p e s m args below meth c H locs ls C w S h => W.widen hc.1 hc.2 (W.zret C.1 C.2.1 (C.2.2.2.2.2.2.1.trans hr) hx (fun t ht hW => ⟨⟨some (.int x), n, M, rfl, hp, by rw [ht]; exact w⟩, S.F ht⟩) S.2.2 hd C.2.2.2.2.2.2.2.1)
theorem ct_callVs {idx k i : Nat} {As rest : List Value} (hi : i < 2) (hd : decode μ.2.1 pc = .ok (.invokevirtual idx, 3)) (hl : ctLkV μ.1.cls idx μ' k) (hk : As.length = k) (hR : R'.1 + 1 ≤ R.1) (hC : ctC B μ' R' (ctsK B i :: As) n M post') (hcn : μ'.1.cls = RJ0) (hrest : (rest.map fun v => v.category).sum ≤ 8) (hcs : cs.1 + R'.2.1 ≤ R.2.1 ∧ cs.2 + R'.2.2 ≤ R.2.2) (hst : st = As.reverse ++ ctsK B i :: rest)
    (kk : ∀ (v : Option Value) (n' : Nat) (M' : ctM), post' v n' M' → ctV B μ R post (pc + 3) L (v.toList ++ rest) (cs.1 + R'.2.1, cs.2 + R'.2.2) n' M') : ctV B μ R post pc L st cs n M := by
  subst hst
  intro p e s m args below meth c H locs ls C w S h
  obtain ⟨⟨w1, w2, w3, w4⟩, w5, w6, w7⟩ := hl
  obtain ⟨hx, hb, hml, hown, hts, hK, -⟩ := id C
  have hrecv := vk_recv hK.2.2.1.1 hi S
  rw [show ("java/lang/String" : String) = μ'.1.cls from hcn.symm] at hrecv
  refine ct_back (rest := rest.map (ctv B)) (va_runV (b := bK B i) (C := μ'.1.cls) (As := As.map (ctv B)) (rest := rest.map (ctv B)) (Ts := ctG) (ws := Cond.code μ'.1 μ'.2.1 μ'.2.2.1 μ'.2.2.2 :: ctG) (nL := μ.2.2.1) ⟨hx, hb, hml, hown, hts⟩ hC (cwV (ws' := ctG) k hts (fun x hx2 => ?_) rfl rfl rfl ⟨rfl, w3⟩ (ct_room hR w4)) ⟨ct_blind, hrecv, fun U hU hW => ⟨?_, by rw [hU]; exact w, ctK_moved hK S hU hW⟩⟩ rfl (by rw [List.length_map, hk]) h.1 ?_ (ct_rs hrest) hd hcs) S (fun v n' M' H1 locs1 hp hH hS => ?_)
  · unfold wsV at hx2
    rcases List.mem_append.mp hx2 with hx3 | hx3
    · have hg : x ∈ ctG := by
        simp only [List.mem_cons, List.mem_nil_iff, or_false] at hx3
        rcases hx3 with rfl | rfl | rfl | rfl
        · exact w5
        · exact w6
        · exact w7
        · exact w1
      exact ⟨hg, good_of_word (ctG_good x hg)⟩
    · exact ct_goodIn w2 x hx3
  · show (Value.ref (bK B i) :: As.map (ctv B)).toArray = ((ctsK B i :: As).map (ctv B)).toArray
    rw [List.map_cons, ct_out]
  · show (As.reverse ++ ctsK B i :: rest).map (ctv B) = _
    rw [List.map_append, List.map_cons, ct_out, List.map_reverse]
  · have := kk v n' M' hp p e s m args below meth c H1 locs1 ls C hH hS h
    rw [ct_tl] at this
    exact this
end
