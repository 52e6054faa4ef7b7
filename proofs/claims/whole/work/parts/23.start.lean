def ctm0 : ctM := (fun _ _ => 0, fun _ _ => none)
section
variable {p : Program} {l : Launch} {e : Env} {s : State} {m : MethodId} {below : List Frame} {meth : Method} {c : Code} {b L : Nat} {xs : Nat → Int32} {H : Heap} {locs : List Loc} {ca sl : Nat} {Q : State → Prop} {ls : Array Slot}
theorem lw_new {B : ctB} {pc idx cI n : Nat} {M : ctM} {rest : List Value} (C0 : lw_At p s m meth c b L xs) (hK : ctK B s) (hfr : bF B = true) (hd : decode code pc = .ok (.new idx, 3)) (hl : ctNwL R_law idx cI) (h1 : cI < 8) (hk : bKd B n = cI) (hb : bLo B + (n + 1) ≤ bHi B) (hn : n < 1000) (hc : ca + 1 ≤ 600000) (hs : sl + ctN cI ≤ 7302250) (w : ctH B n M H) (S : va_S (fun q : Nat => s.heap.size ≤ q) s.heap H locs)
    (K : ∀ H1 : Heap, ctH B (n + 1) (ctZ M n) H1 → H.size ≤ H1.size → (∀ q : Nat, q < H.size → H1[q]? = H[q]?) → va_S (fun q : Nat => s.heap.size ≤ q) s.heap H1 locs → W p (bL B) e room_1 s m #[Value.ref b] below meth c H1 locs (ca + 1) (sl + ctN cI) Q (F0 m (pc + 3) ls (.ref (bLo B + n) :: rest))) : W p (bL B) e room_1 s m #[Value.ref b] below meth c H locs ca sl Q (F0 m pc ls rest) := by
  have hts := lw_ctG C0
  obtain ⟨hx, hb2, hr, hml, hown, -⟩ := id C0
  obtain ⟨w1, w2, w3⟩ := hl
  have hz := w.2.2.2 hfr
  have hKn := hK.1.1 cI _ (ct_at h1)
  refine W.newcK hx hb2 hown (hts _ w1) (hts _ w2) (hts _ w3) rfl hd hc hs hKn.2.1 hz fun H1 kC hkC e1 z1 o1 => ?_
  have hat : va_at (bD B) ctL (bLo B + n, ctE B (ctZ M n) n) H1 := by
    rw [ctE_obj hk h1]
    refine ⟨_, ct_at h1, (u_born (ctY cI) hts (ct_in h1) hKn hkC e1 (ct_ty h1)).to (fun j hj => ?_)⟩
    rw [ct_dv h1 hj]
    simp only [vp_V, List.getD_eq_getElem?_getD, ctF_at hj]
    simp [ctZ, va_up, va_rf]
  have hS1 := S.1
  exact K H1 (ctH_push w hb hn z1 o1 hat) (by omega) (fun q hq => o1 q (by omega)) ⟨by omega, fun x g1 g2 => (o1 x (by omega)).trans (S.2.1 x g1 g2), S.2.2⟩
theorem lw_init {B : ctB} {pc idx lv mc ms n n' : Nat} {μ' : Mi} {M r : ctM} {rest : List Value} (C0 : lw_At p s m meth c b L xs) (hK : ctK B s) (hlo : s.heap.size ≤ bLo B) (hd : decode code pc = .ok (.invokespecial idx, 3)) (hl : Cond.methodLink R_law idx μ'.1 ∈ ctG ∧ Cond.instanceMethod μ'.1 ∈ ctG) (hl2 : ctLk μ' 0) (hy : μ'.1.name = "<init>" ∧ μ'.2.2.2 = none) (hR : lv ≤ 2000) (hC : ctC B μ' (lv, mc, ms) [.ref 0] n M (poN r n')) (hrest : (rest.map fun v => v.category).sum ≤ 8) (hca : ca + mc ≤ 600000) (hsl : sl + ms ≤ 7302250) (hls : ls.size = 4) (w : ctH B n M H) (S : va_S (fun q : Nat => s.heap.size ≤ q) s.heap H locs)
    (kk : ∀ (H1 : Heap) (locs1 : List Loc), ctH B n' r H1 → H.size ≤ H1.size → (∀ q : Nat, q < H.size → ¬ ctA B q → H1[q]? = H[q]?) → va_S (fun q : Nat => s.heap.size ≤ q) s.heap H1 locs1 → W p (bL B) e room_1 s m #[Value.ref b] below meth c H1 locs1 (ca + mc) (sl + ms) Q (F0 m (pc + 3) ls rest)) : W p (bL B) e room_1 s m #[Value.ref b] below meth c H locs ca sl Q (F0 m pc ls (.ref (bLo B) :: rest)) := by
  have hts := lw_ctG C0
  obtain ⟨hx, hb, hr, hml, hown, -⟩ := id C0
  obtain ⟨w1, w2, w3, w4⟩ := hl2
  obtain ⟨y1, y2⟩ := hy
  have hA : ∀ q : Nat, ctA B q → s.heap.size ≤ q := fun q hq => Nat.le_trans hlo hq.1
  have S2 : va_S (ctA B) s.heap H [] := ⟨S.1, fun q h1 h2 => S.2.1 q h1 (by omega), fun q hq => by cases hq⟩
  have hpre : PreS s H (va_Pc ([Value.ref 0].map (ctv B)) (fun U => ctH B n M U.heap ∧ ctK B U)) [.ref (bLo B)] := ⟨ct_blind, fun U hU hW => ⟨by simp [ctv, bAd], by rw [hU]; exact w, ctK_moved hK S2 hU hW⟩⟩
  have hG := ct_goodIn w2
  unfold ctC at hC
  rw [y2] at hC hG
  have hrun := va_runI (p := p) (l := bL B) (e := e) (R := room_1) (below := below) (meth := meth) (locs := locs) (cells := ca) (slots := sl) (g := F0 m pc ls (.ref (bLo B) :: rest)) (b := bLo B) (As := []) (rest := rest) (Ts := ctG) (ws := Cond.code μ'.1 μ'.2.1 μ'.2.2.1 none :: ctG) (nL := 4) (cc := code) ⟨hx, hb, hml, hown, hts⟩ hC ⟨callB_of (ws' := ctG) 0 hts hG rfl rfl rfl (hts _ w1) (hts _ hl.1) w3 ⟨by show lv + 1 ≤ 2048; omega, by show 8 + (μ'.2.2.1 + 11) + 40 * lv ≤ 84000; omega⟩, y1, hts _ hl.2⟩ hpre rfl rfl hls rfl (lv_room hrest) hd ⟨hca, hsl⟩
  intro T hT X
  obtain ⟨v, st₀, t, T', Lc, g0, X', hL, e1, e2, ⟨⟨v0, n2, M', hv, hp, hH⟩, hz, hk2⟩, sts⟩ := hrun T hT X
  obtain ⟨rfl, rfl, rfl⟩ := hp
  cases hv
  rw [g0] at hz hk2
  obtain ⟨t2, a1, b1⟩ := kk T'.heap (locs ++ Lc) (by rw [e1]; exact hH) (by rw [e1]; exact hz) (fun q h1 h2 => by rw [e1]; exact hk2 q h1 h2)
    ⟨Nat.le_trans S.1 (by rw [e1]; exact hz), fun q h1 h2 => by rw [e1, hk2 q (Nat.lt_of_lt_of_le h1 S.1) (fun z => h2 (hA q z))]; exact S.2.1 q h1 h2, fun q hq => by
      rcases List.mem_append.mp hq with h | h
      · exact S.2.2 q h
      · exact hA _ (hL q h)⟩ T' rfl X'
  exact ⟨t2, sts t2 a1, b1⟩
end

set_option maxHeartbeats 8000000 in
set_option maxRecDepth 20000 in
theorem law_loop {Sim : ctM → ctM → Prop} (hops : ctOps Sim) {p : Program} {l : Launch} {e : Env} {s : State} {m : MethodId} {below : List Frame} {meth : Method} {c : Code} {b L : Nat} {xs : Nat → Int32} {D : va_G} {cy : Nat → ClassId} {aK aV : Nat → Nat} (hL : L ≤ 384) (C0 : lw_At p s m meth c b L xs) (K1 : ctK (lB1 l D cy s.heap.size aK aV false) s) (K2 : ctK (lB2 l D cy s.heap.size aK aV false) s) :
    ∀ (N i : Nat), i ≤ L → L + 1 ≤ i + N → ∀ (Mc Mm : ctM) (H : Heap) (locs : List Loc) (ls : Array Slot), Sim Mc Mm → lv_has ls 4 [(0, .ref b), (1, .ref s.heap.size), (2, .ref (s.heap.size + 149)), (3, .int (nI i))] → ctH (lB1 l D cy s.heap.size aK aV false) 149 Mc H → ctH (lB2 l D cy s.heap.size aK aV false) 21 Mm H → va_S (fun q : Nat => s.heap.size ≤ q) s.heap H locs → W p l e room_1 s m #[Value.ref b] below meth c H locs 600000 7302250 (lw_Z below #[Value.ref b] s) (F0 m 18 ls []) := by
  obtain ⟨hx, hb, hr, hml, hown, hts, hX, hbl, hlocks, hgv⟩ := id C0
  have hbA : ¬ (fun q : Nat => s.heap.size ≤ q) b := Nat.not_le.mpr hbl
  intro N
  induction N with
  | zero =>
    intro i h1 h2
    exact absurd h2 (by omega)
  | succ N ih =>
    intro i hi hN Mc Mm H locs ls hs hl w1 w2 S
    refine lv_iload_n hx hb dL_law_18 rfl (lv_at hl 3 rfl) ?_
    refine lv_aload_n hx hb dL_law_19 rfl (lv_at hl 0 rfl) ?_
    refine va_slen hx hb hX hbl hbA S dL_law_20 ?_
    refine lv_bipush (v := nI 6) hx hb dL_law_21 (by decide) ?_
    refine lv_isub hx hb dL_law_23 ?_
    have e6 : (nI L - nI 6).toInt = (L : Int) - (6 : Nat) := pk_sub_toInt (by omega) (by decide)
    refine lv_icmp_gt (tgt := 1367) hx hb dL_law_24 (by decide) (fun z => ?_) (fun z => ?_)
    · refine lv_iconst (v := 1) hx hb dL_law_1367 (by decide) ?_
      refine va_forget (fun q hq => S.2.2 q hq) ?_
      exact lw_ret hx hb hr hlocks dL_law_1368
    · have hi6 : i + 6 ≤ L := by
        rcases Nat.lt_or_ge L (i + 6) with q | q
        · refine absurd ?_ z
          show nI L - nI 6 < nI i
          rw [Int32.lt_iff_toInt_lt, e6, nI_toInt (by omega)]
          omega
        · exact q
      have next : ∀ (Mc2 Mm2 : ctM) (H1 : Heap) (locs1 : List Loc), Sim Mc2 Mm2 → ctH (lB1 l D cy s.heap.size aK aV false) 149 Mc2 H1 → ctH (lB2 l D cy s.heap.size aK aV false) 21 Mm2 H1 → va_S (fun q : Nat => s.heap.size ≤ q) s.heap H1 locs1 → W p l e room_1 s m #[Value.ref b] below meth c H1 locs1 600000 7302250 (lw_Z below #[Value.ref b] s) (F0 m 1361 ls []) := by
        intro Mc2 Mm2 H1 locs1 hs2 v1 v2 S2
        refine lv_iinc (v := nI (i + 6)) (lv' := [(3, .int (nI (i + 6))), (0, .ref b), (1, .ref s.heap.size), (2, .ref (s.heap.size + 149))]) hx hb dL_law_1361 hl (k := 3) rfl (by rw [← nI_add]; rfl) (by decide) rfl (fun ls2 hl2 => ?_)
        refine lv_goto (tgt := 18) hx hb dL_law_1364 (by decide) ?_
        exact ih (i + 6) hi6 (by omega) Mc2 Mm2 H1 locs1 ls2 hs2 (lv_sub hl2 [1, 2, 3, 0] rfl) v1 v2 S2
      refine lv_aload_n hx hb dL_law_27 rfl (lv_at hl 0 rfl) ?_
      refine lv_iload_n hx hb dL_law_28 rfl (lv_at hl 3 rfl) ?_
      refine va_sld hx hb hX hbl hbA S (vp_in_nI (show i < L by omega) (by omega)) dL_law_29 ?_
      refine lv_bipush (v := 63) hx hb dL_law_30 (by decide) ?_
      refine lv_iand hx hb dL_law_32 ?_
      refine lv_topi (fun x ex => ?_)
      obtain ⟨o0, o1, o2, o3, o4, o5, o6, o7, o8, o9, o10, o11, o12, o13, o14, o15, o16, o17, o18, o19, o20, o21, o22, o23, o24, o25, o26, o27, o28, o29, o30, o31, o32, o33, o34, o35, o36, o37, o38⟩ := hops
      by_cases z0 : x = 0
      · refine lv_tableIn (off := 171) (tgt := 204) hx hb dL_law_33 (by rw [z0]; decide) (by rw [z0]; decide) (by rw [z0]; rfl) (by decide) ?_
        exact law_case_0 hL C0 K1 K2 o0 hs hi6 hl w1 w2 S next
      by_cases z1 : x = 1
      · refine lv_tableIn (off := 214) (tgt := 247) hx hb dL_law_33 (by rw [z1]; decide) (by rw [z1]; decide) (by rw [z1]; rfl) (by decide) ?_
        exact law_case_1 hL C0 K1 K2 o1 hs hi6 hl w1 w2 S next
      by_cases z2 : x = 2
      · refine lv_tableIn (off := 247) (tgt := 280) hx hb dL_law_33 (by rw [z2]; decide) (by rw [z2]; decide) (by rw [z2]; rfl) (by decide) ?_
        exact law_case_2 hL C0 K1 K2 o2 hs hi6 hl w1 w2 S next
      by_cases z3 : x = 3
      · refine lv_tableIn (off := 280) (tgt := 313) hx hb dL_law_33 (by rw [z3]; decide) (by rw [z3]; decide) (by rw [z3]; rfl) (by decide) ?_
        exact law_case_3 hL C0 K1 K2 o3 hs hi6 hl w1 w2 S next
      by_cases z4 : x = 4
      · refine lv_tableIn (off := 313) (tgt := 346) hx hb dL_law_33 (by rw [z4]; decide) (by rw [z4]; decide) (by rw [z4]; rfl) (by decide) ?_
        exact law_case_4 hL C0 K1 K2 o4 hs hi6 hl w1 w2 S next
      by_cases z5 : x = 5
      · refine lv_tableIn (off := 356) (tgt := 389) hx hb dL_law_33 (by rw [z5]; decide) (by rw [z5]; decide) (by rw [z5]; rfl) (by decide) ?_
        exact law_case_5 hL C0 K1 K2 o5 hs hi6 hl w1 w2 S next
      by_cases z6 : x = 6
      · refine lv_tableIn (off := 389) (tgt := 422) hx hb dL_law_33 (by rw [z6]; decide) (by rw [z6]; decide) (by rw [z6]; rfl) (by decide) ?_
        exact law_case_6 hL C0 K1 K2 o6 hs hi6 hl w1 w2 S next
      by_cases z7 : x = 7
      · refine lv_tableIn (off := 432) (tgt := 465) hx hb dL_law_33 (by rw [z7]; decide) (by rw [z7]; decide) (by rw [z7]; rfl) (by decide) ?_
        exact law_case_7 hL C0 K1 K2 o7 hs hi6 hl w1 w2 S next
      by_cases z8 : x = 8
      · refine lv_tableIn (off := 465) (tgt := 498) hx hb dL_law_33 (by rw [z8]; decide) (by rw [z8]; decide) (by rw [z8]; rfl) (by decide) ?_
        exact law_case_8 hL C0 K1 K2 o8 hs hi6 hl w1 w2 S next
      by_cases z9 : x = 9
      · refine lv_tableIn (off := 498) (tgt := 531) hx hb dL_law_33 (by rw [z9]; decide) (by rw [z9]; decide) (by rw [z9]; rfl) (by decide) ?_
        exact law_case_9 hL C0 K1 K2 o9 hs hi6 hl w1 w2 S next
      by_cases z10 : x = 10
      · refine lv_tableIn (off := 521) (tgt := 554) hx hb dL_law_33 (by rw [z10]; decide) (by rw [z10]; decide) (by rw [z10]; rfl) (by decide) ?_
        exact law_case_10 hL C0 K1 K2 o10 hs hi6 hl w1 w2 S next
      by_cases z11 : x = 11
      · refine lv_tableIn (off := 544) (tgt := 577) hx hb dL_law_33 (by rw [z11]; decide) (by rw [z11]; decide) (by rw [z11]; rfl) (by decide) ?_
        exact law_case_11 hL C0 K1 K2 o11 hs hi6 hl w1 w2 S next
      by_cases z12 : x = 12
      · refine lv_tableIn (off := 567) (tgt := 600) hx hb dL_law_33 (by rw [z12]; decide) (by rw [z12]; decide) (by rw [z12]; rfl) (by decide) ?_
        exact law_case_12 hL C0 K1 K2 o12 hs hi6 hl w1 w2 S next
      by_cases z13 : x = 13
      · refine lv_tableIn (off := 580) (tgt := 613) hx hb dL_law_33 (by rw [z13]; decide) (by rw [z13]; decide) (by rw [z13]; rfl) (by decide) ?_
        exact law_case_13 hL C0 K1 K2 o13 hs hi6 hl w1 w2 S next
      by_cases z14 : x = 14
      · refine lv_tableIn (off := 603) (tgt := 636) hx hb dL_law_33 (by rw [z14]; decide) (by rw [z14]; decide) (by rw [z14]; rfl) (by decide) ?_
        exact law_case_14 hL C0 K1 K2 o14 hs hi6 hl w1 w2 S next
      by_cases z15 : x = 15
      · refine lv_tableIn (off := 626) (tgt := 659) hx hb dL_law_33 (by rw [z15]; decide) (by rw [z15]; decide) (by rw [z15]; rfl) (by decide) ?_
        exact law_case_15 hL C0 K1 K2 o15 hs hi6 hl w1 w2 S next
      by_cases z16 : x = 16
      · refine lv_tableIn (off := 639) (tgt := 672) hx hb dL_law_33 (by rw [z16]; decide) (by rw [z16]; decide) (by rw [z16]; rfl) (by decide) ?_
        exact law_case_16 hL C0 K1 K2 o16 hs hi6 hl w1 w2 S next
      by_cases z17 : x = 17
      · refine lv_tableIn (off := 672) (tgt := 705) hx hb dL_law_33 (by rw [z17]; decide) (by rw [z17]; decide) (by rw [z17]; rfl) (by decide) ?_
        exact law_case_17 hL C0 K1 K2 o17 hs hi6 hl w1 w2 S next
      by_cases z18 : x = 18
      · refine lv_tableIn (off := 695) (tgt := 728) hx hb dL_law_33 (by rw [z18]; decide) (by rw [z18]; decide) (by rw [z18]; rfl) (by decide) ?_
        exact law_case_18 hL C0 K1 K2 o18 hs hi6 hl w1 w2 S next
      by_cases z19 : x = 19
      · refine lv_tableIn (off := 728) (tgt := 761) hx hb dL_law_33 (by rw [z19]; decide) (by rw [z19]; decide) (by rw [z19]; rfl) (by decide) ?_
        exact law_case_19 hL C0 K1 K2 o19 hs hi6 hl w1 w2 S next
      by_cases z20 : x = 20
      · refine lv_tableIn (off := 761) (tgt := 794) hx hb dL_law_33 (by rw [z20]; decide) (by rw [z20]; decide) (by rw [z20]; rfl) (by decide) ?_
        exact law_case_20 hL C0 K1 K2 o20 hs hi6 hl w1 w2 S next
      by_cases z21 : x = 21
      · refine lv_tableIn (off := 804) (tgt := 837) hx hb dL_law_33 (by rw [z21]; decide) (by rw [z21]; decide) (by rw [z21]; rfl) (by decide) ?_
        exact law_case_21 hL C0 K1 K2 o21 hs hi6 hl w1 w2 S next
      by_cases z22 : x = 22
      · refine lv_tableIn (off := 827) (tgt := 860) hx hb dL_law_33 (by rw [z22]; decide) (by rw [z22]; decide) (by rw [z22]; rfl) (by decide) ?_
        exact law_case_22 hL C0 K1 K2 o22 hs hi6 hl w1 w2 S next
      by_cases z23 : x = 23
      · refine lv_tableIn (off := 840) (tgt := 873) hx hb dL_law_33 (by rw [z23]; decide) (by rw [z23]; decide) (by rw [z23]; rfl) (by decide) ?_
        exact law_case_23 hL C0 K1 K2 o23 hs hi6 hl w1 w2 S next
      by_cases z24 : x = 24
      · refine lv_tableIn (off := 873) (tgt := 906) hx hb dL_law_33 (by rw [z24]; decide) (by rw [z24]; decide) (by rw [z24]; rfl) (by decide) ?_
        exact law_case_24 hL C0 K1 K2 o24 hs hi6 hl w1 w2 S next
      by_cases z25 : x = 25
      · refine lv_tableIn (off := 896) (tgt := 929) hx hb dL_law_33 (by rw [z25]; decide) (by rw [z25]; decide) (by rw [z25]; rfl) (by decide) ?_
        exact law_case_25 hL C0 K1 K2 o25 hs hi6 hl w1 w2 S next
      by_cases z26 : x = 26
      · refine lv_tableIn (off := 939) (tgt := 972) hx hb dL_law_33 (by rw [z26]; decide) (by rw [z26]; decide) (by rw [z26]; rfl) (by decide) ?_
        exact law_case_26 hL C0 K1 K2 o26 hs hi6 hl w1 w2 S next
      by_cases z27 : x = 27
      · refine lv_tableIn (off := 982) (tgt := 1015) hx hb dL_law_33 (by rw [z27]; decide) (by rw [z27]; decide) (by rw [z27]; rfl) (by decide) ?_
        exact law_case_27 hL C0 K1 K2 o27 hs hi6 hl w1 w2 S next
      by_cases z28 : x = 28
      · refine lv_tableIn (off := 1005) (tgt := 1038) hx hb dL_law_33 (by rw [z28]; decide) (by rw [z28]; decide) (by rw [z28]; rfl) (by decide) ?_
        exact law_case_28 hL C0 K1 K2 o28 hs hi6 hl w1 w2 S next
      by_cases z29 : x = 29
      · refine lv_tableIn (off := 1028) (tgt := 1061) hx hb dL_law_33 (by rw [z29]; decide) (by rw [z29]; decide) (by rw [z29]; rfl) (by decide) ?_
        exact law_case_29 hL C0 K1 K2 o29 hs hi6 hl w1 w2 S next
      by_cases z30 : x = 30
      · refine lv_tableIn (off := 1091) (tgt := 1124) hx hb dL_law_33 (by rw [z30]; decide) (by rw [z30]; decide) (by rw [z30]; rfl) (by decide) ?_
        exact law_case_30 hL C0 K1 K2 o30 hs hi6 hl w1 w2 S next
      by_cases z31 : x = 31
      · refine lv_tableIn (off := 1134) (tgt := 1167) hx hb dL_law_33 (by rw [z31]; decide) (by rw [z31]; decide) (by rw [z31]; rfl) (by decide) ?_
        exact law_case_31 hL C0 K1 K2 o31 hs hi6 hl w1 w2 S next
      by_cases z32 : x = 32
      · refine lv_tableIn (off := 1167) (tgt := 1200) hx hb dL_law_33 (by rw [z32]; decide) (by rw [z32]; decide) (by rw [z32]; rfl) (by decide) ?_
        exact law_case_32 hL C0 K1 K2 o32 hs hi6 hl w1 w2 S next
      by_cases z33 : x = 33
      · refine lv_tableIn (off := 1200) (tgt := 1233) hx hb dL_law_33 (by rw [z33]; decide) (by rw [z33]; decide) (by rw [z33]; rfl) (by decide) ?_
        exact law_case_33 hL C0 K1 K2 o33 hs hi6 hl w1 w2 S next
      by_cases z34 : x = 34
      · refine lv_tableIn (off := 1233) (tgt := 1266) hx hb dL_law_33 (by rw [z34]; decide) (by rw [z34]; decide) (by rw [z34]; rfl) (by decide) ?_
        exact law_case_34 hL C0 K1 K2 o34 hs hi6 hl w1 w2 S next
      by_cases z35 : x = 35
      · refine lv_tableIn (off := 1256) (tgt := 1289) hx hb dL_law_33 (by rw [z35]; decide) (by rw [z35]; decide) (by rw [z35]; rfl) (by decide) ?_
        exact law_case_35 hL C0 K1 K2 o35 hs hi6 hl w1 w2 S next
      by_cases z36 : x = 36
      · refine lv_tableIn (off := 1279) (tgt := 1312) hx hb dL_law_33 (by rw [z36]; decide) (by rw [z36]; decide) (by rw [z36]; rfl) (by decide) ?_
        exact law_case_36 hL C0 K1 K2 o36 hs hi6 hl w1 w2 S next
      by_cases z37 : x = 37
      · refine lv_tableIn (off := 1292) (tgt := 1325) hx hb dL_law_33 (by rw [z37]; decide) (by rw [z37]; decide) (by rw [z37]; rfl) (by decide) ?_
        exact law_case_37 hL C0 K1 K2 o37 hs hi6 hl w1 w2 S next
      by_cases z38 : x = 38
      · refine lv_tableIn (off := 1305) (tgt := 1338) hx hb dL_law_33 (by rw [z38]; decide) (by rw [z38]; decide) (by rw [z38]; rfl) (by decide) ?_
        exact law_case_38 hL C0 K1 K2 o38 hs hi6 hl w1 w2 S next
      have hout : x.toInt < 0 ∨ 38 < x.toInt := by
        have y0 := lv_neT z0 (show Int32.toInt (0) = 0 by decide)
        have y1 := lv_neT z1 (show Int32.toInt (1) = 1 by decide)
        have y2 := lv_neT z2 (show Int32.toInt (2) = 2 by decide)
        have y3 := lv_neT z3 (show Int32.toInt (3) = 3 by decide)
        have y4 := lv_neT z4 (show Int32.toInt (4) = 4 by decide)
        have y5 := lv_neT z5 (show Int32.toInt (5) = 5 by decide)
        have y6 := lv_neT z6 (show Int32.toInt (6) = 6 by decide)
        have y7 := lv_neT z7 (show Int32.toInt (7) = 7 by decide)
        have y8 := lv_neT z8 (show Int32.toInt (8) = 8 by decide)
        have y9 := lv_neT z9 (show Int32.toInt (9) = 9 by decide)
        have y10 := lv_neT z10 (show Int32.toInt (10) = 10 by decide)
        have y11 := lv_neT z11 (show Int32.toInt (11) = 11 by decide)
        have y12 := lv_neT z12 (show Int32.toInt (12) = 12 by decide)
        have y13 := lv_neT z13 (show Int32.toInt (13) = 13 by decide)
        have y14 := lv_neT z14 (show Int32.toInt (14) = 14 by decide)
        have y15 := lv_neT z15 (show Int32.toInt (15) = 15 by decide)
        have y16 := lv_neT z16 (show Int32.toInt (16) = 16 by decide)
        have y17 := lv_neT z17 (show Int32.toInt (17) = 17 by decide)
        have y18 := lv_neT z18 (show Int32.toInt (18) = 18 by decide)
        have y19 := lv_neT z19 (show Int32.toInt (19) = 19 by decide)
        have y20 := lv_neT z20 (show Int32.toInt (20) = 20 by decide)
        have y21 := lv_neT z21 (show Int32.toInt (21) = 21 by decide)
        have y22 := lv_neT z22 (show Int32.toInt (22) = 22 by decide)
        have y23 := lv_neT z23 (show Int32.toInt (23) = 23 by decide)
        have y24 := lv_neT z24 (show Int32.toInt (24) = 24 by decide)
        have y25 := lv_neT z25 (show Int32.toInt (25) = 25 by decide)
        have y26 := lv_neT z26 (show Int32.toInt (26) = 26 by decide)
        have y27 := lv_neT z27 (show Int32.toInt (27) = 27 by decide)
        have y28 := lv_neT z28 (show Int32.toInt (28) = 28 by decide)
        have y29 := lv_neT z29 (show Int32.toInt (29) = 29 by decide)
        have y30 := lv_neT z30 (show Int32.toInt (30) = 30 by decide)
        have y31 := lv_neT z31 (show Int32.toInt (31) = 31 by decide)
        have y32 := lv_neT z32 (show Int32.toInt (32) = 32 by decide)
        have y33 := lv_neT z33 (show Int32.toInt (33) = 33 by decide)
        have y34 := lv_neT z34 (show Int32.toInt (34) = 34 by decide)
        have y35 := lv_neT z35 (show Int32.toInt (35) = 35 by decide)
        have y36 := lv_neT z36 (show Int32.toInt (36) = 36 by decide)
        have y37 := lv_neT z37 (show Int32.toInt (37) = 37 by decide)
        have y38 := lv_neT z38 (show Int32.toInt (38) = 38 by decide)
        omega
      refine lv_tableOut (tgt := 1361) hx hb dL_law_33 hout (by decide) ?_
      exact next Mc Mm H locs hs w1 w2 S
theorem ctH_fr {l : Launch} {D : va_G} {cy : Nat → ClassId} {lo n : Nat} {aK aV : Nat → Nat} {M : ctM} {H : Heap} (w : ctH (lB1 l D cy lo aK aV true) n M H) : ctH (lB1 l D cy lo aK aV false) n M H := ⟨w.1, w.2.1, w.2.2.1, fun h => by cases h⟩
theorem ctH_fr2 {l : Launch} {D : va_G} {cy : Nat → ClassId} {lo n : Nat} {aK aV : Nat → Nat} {M : ctM} {H : Heap} (w : ctH (lB2 l D cy lo aK aV true) n M H) : ctH (lB2 l D cy lo aK aV false) n M H := ⟨w.1, w.2.1, w.2.2.1, fun h => by cases h⟩
theorem ctH_keep {B : ctB} {n : Nat} {M : ctM} {H H1 : Heap} (w : ctH B n M H) (hf : bF B = false) (hk : ∀ q : Nat, q < H.size → bLo B ≤ q → q < bLo B + n → H1[q]? = H[q]?) : ctH B n M H1 := by
  refine ⟨w.1.kept (fun k x hx => ?_), w.2.1, w.2.2.1, fun h => by rw [hf] at h; cases h⟩
  have hlt := (w.1 k x hx).lt
  have hl2 : k < n := by
    have := (List.getElem?_eq_some_iff.mp hx).1
    simpa [ctW] using this
  rw [ctW_at hl2] at hx
  cases hx
  exact hk _ hlt (Nat.le_add_right _ _) (by show bLo B + k < bLo B + n; omega)
/-- what the tables and the start give -/
theorem lw_know {p : Program} {s : State} {m : MethodId} {meth : Method} {c : Code} {b L : Nat} {xs : Nat → Int32} (C0 : lw_At p s m meth c b L xs) : ∃ (D : va_G) (cy : Nat → ClassId) (aK aV : Nat → Nat), ∀ B : ctB, bD B = D → bC B = cy → bK B = aK → bV B = aV → s.heap.size ≤ bLo B → ctK B s := by
  obtain ⟨hx, hb, hr, hml, hown, hts, hX, hbl, hlocks, hgv⟩ := id C0
  have hG := lw_ctG C0
  obtain ⟨c0, i0, k0⟩ := u_known (C := RX0) (T := TX0) (N := ctN 0) (n := ctN 0) hG ct_in0 (hG _ ni_0.1)
  obtain ⟨c1, i1, k1⟩ := u_known (C := RX1) (T := TX1) (N := ctN 1) (n := ctN 1) hG ct_in1 (hG _ ni_1.1)
  obtain ⟨c2, i2, k2⟩ := u_known (C := RX2) (T := TX2) (N := ctN 2) (n := ctN 2) hG ct_in2 (hG _ ni_2.1)
  obtain ⟨c3, i3, k3⟩ := u_known (C := RX3) (T := TX3) (N := ctN 3) (n := ctN 3) hG ct_in3 (hG _ ni_3.1)
  obtain ⟨c4, i4, k4⟩ := u_known (C := RX4) (T := TX4) (N := ctN 4) (n := ctN 4) hG ct_in4 (hG _ ni_4.1)
  obtain ⟨c5, i5, k5⟩ := u_known (C := RX5) (T := TX5) (N := ctN 5) (n := ctN 5) hG ct_in5 (hG _ ni_5.1)
  obtain ⟨c6, i6, k6⟩ := u_known (C := RX6) (T := TX6) (N := ctN 6) (n := ctN 6) hG ct_in6 (hG _ ni_6.1)
  obtain ⟨c7, i7, k7⟩ := u_known (C := RX7) (T := TX7) (N := ctN 7) (n := ctN 7) hG ct_in7 (hG _ ni_7.1)
  obtain ⟨b8, kb8, p8, q81, q82, q83⟩ := Cond.arrayClass_spec (hG _ ac_byte)
  obtain ⟨b9, kb9, p9, q91, q92, q93⟩ := Cond.arrayClass_spec (hG _ ac_int)
  obtain ⟨b10, kb10, p10, q101, q102, q103⟩ := Cond.arrayClass_spec (hG _ ac_boolean)
  have ho11 := hts (Cond.arrayOver (.object RX0)) (List.mem_of_getElem? (i := 145) (by decide +kernel))
  obtain ⟨p11, b11, kb11, q111, q112, q113, q114, q115⟩ := Cond.arrayOver_spec ho11
  have ho12 := hts (Cond.arrayOver (.object RX1)) (List.mem_of_getElem? (i := 136) (by decide +kernel))
  obtain ⟨p12, b12, kb12, q121, q122, q123, q124, q125⟩ := Cond.arrayOver_spec ho12
  have ho13 := hts (Cond.arrayOver (.object RX3)) (List.mem_of_getElem? (i := 69) (by decide +kernel))
  obtain ⟨p13, b13, kb13, q131, q132, q133, q134, q135⟩ := Cond.arrayOver_spec ho13
  have ho14 := hts (Cond.arrayOver (.object RX4)) (List.mem_of_getElem? (i := 71) (by decide +kernel))
  obtain ⟨p14, b14, kb14, q141, q142, q143, q144, q145⟩ := Cond.arrayOver_spec ho14
  have hs := flat_of_before _ hgv
  obtain ⟨aK, aV, hvk, hev⟩ := vk_Sof (args := #[Value.ref b]) (s := s) (N := 2) (tm := fun i => Term.string RX5 (if i = 0 then 64 else 94)) (len := ctSL) (byt := ctSB) (A := fun q : Nat => s.heap.size ≤ q)
    (fun i hi => by rcases (show i = 0 ∨ i = 1 by omega) with rfl | rfl <;> decide)
    (fun i hi => by rcases (show i = 0 ∨ i = 1 by omega) with rfl | rfl <;> exact hs _ (by decide +kernel))
    (fun i hi => by rcases (show i = 0 ∨ i = 1 by omega) with rfl | rfl <;> exact hs _ (by decide +kernel))
    (fun i hi => by rcases (show i = 0 ∨ i = 1 by omega) with rfl | rfl <;> exact hs _ (by decide +kernel))
    (fun i hi => by rcases (show i = 0 ∨ i = 1 by omega) with rfl | rfl <;> exact hs _ (by decide +kernel))
    (fun i hi j hj => by
      rcases (show i = 0 ∨ i = 1 by omega) with rfl | rfl
      · have hj : j < 12 := hj
        rcases (show j = 0 ∨ j = 1 ∨ j = 2 ∨ j = 3 ∨ j = 4 ∨ j = 5 ∨ j = 6 ∨ j = 7 ∨ j = 8 ∨ j = 9 ∨ j = 10 ∨ j = 11 by omega) with rfl | rfl | rfl | rfl | rfl | rfl | rfl | rfl | rfl | rfl | rfl | rfl <;> exact hs _ (by decide +kernel)
      · have hj : j < 9 := hj
        rcases (show j = 0 ∨ j = 1 ∨ j = 2 ∨ j = 3 ∨ j = 4 ∨ j = 5 ∨ j = 6 ∨ j = 7 ∨ j = 8 by omega) with rfl | rfl | rfl | rfl | rfl | rfl | rfl | rfl | rfl <;> exact hs _ (by decide +kernel))
    (fun i j hi hj hij => by
      rcases (show (i = 0 ∧ j = 1) ∨ (i = 1 ∧ j = 0) by omega) with ⟨rfl, rfl⟩ | ⟨rfl, rfl⟩
      · exact Or.inl (hs _ (by decide +kernel))
      · exact Or.inr (hs _ (by decide +kernel)))
    (fun a ha => Nat.not_le.mpr ha)
  have hr0 : vk_R RX5 64 "pacejoinwind" (aK 0) s := vk_R.of (A := #[Value.ref b]) (hts (Cond.stringRef RX5 64 "pacejoinwind") (List.mem_of_getElem? (i := 615) (by decide +kernel))) (hev 0 (by decide))
  have hr1 : vk_R RX5 94 "sn.dpstn." (aK 1) s := vk_R.of (A := #[Value.ref b]) (hts (Cond.stringRef RX5 94 "sn.dpstn.") (List.mem_of_getElem? (i := 688) (by decide +kernel))) (hev 1 (by decide))
  have hz : va_Z RJ0 "COMPACT_STRINGS" "Z" (.int 1) (fun q : Nat => s.heap.size ≤ q) s s.heap := va_Zof (hts (Cond.laysStatic RJ0 "COMPACT_STRINGS" "Z") (List.mem_of_getElem? (i := 625) (by decide +kernel))) (hts (Cond.initialized RJ0) (List.mem_of_getElem? (i := 55) (by decide +kernel))) (va_eqt (hs _ (by decide +kernel))) (fun a ha => Nat.not_le.mpr ha)
  have hq : va_Zq RJ3 "SIOOBE_FORMATTER" "Ljava/util/function/BiFunction;" (fun q : Nat => s.heap.size ≤ q) s s.heap := va_Zqof (hts (Cond.laysStatic RJ3 "SIOOBE_FORMATTER" "Ljava/util/function/BiFunction;") (List.mem_of_getElem? (i := 633) (by decide +kernel))) (hts (Cond.initialized RJ3) (List.mem_of_getElem? (i := 57) (by decide +kernel))) (hs _ (by decide +kernel)) (fun a ha => Nat.not_le.mpr ha)
  refine ⟨(fun k => if k = 0 then c0 else if k = 1 then c1 else if k = 2 then c2 else if k = 3 then c3 else if k = 4 then c4 else if k = 5 then c5 else if k = 6 then c6 else c7, fun k => if k = 0 then i0 else if k = 1 then i1 else if k = 2 then i2 else if k = 3 then i3 else if k = 4 then i4 else if k = 5 then i5 else if k = 6 then i6 else i7), fun t => if t = 8 then b8 else if t = 9 then b9 else if t = 10 then b10 else if t = 11 then b11 else if t = 12 then b12 else if t = 13 then b13 else b14, aK, aV, ?_⟩
  intro B h1 h2 h3 h4 hlo
  have hAB : ∀ q : Nat, ctA B q → s.heap.size ≤ q := fun q hq => Nat.le_trans hlo hq.1
  refine ⟨⟨?_, ?_⟩, ?_, ⟨?_, ?_, ?_, ?_, ?_⟩, va_AO.of ho11, va_AO.of ho12, va_AO.of ho13, va_AO.of ho14⟩
  · intro k q hq
    rw [h1]
    match k, hq with
    | 0, hq => cases hq; exact k0
    | 1, hq => cases hq; exact k1
    | 2, hq => cases hq; exact k2
    | 3, hq => cases hq; exact k3
    | 4, hq => cases hq; exact k4
    | 5, hq => cases hq; exact k5
    | 6, hq => cases hq; exact k6
    | 7, hq => cases hq; exact k7
    | k + 8, hq => simp [ctL] at hq
  · intro k q hq
    unfold ctTy at hq
    rw [h2] at hq
    match k, hq with
    | 0, hq => cases hq; exact ⟨fun N z => ⟨fun k h => (by cases h), kb8, q82, p8, q83⟩, q81⟩
    | 1, hq => cases hq; exact ⟨fun N z => ⟨fun k h => (by cases h), kb9, q92, p9, q93⟩, q91⟩
    | 2, hq => cases hq; exact ⟨fun N z => ⟨fun k h => (by cases h), kb10, q102, p10, q103⟩, q101⟩
    | 3, hq => cases hq; exact ⟨fun N z => ⟨fun k h => (by cases h), kb11, q113, p11, q114⟩, kb11, p11, q113, q114, q111, q115⟩
    | 4, hq => cases hq; exact ⟨fun N z => ⟨fun k h => (by cases h), kb12, q123, p12, q124⟩, kb12, p12, q123, q124, q121, q125⟩
    | 5, hq => cases hq; exact ⟨fun N z => ⟨fun k h => (by cases h), kb13, q133, p13, q134⟩, kb13, p13, q133, q134, q131, q135⟩
    | 6, hq => cases hq; exact ⟨fun N z => ⟨fun k h => (by cases h), kb14, q143, p14, q144⟩, kb14, p14, q143, q144, q141, q145⟩
    | k + 7, hq => simp at hq
  · intro w hw
    have hn := List.mem_filter.mp hw
    have h5 := hts w hn.1
    have h6 := hn.2
    cases w <;> first | exact va_Nw.of rfl h5 | cases h6
  · rw [h3, h4]; exact hvk.narrow hAB
  · rw [h3]; exact hr0
  · rw [h3]; exact hr1
  · exact hz.narrow hAB
  · exact hq.narrow hAB
set_option maxHeartbeats 8000000 in
set_option maxRecDepth 20000 in
theorem law_start {Sim : ctM → ctM → Prop} (hops : ctOps Sim) (hini : ∃ Mc Mm : ctM, fX6_init 0 1 (ctZ ctm0 0) = some Mc ∧ fX7_init 0 1 (ctZ ctm0 0) = some Mm ∧ Sim Mc Mm) {p : Program} {e : Env} {s : State} {m : MethodId} {below : List Frame} {meth : Method} {c : Code} (l : Launch) {b L : Nat} {xs : Nat → Int32} (hL : L ≤ 384) (C0 : lw_At p s m meth c b L xs) : W p l e room_1 s m #[Value.ref b] below meth c s.heap [] 0 0 (lw_Z below #[Value.ref b] s) (entryFrame m ([Value.ref b] : List Value).toArray 4) := by
  obtain ⟨hx, hb, hr, hml, hown, hts, hX, hbl, hlocks, hgv⟩ := id C0
  obtain ⟨D, cy, aK, aV, hKn⟩ := lw_know C0
  obtain ⟨Mc, Mm, g1, g2, g3⟩ := hini
  have S : va_S (fun q : Nat => s.heap.size ≤ q) s.heap s.heap [] := va_S.rf
  have hl := lv_entry ([.ref b]) (n := 4) (Nat.le_of_ble_eq_true rfl)
  rw [lg_entry_eq]
  generalize (lg_sl ([.ref b]) ++ List.replicate (4 - (lg_sl ([.ref b])).length) Slot.unset).toArray = ls at hl ⊢
  have hl : lv_has ls 4 [(0, .ref b)] := hl
  have K1 : ∀ fr, ctK (lB1 l D cy s.heap.size aK aV fr) s := fun fr => hKn _ rfl rfl rfl rfl (Nat.le_refl _)
  have K2 : ∀ fr, ctK (lB2 l D cy s.heap.size aK aV fr) s := fun fr => hKn _ rfl rfl rfl rfl (Nat.le_add_right _ _)
  have N1 : ctBn (lB1 l D cy s.heap.size aK aV true) kdC lnC 149 := ⟨rfl, rfl, rfl, rfl, by decide, kdC_lt⟩
  have N2 : ctBn (lB2 l D cy s.heap.size aK aV true) kdM lnM 21 := ⟨rfl, rfl, rfl, rfl, by decide, kdM_lt⟩
  have w0 : ctH (lB1 l D cy s.heap.size aK aV true) 0 ctm0 s.heap := ⟨fun k q h => by simp [ctW] at h, Nat.le_add_right _ _, by decide, fun _ => rfl⟩
  refine lw_new (B := lB1 l D cy s.heap.size aK aV true) (n := 0) (cI := 6) C0 (K1 true) rfl dL_law_0 ⟨nl_RL_7, ni_6⟩ (by decide) rfl (Nat.add_le_add_left (by decide) _) (by decide) (by decide) (by decide) w0 S (fun H w1 z1 o1 S => ?_)
  refine lv_dup hx hb dL_law_3 rfl ?_
  refine lw_init (B := lB1 l D cy s.heap.size aK aV true) (rest := [.ref s.heap.size]) C0 (K1 true) (Nat.le_refl _) dL_law_4 lk_RL_9 ck_X6_init ⟨rfl, rfl⟩ (by decide) (ctX6_init N1 g1) (Nat.le_of_ble_eq_true rfl) (by decide) (by decide) hl.1 w1 S (fun H1 locs1 w1 z2 o2 S => ?_)
  refine lv_astore_n (lv' := [(1, .ref s.heap.size), (0, .ref b)]) hx hb dL_law_7 rfl hl (by decide) rfl (fun ls hl => ?_)
  have hz1 := w1.2.2.2 rfl
  have w1 := ctH_fr w1
  have w0 : ctH (lB2 l D cy s.heap.size aK aV true) 0 ctm0 H1 := ⟨fun k q h => by simp [ctW] at h, by show s.heap.size + 149 + 0 ≤ s.heap.size + 170; omega, by decide, fun _ => hz1⟩
  refine lw_new (B := lB2 l D cy s.heap.size aK aV true) (n := 0) (cI := 7) C0 (K2 true) rfl dL_law_8 ⟨nl_RL_10, ni_7⟩ (by decide) rfl (by show s.heap.size + 149 + (0 + 1) ≤ s.heap.size + 170; omega) (by decide) (by decide) (by decide) w0 S (fun H2 w2 z3 o3 S => ?_)
  have w1 : ctH (lB1 l D cy s.heap.size aK aV false) 149 Mc H2 := ctH_keep w1 rfl (fun q h1 _ _ => o3 q h1)
  refine lv_dup hx hb dL_law_11 rfl ?_
  refine lw_init (B := lB2 l D cy s.heap.size aK aV true) (rest := [.ref (s.heap.size + 149)]) C0 (K2 true) (Nat.le_add_right _ _) dL_law_12 lk_RL_12 ck_X7_init ⟨rfl, rfl⟩ (by decide) (ctX7_init N2 g2) (Nat.le_of_ble_eq_true rfl) (by decide) (by decide) hl.1 w2 S (fun H3 locs3 w2 z4 o4 S => ?_)
  have w1 : ctH (lB1 l D cy s.heap.size aK aV false) 149 Mc H3 := ctH_keep w1 rfl (fun q h1 _ h3 => o4 q h1 (fun z => by have := z.1; simp only [bLo] at this h3; omega))
  have w2 := ctH_fr2 w2
  refine lv_astore_n (lv' := [(2, .ref (s.heap.size + 149)), (1, .ref s.heap.size), (0, .ref b)]) hx hb dL_law_15 rfl hl (by decide) rfl (fun ls hl => ?_)
  refine lv_iconst (v := nI 0) hx hb dL_law_16 (by decide) ?_
  refine lv_istore_n (lv' := [(3, .int (nI 0)), (2, .ref (s.heap.size + 149)), (1, .ref s.heap.size), (0, .ref b)]) hx hb dL_law_17 rfl hl (by decide) rfl (fun ls hl => ?_)
  refine W.widen (k := 600000) (n := 7302250) (by decide) (by decide) ?_
  exact law_loop hops hL C0 (K1 false) (K2 false) (L + 1) 0 (Nat.zero_le L) (by omega) Mc Mm H3 locs3 ls g3 (lv_sub hl [3, 2, 1, 0] rfl) w1 w2 S
