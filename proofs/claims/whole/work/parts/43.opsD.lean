set_option maxRecDepth 100000 in
theorem bt_x : ∀ m, m < 256 → ∀ j, j < 8 → ∀ i, i < 8 → gbS (nI m ^^^ bitI j) i = if i = j then (if gbS (nI m) j = 1 then 0 else 1) else gbS (nI m) i := by decide +kernel
section
variable {Mc Mm : ctM} {n : Nat}
theorem va_up_id {α : Type} {f : Nat → α} {k : Nat} {v : α} (h : f k = v) : va_up f k v = f := by
  funext j
  by_cases e : j = k
  · subst e; rw [va_up_eq', h]
  · rw [va_up_ne' e]
theorem Inv.up_gl {S : Kv} {f : Nat} {v : Int32} (h : Inv S n) (hf : f < n) (hv : rg v 0 256) : Inv (va_up S (6 + f) v) n := by
  obtain ⟨h1, h2, h3, h4, h5⟩ := h
  have e : ∀ g k, fl (va_up S (6 + f) v) g k = fl S g k := fun g k => va_up_ne' (by omega)
  refine ⟨h1, by rw [va_up_ne' (by omega)]; exact h2, fun g hg => ?_, fun i hi => ?_, fun i hi hj => ?_⟩
  · simp only [e]; exact h3 g hg
  · by_cases c : i = f
    · subst c; rw [va_up_eq']; exact hv
    · rw [va_up_ne' (by omega)]; exact h4 i hi
  · rw [va_up_ne' (by omega)]; exact h5 i hi hj
theorem Sy.flip {S : Kv} {f g a b : Nat} (h : Sy S) (hf : f < 8) (hg : g < 8) (hfg : f ≠ g) (ha : a < 256) (hb : b < 256) (ea : S (6 + f) = nI a) (eb : S (6 + g) = nI b) : Sy (va_up (va_up S (6 + f) (nI a ^^^ bitI g)) (6 + g) (nI b ^^^ bitI f)) := by
  have key : ∀ p q, p < 8 → q < 8 → gbS (va_up (va_up S (6 + f) (nI a ^^^ bitI g)) (6 + g) (nI b ^^^ bitI f) (6 + p)) q = if (p = f ∧ q = g) ∨ (p = g ∧ q = f) then (if gbS (S (6 + p)) q = 1 then 0 else 1) else gbS (S (6 + p)) q := by
    intro p q hp hq
    by_cases e1 : p = g
    · subst e1
      rw [va_up_eq', bt_x b hb f hf q hq, eb]
      by_cases e2 : q = f
      · subst e2
        rw [if_pos rfl, if_pos (Or.inr ⟨rfl, rfl⟩)]
      · rw [if_neg e2, if_neg (by omega)]
    · rw [va_up_ne' (by omega)]
      by_cases e2 : p = f
      · subst e2
        rw [va_up_eq', bt_x a ha g hg q hq, ea]
        by_cases e3 : q = g
        · subst e3
          rw [if_pos rfl, if_pos (Or.inl ⟨rfl, rfl⟩)]
        · rw [if_neg e3, if_neg (by omega)]
      · rw [va_up_ne' (by omega), if_neg (by omega)]
  intro p q hp hq
  rw [key p q hp hq, key q p hq hp, h p q hp hq]
  by_cases c : (p = f ∧ q = g) ∨ (p = g ∧ q = f)
  · have c' : (q = f ∧ p = g) ∨ (q = g ∧ p = f) := by omega
    simp only [if_pos c, if_pos c']
  · have c' : ¬ ((q = f ∧ p = g) ∨ (q = g ∧ p = f)) := by omega
    simp only [if_neg c, if_neg c']
theorem c_putGlass {f g : Nat} {v : Int32} (pc : PC Mc) (hf : f < 8) (hg : g < 8) (hfg : f ≠ g) (hv : v = 0 ∨ v = 1) {a b : Int32} (ea : rK Mc 82 (6 + f) = a) (eb : rK Mc 82 (6 + g) = b) : fX2_putGlass 82 (nI f) (nI g) v Mc = some (ctI (ctI Mc (82 + 2) f (if v = 0 then a &&& (bitI g ^^^ (-1)) else a ||| bitI g)) (82 + 2) g (if v = 0 then b &&& (bitI f ^^^ (-1)) else b ||| bitI f)) := by
  have pc2 : ∀ w, PC (ctI Mc (82 + 2) f w) := fun w => pc
  have eg : ∀ w, rK (ctI Mc (82 + 2) f w) 82 (6 + g) = b := fun w => by rw [rK_pg hf, va_up_ne' (by omega), eb]
  rcases hv with rfl | rfl
  · simp only [fX2_putGlass, fX2_putGlass_b42, fX2_putGlass_b75, rm_f2 pc r82, rm_f2 (pc2 _) r82, bS, if_true, rm_gl r82 hf, rm_gl r82 hg, rm_gls r82 hf, rm_gls r82 hg, ea, eg]
  · simp only [fX2_putGlass, fX2_putGlass_b42, fX2_putGlass_b75, rm_f2 pc r82, rm_f2 (pc2 _) r82, bS, if_neg i_10, rm_gl r82 hf, rm_gl r82 hg, rm_gls r82 hf, rm_gls r82 hg, ea, eg]
theorem op_glass : opS3 Sim fX6_glass fX7_glass := by
  intro Mc Mm h x k v
  obtain ⟨pc, pm, _, ag, ⟨n, hi⟩, _⟩ := id h
  have hn := hi.1
  have k0 : rK Mc 82 0 = nI n := (ag 0 (by decide)).symm.trans hi.2.1
  by_cases hp : (0 ≤ x ∧ x ≤ nI n - 1) ∧ (0 ≤ k ∧ k ≤ nI n - 1) ∧ x ≠ k
  · obtain ⟨h1, h2, h3⟩ := id hp
    by_cases h4 : 0 ≤ v ∧ v ≤ 1
    · obtain ⟨f, hf, rfl⟩ := (ix_iff (by omega)).mp h1
      obtain ⟨g, hg, rfl⟩ := (ix_iff (by omega)).mp h2
      have hf8 : f < 8 := by omega
      have hg8 : g < 8 := by omega
      have hfg : f ≠ g := fun z => h3 (by rw [z])
      obtain ⟨a, _, ha, ea⟩ := hi.2.2.2.1 f hf8
      obtain ⟨b, _, hb, eb⟩ := hi.2.2.2.1 g hg8
      have ca : rK Mc 82 (6 + f) = nI a := (ag _ (by omega)).symm.trans ea
      have cb : rK Mc 82 (6 + g) = nI b := (ag _ (by omega)).symm.trans eb
      have hv : v = 0 ∨ v = 1 := by
        obtain ⟨j, _, hj, rfl⟩ := rg_in (hi := 1) nI_0.symm rfl (by decide) (by decide) h4
        rcases (by omega : j = 0 ∨ j = 1) with rfl | rfl
        · exact Or.inl rfl
        · exact Or.inr rfl
      have hgr : rg (rK Mc 82 (6 + f)) 0 256 := ⟨a, by omega, ha, ca⟩
      have B1 := bt_gl a ha g hg8
      have B2 := bt_gl b hb f hf8
      have sym : gbS (nI a) g = gbS (nI b) f := by
        have := h.sy f g hf8 hg8
        rw [ea, eb] at this
        exact this
      have cls : fX6_glass 0 (nI f) (nI g) v Mc = some (gbS (nI a) g, ctI (ctI Mc (82 + 2) f (if v = 0 then nI a &&& (bitI g ^^^ (-1)) else nI a ||| bitI g)) (82 + 2) g (if v = 0 then nI b &&& (bitI f ^^^ (-1)) else nI b ||| bitI f)) := by
        have hb38 : ∀ z : Int32, fX6_glass_b38 0 (nI f) (nI g) v z Mc = some (z, ctI (ctI Mc (82 + 2) f (if v = 0 then nI a &&& (bitI g ^^^ (-1)) else nI a ||| bitI g)) (82 + 2) g (if v = 0 then nI b &&& (bitI f ^^^ (-1)) else nI b ||| bitI f)) := by
          intro z
          unfold fX6_glass_b38 fX6_glass_b56
          rw [o_now pc, bS]
          rcases hv with rfl | rfl
          · rw [if_neg (by decide), rm_cV r82, c_putGlass pc hf8 hg8 hfg (Or.inl rfl) ca cb, bS]
          · rw [if_pos rfl, rm_cV r82, c_putGlass pc hf8 hg8 hfg (Or.inr rfl) ca cb, bS]
        unfold fX6_glass
        rw [o_cV, c_isPair pc k0, bS, if_pos hp, if_neg i_10, c_within, bS, if_pos h4, if_neg i_10, o_now pc, bS, rm_cV r82, c_hasGlass pc r82 hf8 hg8 hgr, bS, ca]
        rcases B1.2.1 with e | e
        · simp only [e, if_neg (show ¬ (0 : Int32) = 1 by decide), if_true]
          exact hb38 0
        · simp only [e, if_true, if_neg i_10]
          exact hb38 1
      have mod0 : fX7_glass 0 (nI f) (nI g) v Mm = if gbS (nI a) g = v then some (gbS (nI a) g, Mm) else some (gbS (nI a) g, ctI (ctI Mm 1 (6 + f) (nI a ^^^ bitI g)) 1 (6 + g) (nI b ^^^ bitI f)) := by
        have pm2 : PM (ctI Mm 1 (6 + f) (nI a ^^^ bitI g)) := pm
        have e2 : (ctI Mm 1 (6 + f) (nI a ^^^ bitI g)).1 1 (6 + g) = nI b := by rw [ctI_1, va_up_ne' (by omega), eb]
        have eg : nI a >>> (nI g &&& 31) &&& 1 = gbS (nI a) g := rfl
        simp only [fX7_glass, m_cV, m_isFlame pm hi.2.1, bS, if_pos h1, if_neg i_10, if_pos h2, if_neg h3, m_isInL v 0 1 0 1 (by decide) (by decide), if_pos h4, gM0 pm, m_gl hf8, ea, show (6 : Int32) + nI f = nI (6 + f) from nI_add 6 f, show (6 : Int32) + nI g = nI (6 + g) from nI_add 6 g, m_s (show 6 + f < 3070 by omega), m_ss (show 6 + f < 3070 by omega), gM0 pm2, m_s (show 6 + g < 3070 by omega), m_ss (show 6 + g < 3070 by omega), e2, eg]
      refine ⟨gbS (nI a) g, _, if gbS (nI a) g = v then Mm else ctI (ctI Mm 1 (6 + f) (nI a ^^^ bitI g)) 1 (6 + g) (nI b ^^^ bitI f), cls, ?_, ?_⟩
      · rw [mod0]; split <;> rfl
      · have tk : ∀ p q, TkC 82 Mc (va_up (va_up (rK Mc 82) (6 + f) p) (6 + g) q) (ctI (ctI Mc (82 + 2) f p) (82 + 2) g q) := fun p q => (TkC.rf.pg hf8).pg hg8
        by_cases hc : gbS (nI a) g = v
        · rw [if_pos hc]
          have q1 : (if v = 0 then nI a &&& (bitI g ^^^ (-1)) else nI a ||| bitI g) = nI a := by
            rcases hv with rfl | rfl
            · rw [if_pos rfl]; exact (B1.2.2.1 hc).2
            · rw [if_neg i_10]; exact (B1.2.2.2.1 hc).2
          have q2 : (if v = 0 then nI b &&& (bitI f ^^^ (-1)) else nI b ||| bitI f) = nI b := by
            rw [sym] at hc
            rcases hv with rfl | rfl
            · rw [if_pos rfl]; exact (B2.2.2.1 hc).2
            · rw [if_neg i_10]; exact (B2.2.2.2.1 hc).2
          rw [q1, q2]
          refine h.put (tk _ _) WkM.rf ?_ hi (fun _ _ => rfl) h.sy
          rw [va_up_id ca, va_up_id cb]
          exact ag
        · rw [if_neg hc]
          have q1 : (if v = 0 then nI a &&& (bitI g ^^^ (-1)) else nI a ||| bitI g) = nI a ^^^ bitI g := by
            rcases hv with rfl | rfl
            · rw [if_pos rfl]; exact (B1.2.2.2.1 (B1.2.1.resolve_left hc)).1
            · rw [if_neg i_10]; exact (B1.2.2.1 (B1.2.1.resolve_right hc)).1
          have q2 : (if v = 0 then nI b &&& (bitI f ^^^ (-1)) else nI b ||| bitI f) = nI b ^^^ bitI f := by
            rw [sym] at hc
            rcases hv with rfl | rfl
            · rw [if_pos rfl]; exact (B2.2.2.2.1 (B2.2.1.resolve_left hc)).1
            · rw [if_neg i_10]; exact (B2.2.2.1 (B2.2.1.resolve_right hc)).1
          rw [q1, q2]
          exact h.put (tk _ _) ((WkM.rf.put _ _).put _ _) ((ag.up _ _).up _ _) ((hi.up_gl hf ⟨a ^^^ 2 ^ g, by omega, B1.2.2.2.2.2, B1.2.2.2.2.1⟩).up_gl hg ⟨b ^^^ 2 ^ f, by omega, B2.2.2.2.2.2, B2.2.2.2.2.1⟩) (fun j hj => by rw [va_up_ne' (by omega), va_up_ne' (by omega)]) (h.sy.flip hf8 hg8 hfg ha hb ea eb)
    · refine ⟨-1000000001, Mc, Mm, by simp only [fX6_glass, o_cV, c_isPair pc k0, bS, if_pos hp, if_neg i_10, c_within, if_neg h4, if_true], ?_, h⟩
      simp only [fX7_glass, m_cV, m_isFlame pm hi.2.1, bS, if_pos h1, if_pos h2, if_neg h3, if_neg i_10, m_isInL v 0 1 0 1 (by decide) (by decide), if_neg h4, if_true]
  · refine ⟨-1000000001, Mc, Mm, by simp only [fX6_glass, o_cV, c_isPair pc k0, bS, if_neg hp, if_true], ?_, h⟩
    by_cases h1 : 0 ≤ x ∧ x ≤ nI n - 1
    · by_cases h2 : 0 ≤ k ∧ k ≤ nI n - 1
      · have h3 : x = k := Classical.byContradiction fun z => hp ⟨h1, h2, z⟩
        simp only [fX7_glass, m_cV, m_isFlame pm hi.2.1, bS, if_pos h1, if_pos h2, if_pos h3, if_neg i_10]
      · simp only [fX7_glass, m_cV, m_isFlame pm hi.2.1, bS, if_pos h1, if_neg h2, if_neg i_10, if_true]
    · simp only [fX7_glass, m_cV, m_isFlame pm hi.2.1, bS, if_neg h1, if_true]
end
