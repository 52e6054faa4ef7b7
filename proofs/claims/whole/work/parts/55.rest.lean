/-! thought that is begun again and again -/
section
variable {Mc Mm Mc0 Mm0 : ctM} {n : Nat} {E : Ev}
/-- both at rest: the model stands as it was, with what it laid by -/
def Rs (Mc0 Mm0 Mc Mm : ctM) : Prop := Mc.2 = Mc0.2 ∧ (∀ b, ¬ isGv b → b < 95 ∨ 108 ≤ b → Mc.1 b = Mc0.1 b) ∧ WkM Mm0 (Mm0.1 1) Mm ∧ ∀ j, j < 70 → Mm.1 14 j = Mm0.1 1 j
theorem Rs.sim (s : Sim Mc0 Mm0) (h : Rs Mc0 Mm0 Mc Mm) : Sim Mc Mm := s.think h.1 h.2.1 h.2.2.1 (fun _ => rfl)
theorem Rs.pc (s : Sim Mc0 Mm0) (h : Rs Mc0 Mm0 Mc Mm) : PC Mc := s.1.of2 h.1
theorem Rs.pm (s : Sim Mc0 Mm0) (h : Rs Mc0 Mm0 Mc Mm) : PM Mm := h.2.2.1.pm s.2.1
theorem Rs.k82 (h : Rs Mc0 Mm0 Mc Mm) : rK Mc 82 = rK Mc0 82 := rK_congr (fun k _ _ => by rw [h.2.1 82 (by decide) (by omega)]) (fun i _ => by rw [h.2.1 (82 + 2) (by decide) (by omega)]) (fun f k _ _ => by rw [h.2.1 (82 + 5 + f) (gv_rm r82 (by omega)) (by omega)])
theorem Rs.s (h : Rs Mc0 Mm0 Mc Mm) : Mm.1 1 = Mm0.1 1 := h.2.2.1.2.1
theorem rs_by (s : Sim Mc Mm) : ∃ Mm1, fX7_laysBy 0 Mm = some Mm1 ∧ Rs Mc Mm Mc Mm1 := by
  obtain ⟨Mm1, b1, b2, b3⟩ := th_by s
  exact ⟨Mm1, b1, rfl, fun _ _ _ => rfl, b2, b3⟩
theorem rs_th (s : Sim Mc0 Mm0) (hi : Inv (Mm0.1 1) n) {nt : Nat} (e1 : EvM (Mm0.1 1) nt E) (e2 : EvC Mc0 82 E) (h : Rs Mc0 Mm0 Mc Mm) : ∃ Mc1, fX2_become 95 82 Mc = some Mc1 ∧ Th Mc0 Mm0 n E Mc1 Mm := th_start s hi e1 e2 h.1 h.2.1 h.2.2.1 h.2.2.2
theorem th_rs (s : Sim Mc0 Mm0) (h : Th Mc0 Mm0 n E Mc Mm) : ∃ Mm2, fX7_laysBack 0 Mm = some Mm2 ∧ Rs Mc0 Mm0 Mc Mm2 := by
  obtain ⟨M2, b1, b2, b3, _⟩ := th_back s h
  exact ⟨M2, b1, h.1.1, h.1.2.1, b2, b3⟩
/-- a field of a flame that is only thought -/
theorem th_put {f k : Nat} {v : Int32} (h : Th Mc0 Mm0 n E Mc Mm) (hf : f < n) (hk : k < 7) (hv : (k = 0 → rg v 0 6) ∧ (k = 1 → rg v 0 30) ∧ (k = 2 → rg v 0 30) ∧ (k = 3 → rg v 1 10) ∧ (k = 4 → rg v 0 120) ∧ (k = 5 → rg v 0 1000)) : Th Mc0 Mm0 n E (ctI Mc (95 + 5 + f) k v) (ctI Mm 1 (14 + 7 * f + k) v) := by
  obtain ⟨⟨c2, cc, ec⟩, ⟨wk, m14, tx, nt, em⟩, ag, hi⟩ := id h
  have hn := hi.1
  have t := (TkC.rf (M := Mc) (r := 95)).pf (f := f) (k := k) (v := v) (by omega) hk
  refine ⟨⟨c2, fun b h1 h2 => by rw [ctI_ne (by omega)]; exact cc b h1 h2, t.ev r95 ec⟩, ⟨by rw [ctI_1]; exact wk.put _ _, fun j hj => by rw [ctI_ne (by decide)]; exact m14 j hj, fun j hj => by rw [ctI_1, va_up_ne' (by omega)]; exact tx j hj, nt, by rw [ctI_1]; exact em.congr (fun j hj => va_up_ne' (by omega))⟩, ?_, ?_⟩
  · rw [ctI_1, rK_pf (by omega) hk]; exact ag.up _ _
  · rw [ctI_1]; exact hi.up_fl hf hk hv
theorem th_near {v : Int32} (h : Th Mc0 Mm0 n E Mc Mm) : Th Mc0 Mm0 n E (ctI Mc 95 6 v) (ctI Mm 1 3 v) := by
  obtain ⟨⟨c2, cc, ec⟩, ⟨wk, m14, tx, nt, em⟩, ag, hi⟩ := id h
  have t := (TkC.rf (M := Mc) (r := 95)).pr (j := 3) (v := v) (by decide)
  refine ⟨⟨c2, fun b h1 h2 => by rw [ctI_ne (by omega)]; exact cc b h1 h2, t.ev r95 ec⟩, ⟨by rw [ctI_1]; exact wk.put _ _, fun j hj => by rw [ctI_ne (by decide)]; exact m14 j hj, fun j hj => by rw [ctI_1, va_up_ne' (by omega)]; exact tx j hj, nt, by rw [ctI_1]; exact em.congr (fun j hj => va_up_ne' (by omega))⟩, ?_, ?_⟩
  · rw [ctI_1, rK_p3]; exact ag.up _ _
  · rw [ctI_1]; exact hi.up_lo (by omega)
end
