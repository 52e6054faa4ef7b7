/-! the two constructors -/
def cI0 : ctM := (fX6_init 0 1 (ctZ ctm0 0)).getD ctm0
def mI0 : ctM := (fX7_init 0 1 (ctZ ctm0 0)).getD ctm0
theorem ini_c : (fX6_init 0 1 (ctZ ctm0 0)).isSome = true := by decide +kernel
theorem ini_m : (fX7_init 0 1 (ctZ ctm0 0)).isSome = true := by decide +kernel
theorem ini_c2 : fX6_init 0 1 (ctZ ctm0 0) = some cI0 := by
  have h := ini_c
  unfold cI0
  cases e : fX6_init 0 1 (ctZ ctm0 0) with
  | none => rw [e] at h; exact absurd h (by decide)
  | some r => rfl
theorem ini_m2 : fX7_init 0 1 (ctZ ctm0 0) = some mI0 := by
  have h := ini_m
  unfold mI0
  cases e : fX7_init 0 1 (ctZ ctm0 0) with
  | none => rw [e] at h; exact absurd h (by decide)
  | some r => rfl
theorem i_p0 : cI0.2 0 0 = some 11 ∧ cI0.2 0 1 = some 82 ∧ cI0.2 0 2 = some 95 ∧ cI0.2 0 3 = some 108 ∧ cI0.2 0 5 = some 1 ∧ cI0.2 0 6 = some 2 ∧ cI0.2 0 7 = some 3 ∧ cI0.2 0 9 = some 4 ∧ cI0.2 4 0 = some 5 ∧ cI0.2 4 6 = some 6 := by decide +kernel
theorem i_p1 : ∀ f, f < 8 → cI0.2 (82 + 1) f = some (82 + 5 + f) ∧ cI0.2 (95 + 1) f = some (95 + 5 + f) ∧ cI0.2 (108 + 1) f = some (108 + 5 + f) := by decide +kernel
theorem i_p2 : ∀ k, k < 5 → cI0.2 82 k = some (if k = 0 then 11 else 82 + k) ∧ cI0.2 95 k = some (if k = 0 then 11 else 95 + k) ∧ cI0.2 108 k = some (if k = 0 then 11 else 108 + k) := by decide +kernel
theorem i_p3 : ∀ i, i < 4 → cI0.2 1 i = some (121 + 2 * i) ∧ cI0.2 (121 + 2 * i) 2 = some (122 + 2 * i) := by decide +kernel
theorem i_p4 : ∀ i, i < 5 → cI0.2 2 i = some (129 + 4 * i) ∧ cI0.2 (129 + 4 * i) 1 = some (130 + 4 * i) ∧ cI0.2 (129 + 4 * i) 2 = some (131 + 4 * i) ∧ cI0.2 (131 + 4 * i) 2 = some (132 + 4 * i) := by decide +kernel
theorem i_p5 : ∀ a, a < 82 → isLaw a → cI0.2 a 3 = some (a + 1) ∧ cI0.2 a 4 = some (a + 2) ∧ cI0.2 a 5 = some (a + 3) ∧ cI0.2 a 6 = some (a + 4) := by decide +kernel
theorem i_p6 : ∀ t, t < 14 → cI0.2 11 t = some (12 + 5 * t) := by decide +kernel
theorem i_pm : ∀ k, k < 35 → mI0.2 0 k = pMl.getD k none := by decide +kernel
theorem i_ag : ∀ j, j < 70 → mI0.1 1 j = rK cI0 82 j := by decide +kernel
theorem i_s : mI0.1 1 0 = 0 ∧ mI0.1 1 1 = 0 ∧ ∀ i, i < 8 → mI0.1 1 (6 + i) = 0 := by decide +kernel
theorem i_ct : ∀ k, k < 3 → cI0.1 (82 + 4) k = -1 := by decide +kernel
theorem i_f : cI0.1 0 4 = 0 ∧ mI0.1 0 3 = 0 ∧ cI0.1 4 1 = 0 ∧ mI0.1 0 18 = 0 ∧ cI0.1 0 8 = 0 ∧ mI0.1 0 33 = 0 := by decide +kernel
theorem i_sh : ∀ i, i < 4 → cI0.1 (121 + 2 * i) 0 = mI0.1 4 i ∧ cI0.1 (121 + 2 * i) 1 = mI0.1 5 i ∧ mI0.1 4 i = -1 ∧ mI0.1 5 i = 0 ∧ ∀ k, k < 24 → cI0.1 (122 + 2 * i) k = mI0.1 6 (24 * i + k) := by decide +kernel
theorem i_sl : ∀ i, i < 5 → cI0.1 (129 + 4 * i) 0 = mI0.1 7 i ∧ mI0.1 7 i = 0 := by decide +kernel
theorem sim_init : Sim cI0 mI0 := by
  refine ⟨⟨?_, ?_, i_p3, i_p4, ?_⟩, i_pm, ?_, i_ag, ⟨0, ?_⟩, ⟨0, ⟨by decide, by rw [i_s.2.1, nI_0], fun t ht => by omega⟩, fun k hk => (by rw [cntS]; exact i_ct k hk), Or.inl ⟨i_f.1, i_f.2.1⟩⟩, ?_, ?_, ⟨0, by decide, by rw [i_f.2.2.1, nI_0], by rw [i_f.2.2.2.1, nI_0], fun i hi => by omega⟩, ⟨0, by decide, by rw [i_f.2.2.2.2.1, nI_0], by rw [i_f.2.2.2.2.2, nI_0], fun i hi => by omega⟩, ?_, ?_⟩
  · obtain ⟨a1, a2, a3, a4, a5, a6, a7, a8, a9, _⟩ := i_p0
    exact ⟨a1, a2, a3, a4, a5, a6, a7, a8, a9⟩
  · intro r hr
    rcases hr with rfl | rfl | rfl
    · exact ⟨(i_p2 0 (by decide)).1, (i_p2 1 (by decide)).1, (i_p2 2 (by decide)).1, (i_p2 3 (by decide)).1, (i_p2 4 (by decide)).1, fun f hf => (i_p1 f hf).1⟩
    · exact ⟨(i_p2 0 (by decide)).2.1, (i_p2 1 (by decide)).2.1, (i_p2 2 (by decide)).2.1, (i_p2 3 (by decide)).2.1, (i_p2 4 (by decide)).2.1, fun f hf => (i_p1 f hf).2.1⟩
    · exact ⟨(i_p2 0 (by decide)).2.2, (i_p2 1 (by decide)).2.2, (i_p2 2 (by decide)).2.2, (i_p2 3 (by decide)).2.2, (i_p2 4 (by decide)).2.2, fun f hf => (i_p1 f hf).2.2⟩
  · intro a ha
    exact i_p5 a (law_ne4 ha).2 ha
  · refine ⟨fun t => if t < 14 then 12 + 5 * t else 6, fun t ht => ?_, ?_, fun t ht => ?_, fun s t hs ht h => ?_⟩
    · show cI0.2 11 t = some (if t < 14 then 12 + 5 * t else 6)
      rw [if_pos ht]; exact i_p6 t ht
    · show cI0.2 4 6 = some (if 14 < 14 then 12 + 5 * 14 else 6)
      exact i_p0.2.2.2.2.2.2.2.2.2
    · show isLaw (if t < 14 then 12 + 5 * t else 6)
      split <;> omega
    · have h' : (if s < 14 then 12 + 5 * s else 6) = (if t < 14 then 12 + 5 * t else 6) := h
      split at h' <;> split at h' <;> omega
  · refine ⟨by decide, by rw [i_s.1, nI_0], fun f hf => by omega, fun i hi => ⟨0, by decide, by decide, by rw [i_s.2.2 i hi, nI_0]⟩, fun i _ hi => i_s.2.2 i hi⟩
  · intro i hi
    obtain ⟨s1, s2, s3, s4, s5⟩ := i_sh i hi
    exact ⟨s1, s2, Or.inl s3, ⟨0, by decide, by decide, by rw [s4, nI_0]⟩, s5⟩
  · intro i hi
    obtain ⟨s1, s2⟩ := i_sl i hi
    refine ⟨s1, ⟨0, by decide, by decide, by rw [s2, nI_0]⟩, fun z => ?_, fun z => ?_, fun z => ?_⟩
    · rw [s2] at z; exact absurd z (by decide)
    · rw [s2] at z; exact absurd z (by decide)
    · rw [s2] at z; exact absurd z (by decide)
  · intro f g hf hg
    rw [i_s.2.2 f hf, i_s.2.2 g hg]
    exact (by decide +kernel : ∀ f, f < 8 → ∀ g, g < 8 → gbS 0 g = gbS 0 f) f hf g hg
  · intro z
    rw [i_f.2.1] at z
    exact absurd z (by decide)
theorem ini_ok : ∃ Mc Mm, fX6_init 0 1 (ctZ ctm0 0) = some Mc ∧ fX7_init 0 1 (ctZ ctm0 0) = some Mm ∧ Sim Mc Mm := ⟨cI0, mI0, ini_c2, ini_m2, sim_init⟩
