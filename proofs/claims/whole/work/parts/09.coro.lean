/-! the layouts -/
def kdCl : List Nat := [6, 13, 14, 9, 5, 8, 1, 9, 9, 9, 9, 12, 1, 9, 9, 9, 9, 1, 9, 9, 9, 9, 1, 9, 9, 9, 9, 1, 9, 9, 9, 9, 1, 9, 9, 9, 9, 1, 9, 9, 9, 9, 1, 9, 9, 9, 9, 1, 9, 9, 9, 9, 1, 9, 9, 9, 9, 1, 9, 9, 9, 9, 1, 9, 9, 9, 9, 1, 9, 9, 9, 9, 1, 9, 9, 9, 9, 1, 9, 9, 9, 9, 2, 11, 9, 9, 9, 0, 0, 0, 0, 0, 0, 0, 0, 2, 11, 9, 9, 9, 0, 0, 0, 0, 0, 0, 0, 0, 2, 11, 9, 9, 9, 0, 0, 0, 0, 0, 0, 0, 0, 3, 9, 3, 9, 3, 9, 3, 9, 4, 0, 3, 9, 4, 0, 3, 9, 4, 0, 3, 9, 4, 0, 3, 9, 4, 0, 3, 9]
def lnCl : List Nat := [0, 4, 5, 60, 0, 96, 0, 96, 96, 96, 96, 14, 0, 96, 96, 96, 96, 0, 96, 96, 96, 96, 0, 96, 96, 96, 96, 0, 96, 96, 96, 96, 0, 96, 96, 96, 96, 0, 96, 96, 96, 96, 0, 96, 96, 96, 96, 0, 96, 96, 96, 96, 0, 96, 96, 96, 96, 0, 96, 96, 96, 96, 0, 96, 96, 96, 96, 0, 96, 96, 96, 96, 0, 96, 96, 96, 96, 0, 96, 96, 96, 96, 0, 8, 8, 8, 3, 0, 0, 0, 0, 0, 0, 0, 0, 0, 8, 8, 8, 3, 0, 0, 0, 0, 0, 0, 0, 0, 0, 8, 8, 8, 3, 0, 0, 0, 0, 0, 0, 0, 0, 0, 24, 0, 24, 0, 24, 0, 24, 0, 0, 0, 24, 0, 0, 0, 24, 0, 0, 0, 24, 0, 0, 0, 24, 0, 0, 0, 24]
def kdMl : List Nat := [7, 9, 9, 9, 9, 9, 9, 9, 9, 9, 9, 9, 9, 10, 9, 9, 9, 9, 9, 9, 9]
def lnMl : List Nat := [0, 3070, 3070, 3070, 4, 4, 96, 5, 5, 5, 5, 120, 8, 120, 70, 96, 128, 100, 24, 60, 60]
def kdC (a : Nat) : Nat := kdCl.getD a 15
def lnC (a : Nat) : Nat := lnCl.getD a 0
def kdM (a : Nat) : Nat := kdMl.getD a 15
def lnM (a : Nat) : Nat := lnMl.getD a 0
/-! ends -/
def poI (r : Int32 × ctM) (n : Nat) : ctPost := fun v n' M' => v = some (.int r.1) ∧ n' = n ∧ M' = r.2
def poV (r : ctM) (n : Nat) : ctPost := fun v n' M' => v = none ∧ n' = n ∧ M' = r
def poP (r : Option Nat × ctM) (n : Nat) : ctPost := fun v n' M' => v = some (va_rf r.1) ∧ n' = n ∧ M' = r.2
theorem poI_of {x : Int32} {M : ctM} {r : Int32 × ctM} {n : Nat} (h : some (x, M) = some r) : poI r n (some (.int x)) n M := by cases h; exact ⟨rfl, rfl, rfl⟩
theorem poV_of {M : ctM} {r : ctM} {n : Nat} (h : some M = some r) : poV r n none n M := by cases h; exact ⟨rfl, rfl, rfl⟩
theorem poP_of {o : Option Nat} {M : ctM} {r : Option Nat × ctM} {n : Nat} (h : some (o, M) = some r) : poP r n (some (va_rf o)) n M := by cases h; exact ⟨rfl, rfl, rfl⟩
theorem oe_n {α : Type} {o : Option Nat} {A r : α} {f : Nat → α} (h : o.elim A f = r) (e : o = none) : A = r := by subst e; exact h
theorem oe_s {α : Type} {o : Option Nat} {A r : α} {f : Nat → α} {a : Nat} (h : o.elim A f = r) (e : o = some a) : f a = r := by subst e; exact h
def cV {α : Type} (kd : Nat → Nat) (c a : Nat) (o : Option α) : Option α := if kd a = c then o else none
theorem cV_spec {α : Type} {kd : Nat → Nat} {c a : Nat} {o : Option α} {r : α} (h : cV kd c a o = some r) : kd a = c ∧ o = some r := by
  unfold cV at h
  split at h
  · exact ⟨by assumption, h⟩
  · cases h
def chA (i : Nat) (k : Int32) : Option Int32 := if ¬ k < 0 ∧ k.toNatClampNeg < ctSL.getD i 0 then some ((ctSB.getD i []).getD k.toNatClampNeg 0) else none
section
variable {B : ctB} {μ μ' : Mi} {lv lv' : Nat} {post : ctPost} {pc q : Nat} {L : List (Option Value)} {rest : List Value} {n : Nat} {M : ctM} {kd ln : Nat → Nat}

theorem ct_cVi0 {idx ci a : Nat} {r : Int32 × ctM} (hB : ctOk B kd ln n) (hd : decode μ.2.1 pc = .ok (.invokevirtual idx, 3)) (hl : ctLkV μ.1.cls idx μ' 0) (hR : lv' + 1 ≤ lv) (hC : ctC B μ' (lv', 0, 0) [.ref a] n M (poI r n)) (ha : kd a = ci) (hci : ci < 8) (hcn : ctR ci = μ'.1.cls) (hrest : (rest.map fun v => v.category).sum ≤ 8) (hp : pc + 3 = q) (K : ctV B μ (lv, 0, 0) post q L (.int r.1 :: rest) (0, 0) n r.2) : ctV B μ (lv, 0, 0) post pc L (.ref a :: rest) (0, 0) n M := by
  subst hp
  refine ct_callV (As := []) (rest := rest) hB hd hl rfl hR hC ha hci hcn hrest ⟨Nat.le_refl 0, Nat.le_refl 0⟩ rfl (fun v n' M' hq => ?_)
  obtain ⟨rfl, rfl, rfl⟩ := hq
  exact K
theorem ct_cSi0 {idx : Nat} {r : Int32 × ctM} (hd : decode μ.2.1 pc = .ok (.invokestatic idx, 3)) (hl : ctLkS μ.1.cls idx μ' 0 ∨ ∃ host, ctLkSN μ.1.cls idx μ' 0 host) (hR : lv' + 1 ≤ lv) (hC : ctC B μ' (lv', 0, 0) [] n M (poI r n)) (hrest : (rest.map fun v => v.category).sum ≤ 8) (hp : pc + 3 = q) (K : ctV B μ (lv, 0, 0) post q L (.int r.1 :: rest) (0, 0) n r.2) : ctV B μ (lv, 0, 0) post pc L (rest) (0, 0) n M := by
  subst hp
  refine ct_callS (As := []) (rest := rest) hd hl rfl hR hC hrest ⟨Nat.le_refl 0, Nat.le_refl 0⟩ rfl (fun v n' M' hq => ?_)
  obtain ⟨rfl, rfl, rfl⟩ := hq
  exact K
theorem ct_cVv0 {idx ci a : Nat} {r : ctM} (hB : ctOk B kd ln n) (hd : decode μ.2.1 pc = .ok (.invokevirtual idx, 3)) (hl : ctLkV μ.1.cls idx μ' 0) (hR : lv' + 1 ≤ lv) (hC : ctC B μ' (lv', 0, 0) [.ref a] n M (poV r n)) (ha : kd a = ci) (hci : ci < 8) (hcn : ctR ci = μ'.1.cls) (hrest : (rest.map fun v => v.category).sum ≤ 8) (hp : pc + 3 = q) (K : ctV B μ (lv, 0, 0) post q L (rest) (0, 0) n r) : ctV B μ (lv, 0, 0) post pc L (.ref a :: rest) (0, 0) n M := by
  subst hp
  refine ct_callV (As := []) (rest := rest) hB hd hl rfl hR hC ha hci hcn hrest ⟨Nat.le_refl 0, Nat.le_refl 0⟩ rfl (fun v n' M' hq => ?_)
  obtain ⟨rfl, rfl, rfl⟩ := hq
  exact K
theorem ct_cSv0 {idx : Nat} {r : ctM} (hd : decode μ.2.1 pc = .ok (.invokestatic idx, 3)) (hl : ctLkS μ.1.cls idx μ' 0 ∨ ∃ host, ctLkSN μ.1.cls idx μ' 0 host) (hR : lv' + 1 ≤ lv) (hC : ctC B μ' (lv', 0, 0) [] n M (poV r n)) (hrest : (rest.map fun v => v.category).sum ≤ 8) (hp : pc + 3 = q) (K : ctV B μ (lv, 0, 0) post q L (rest) (0, 0) n r) : ctV B μ (lv, 0, 0) post pc L (rest) (0, 0) n M := by
  subst hp
  refine ct_callS (As := []) (rest := rest) hd hl rfl hR hC hrest ⟨Nat.le_refl 0, Nat.le_refl 0⟩ rfl (fun v n' M' hq => ?_)
  obtain ⟨rfl, rfl, rfl⟩ := hq
  exact K
theorem ct_cVi1 {idx ci a : Nat} {b1 : Value} {r : Int32 × ctM} (hB : ctOk B kd ln n) (hd : decode μ.2.1 pc = .ok (.invokevirtual idx, 3)) (hl : ctLkV μ.1.cls idx μ' 1) (hR : lv' + 1 ≤ lv) (hC : ctC B μ' (lv', 0, 0) [.ref a, b1] n M (poI r n)) (ha : kd a = ci) (hci : ci < 8) (hcn : ctR ci = μ'.1.cls) (hrest : (rest.map fun v => v.category).sum ≤ 8) (hp : pc + 3 = q) (K : ctV B μ (lv, 0, 0) post q L (.int r.1 :: rest) (0, 0) n r.2) : ctV B μ (lv, 0, 0) post pc L (b1 :: .ref a :: rest) (0, 0) n M := by
  subst hp
  refine ct_callV (As := [b1]) (rest := rest) hB hd hl rfl hR hC ha hci hcn hrest ⟨Nat.le_refl 0, Nat.le_refl 0⟩ rfl (fun v n' M' hq => ?_)
  obtain ⟨rfl, rfl, rfl⟩ := hq
  exact K
theorem ct_cSi1 {idx : Nat} {b1 : Value} {r : Int32 × ctM} (hd : decode μ.2.1 pc = .ok (.invokestatic idx, 3)) (hl : ctLkS μ.1.cls idx μ' 1 ∨ ∃ host, ctLkSN μ.1.cls idx μ' 1 host) (hR : lv' + 1 ≤ lv) (hC : ctC B μ' (lv', 0, 0) [b1] n M (poI r n)) (hrest : (rest.map fun v => v.category).sum ≤ 8) (hp : pc + 3 = q) (K : ctV B μ (lv, 0, 0) post q L (.int r.1 :: rest) (0, 0) n r.2) : ctV B μ (lv, 0, 0) post pc L (b1 :: rest) (0, 0) n M := by
  subst hp
  refine ct_callS (As := [b1]) (rest := rest) hd hl rfl hR hC hrest ⟨Nat.le_refl 0, Nat.le_refl 0⟩ rfl (fun v n' M' hq => ?_)
  obtain ⟨rfl, rfl, rfl⟩ := hq
  exact K
theorem ct_cVv1 {idx ci a : Nat} {b1 : Value} {r : ctM} (hB : ctOk B kd ln n) (hd : decode μ.2.1 pc = .ok (.invokevirtual idx, 3)) (hl : ctLkV μ.1.cls idx μ' 1) (hR : lv' + 1 ≤ lv) (hC : ctC B μ' (lv', 0, 0) [.ref a, b1] n M (poV r n)) (ha : kd a = ci) (hci : ci < 8) (hcn : ctR ci = μ'.1.cls) (hrest : (rest.map fun v => v.category).sum ≤ 8) (hp : pc + 3 = q) (K : ctV B μ (lv, 0, 0) post q L (rest) (0, 0) n r) : ctV B μ (lv, 0, 0) post pc L (b1 :: .ref a :: rest) (0, 0) n M := by
  subst hp
  refine ct_callV (As := [b1]) (rest := rest) hB hd hl rfl hR hC ha hci hcn hrest ⟨Nat.le_refl 0, Nat.le_refl 0⟩ rfl (fun v n' M' hq => ?_)
  obtain ⟨rfl, rfl, rfl⟩ := hq
  exact K
theorem ct_cSv1 {idx : Nat} {b1 : Value} {r : ctM} (hd : decode μ.2.1 pc = .ok (.invokestatic idx, 3)) (hl : ctLkS μ.1.cls idx μ' 1 ∨ ∃ host, ctLkSN μ.1.cls idx μ' 1 host) (hR : lv' + 1 ≤ lv) (hC : ctC B μ' (lv', 0, 0) [b1] n M (poV r n)) (hrest : (rest.map fun v => v.category).sum ≤ 8) (hp : pc + 3 = q) (K : ctV B μ (lv, 0, 0) post q L (rest) (0, 0) n r) : ctV B μ (lv, 0, 0) post pc L (b1 :: rest) (0, 0) n M := by
  subst hp
  refine ct_callS (As := [b1]) (rest := rest) hd hl rfl hR hC hrest ⟨Nat.le_refl 0, Nat.le_refl 0⟩ rfl (fun v n' M' hq => ?_)
  obtain ⟨rfl, rfl, rfl⟩ := hq
  exact K
theorem ct_cVp1 {idx ci a : Nat} {b1 : Value} {r : Option Nat × ctM} (hB : ctOk B kd ln n) (hd : decode μ.2.1 pc = .ok (.invokevirtual idx, 3)) (hl : ctLkV μ.1.cls idx μ' 1) (hR : lv' + 1 ≤ lv) (hC : ctC B μ' (lv', 0, 0) [.ref a, b1] n M (poP r n)) (ha : kd a = ci) (hci : ci < 8) (hcn : ctR ci = μ'.1.cls) (hrest : (rest.map fun v => v.category).sum ≤ 8) (hp : pc + 3 = q) (K1 : r.1 = none → ctV B μ (lv, 0, 0) post q L (.null :: rest) (0, 0) n r.2) (K2 : ∀ b, r.1 = some b → ctV B μ (lv, 0, 0) post q L (.ref b :: rest) (0, 0) n r.2) : ctV B μ (lv, 0, 0) post pc L (b1 :: .ref a :: rest) (0, 0) n M := by
  subst hp
  refine ct_callV (As := [b1]) (rest := rest) hB hd hl rfl hR hC ha hci hcn hrest ⟨Nat.le_refl 0, Nat.le_refl 0⟩ rfl (fun v n' M' hq => ?_)
  obtain ⟨rfl, rfl, rfl⟩ := hq
  cases hr : r.1 with
  | none => exact K1 hr
  | some b => exact K2 b hr
theorem ct_cVi2 {idx ci a : Nat} {b1 b2 : Value} {r : Int32 × ctM} (hB : ctOk B kd ln n) (hd : decode μ.2.1 pc = .ok (.invokevirtual idx, 3)) (hl : ctLkV μ.1.cls idx μ' 2) (hR : lv' + 1 ≤ lv) (hC : ctC B μ' (lv', 0, 0) [.ref a, b1, b2] n M (poI r n)) (ha : kd a = ci) (hci : ci < 8) (hcn : ctR ci = μ'.1.cls) (hrest : (rest.map fun v => v.category).sum ≤ 8) (hp : pc + 3 = q) (K : ctV B μ (lv, 0, 0) post q L (.int r.1 :: rest) (0, 0) n r.2) : ctV B μ (lv, 0, 0) post pc L (b2 :: b1 :: .ref a :: rest) (0, 0) n M := by
  subst hp
  refine ct_callV (As := [b1, b2]) (rest := rest) hB hd hl rfl hR hC ha hci hcn hrest ⟨Nat.le_refl 0, Nat.le_refl 0⟩ rfl (fun v n' M' hq => ?_)
  obtain ⟨rfl, rfl, rfl⟩ := hq
  exact K
theorem ct_cSi2 {idx : Nat} {b1 b2 : Value} {r : Int32 × ctM} (hd : decode μ.2.1 pc = .ok (.invokestatic idx, 3)) (hl : ctLkS μ.1.cls idx μ' 2 ∨ ∃ host, ctLkSN μ.1.cls idx μ' 2 host) (hR : lv' + 1 ≤ lv) (hC : ctC B μ' (lv', 0, 0) [b1, b2] n M (poI r n)) (hrest : (rest.map fun v => v.category).sum ≤ 8) (hp : pc + 3 = q) (K : ctV B μ (lv, 0, 0) post q L (.int r.1 :: rest) (0, 0) n r.2) : ctV B μ (lv, 0, 0) post pc L (b2 :: b1 :: rest) (0, 0) n M := by
  subst hp
  refine ct_callS (As := [b1, b2]) (rest := rest) hd hl rfl hR hC hrest ⟨Nat.le_refl 0, Nat.le_refl 0⟩ rfl (fun v n' M' hq => ?_)
  obtain ⟨rfl, rfl, rfl⟩ := hq
  exact K
theorem ct_cVv2 {idx ci a : Nat} {b1 b2 : Value} {r : ctM} (hB : ctOk B kd ln n) (hd : decode μ.2.1 pc = .ok (.invokevirtual idx, 3)) (hl : ctLkV μ.1.cls idx μ' 2) (hR : lv' + 1 ≤ lv) (hC : ctC B μ' (lv', 0, 0) [.ref a, b1, b2] n M (poV r n)) (ha : kd a = ci) (hci : ci < 8) (hcn : ctR ci = μ'.1.cls) (hrest : (rest.map fun v => v.category).sum ≤ 8) (hp : pc + 3 = q) (K : ctV B μ (lv, 0, 0) post q L (rest) (0, 0) n r) : ctV B μ (lv, 0, 0) post pc L (b2 :: b1 :: .ref a :: rest) (0, 0) n M := by
  subst hp
  refine ct_callV (As := [b1, b2]) (rest := rest) hB hd hl rfl hR hC ha hci hcn hrest ⟨Nat.le_refl 0, Nat.le_refl 0⟩ rfl (fun v n' M' hq => ?_)
  obtain ⟨rfl, rfl, rfl⟩ := hq
  exact K
theorem ct_cSv2 {idx : Nat} {b1 b2 : Value} {r : ctM} (hd : decode μ.2.1 pc = .ok (.invokestatic idx, 3)) (hl : ctLkS μ.1.cls idx μ' 2 ∨ ∃ host, ctLkSN μ.1.cls idx μ' 2 host) (hR : lv' + 1 ≤ lv) (hC : ctC B μ' (lv', 0, 0) [b1, b2] n M (poV r n)) (hrest : (rest.map fun v => v.category).sum ≤ 8) (hp : pc + 3 = q) (K : ctV B μ (lv, 0, 0) post q L (rest) (0, 0) n r) : ctV B μ (lv, 0, 0) post pc L (b2 :: b1 :: rest) (0, 0) n M := by
  subst hp
  refine ct_callS (As := [b1, b2]) (rest := rest) hd hl rfl hR hC hrest ⟨Nat.le_refl 0, Nat.le_refl 0⟩ rfl (fun v n' M' hq => ?_)
  obtain ⟨rfl, rfl, rfl⟩ := hq
  exact K
theorem ct_cVi3 {idx ci a : Nat} {b1 b2 b3 : Value} {r : Int32 × ctM} (hB : ctOk B kd ln n) (hd : decode μ.2.1 pc = .ok (.invokevirtual idx, 3)) (hl : ctLkV μ.1.cls idx μ' 3) (hR : lv' + 1 ≤ lv) (hC : ctC B μ' (lv', 0, 0) [.ref a, b1, b2, b3] n M (poI r n)) (ha : kd a = ci) (hci : ci < 8) (hcn : ctR ci = μ'.1.cls) (hrest : (rest.map fun v => v.category).sum ≤ 8) (hp : pc + 3 = q) (K : ctV B μ (lv, 0, 0) post q L (.int r.1 :: rest) (0, 0) n r.2) : ctV B μ (lv, 0, 0) post pc L (b3 :: b2 :: b1 :: .ref a :: rest) (0, 0) n M := by
  subst hp
  refine ct_callV (As := [b1, b2, b3]) (rest := rest) hB hd hl rfl hR hC ha hci hcn hrest ⟨Nat.le_refl 0, Nat.le_refl 0⟩ rfl (fun v n' M' hq => ?_)
  obtain ⟨rfl, rfl, rfl⟩ := hq
  exact K
theorem ct_cSi3 {idx : Nat} {b1 b2 b3 : Value} {r : Int32 × ctM} (hd : decode μ.2.1 pc = .ok (.invokestatic idx, 3)) (hl : ctLkS μ.1.cls idx μ' 3 ∨ ∃ host, ctLkSN μ.1.cls idx μ' 3 host) (hR : lv' + 1 ≤ lv) (hC : ctC B μ' (lv', 0, 0) [b1, b2, b3] n M (poI r n)) (hrest : (rest.map fun v => v.category).sum ≤ 8) (hp : pc + 3 = q) (K : ctV B μ (lv, 0, 0) post q L (.int r.1 :: rest) (0, 0) n r.2) : ctV B μ (lv, 0, 0) post pc L (b3 :: b2 :: b1 :: rest) (0, 0) n M := by
  subst hp
  refine ct_callS (As := [b1, b2, b3]) (rest := rest) hd hl rfl hR hC hrest ⟨Nat.le_refl 0, Nat.le_refl 0⟩ rfl (fun v n' M' hq => ?_)
  obtain ⟨rfl, rfl, rfl⟩ := hq
  exact K
theorem ct_cVv3 {idx ci a : Nat} {b1 b2 b3 : Value} {r : ctM} (hB : ctOk B kd ln n) (hd : decode μ.2.1 pc = .ok (.invokevirtual idx, 3)) (hl : ctLkV μ.1.cls idx μ' 3) (hR : lv' + 1 ≤ lv) (hC : ctC B μ' (lv', 0, 0) [.ref a, b1, b2, b3] n M (poV r n)) (ha : kd a = ci) (hci : ci < 8) (hcn : ctR ci = μ'.1.cls) (hrest : (rest.map fun v => v.category).sum ≤ 8) (hp : pc + 3 = q) (K : ctV B μ (lv, 0, 0) post q L (rest) (0, 0) n r) : ctV B μ (lv, 0, 0) post pc L (b3 :: b2 :: b1 :: .ref a :: rest) (0, 0) n M := by
  subst hp
  refine ct_callV (As := [b1, b2, b3]) (rest := rest) hB hd hl rfl hR hC ha hci hcn hrest ⟨Nat.le_refl 0, Nat.le_refl 0⟩ rfl (fun v n' M' hq => ?_)
  obtain ⟨rfl, rfl, rfl⟩ := hq
  exact K
theorem ct_cSv3 {idx : Nat} {b1 b2 b3 : Value} {r : ctM} (hd : decode μ.2.1 pc = .ok (.invokestatic idx, 3)) (hl : ctLkS μ.1.cls idx μ' 3 ∨ ∃ host, ctLkSN μ.1.cls idx μ' 3 host) (hR : lv' + 1 ≤ lv) (hC : ctC B μ' (lv', 0, 0) [b1, b2, b3] n M (poV r n)) (hrest : (rest.map fun v => v.category).sum ≤ 8) (hp : pc + 3 = q) (K : ctV B μ (lv, 0, 0) post q L (rest) (0, 0) n r) : ctV B μ (lv, 0, 0) post pc L (b3 :: b2 :: b1 :: rest) (0, 0) n M := by
  subst hp
  refine ct_callS (As := [b1, b2, b3]) (rest := rest) hd hl rfl hR hC hrest ⟨Nat.le_refl 0, Nat.le_refl 0⟩ rfl (fun v n' M' hq => ?_)
  obtain ⟨rfl, rfl, rfl⟩ := hq
  exact K
theorem ct_cVi4 {idx ci a : Nat} {b1 b2 b3 b4 : Value} {r : Int32 × ctM} (hB : ctOk B kd ln n) (hd : decode μ.2.1 pc = .ok (.invokevirtual idx, 3)) (hl : ctLkV μ.1.cls idx μ' 4) (hR : lv' + 1 ≤ lv) (hC : ctC B μ' (lv', 0, 0) [.ref a, b1, b2, b3, b4] n M (poI r n)) (ha : kd a = ci) (hci : ci < 8) (hcn : ctR ci = μ'.1.cls) (hrest : (rest.map fun v => v.category).sum ≤ 8) (hp : pc + 3 = q) (K : ctV B μ (lv, 0, 0) post q L (.int r.1 :: rest) (0, 0) n r.2) : ctV B μ (lv, 0, 0) post pc L (b4 :: b3 :: b2 :: b1 :: .ref a :: rest) (0, 0) n M := by
  subst hp
  refine ct_callV (As := [b1, b2, b3, b4]) (rest := rest) hB hd hl rfl hR hC ha hci hcn hrest ⟨Nat.le_refl 0, Nat.le_refl 0⟩ rfl (fun v n' M' hq => ?_)
  obtain ⟨rfl, rfl, rfl⟩ := hq
  exact K
theorem ct_cSi4 {idx : Nat} {b1 b2 b3 b4 : Value} {r : Int32 × ctM} (hd : decode μ.2.1 pc = .ok (.invokestatic idx, 3)) (hl : ctLkS μ.1.cls idx μ' 4 ∨ ∃ host, ctLkSN μ.1.cls idx μ' 4 host) (hR : lv' + 1 ≤ lv) (hC : ctC B μ' (lv', 0, 0) [b1, b2, b3, b4] n M (poI r n)) (hrest : (rest.map fun v => v.category).sum ≤ 8) (hp : pc + 3 = q) (K : ctV B μ (lv, 0, 0) post q L (.int r.1 :: rest) (0, 0) n r.2) : ctV B μ (lv, 0, 0) post pc L (b4 :: b3 :: b2 :: b1 :: rest) (0, 0) n M := by
  subst hp
  refine ct_callS (As := [b1, b2, b3, b4]) (rest := rest) hd hl rfl hR hC hrest ⟨Nat.le_refl 0, Nat.le_refl 0⟩ rfl (fun v n' M' hq => ?_)
  obtain ⟨rfl, rfl, rfl⟩ := hq
  exact K
theorem ct_cVv4 {idx ci a : Nat} {b1 b2 b3 b4 : Value} {r : ctM} (hB : ctOk B kd ln n) (hd : decode μ.2.1 pc = .ok (.invokevirtual idx, 3)) (hl : ctLkV μ.1.cls idx μ' 4) (hR : lv' + 1 ≤ lv) (hC : ctC B μ' (lv', 0, 0) [.ref a, b1, b2, b3, b4] n M (poV r n)) (ha : kd a = ci) (hci : ci < 8) (hcn : ctR ci = μ'.1.cls) (hrest : (rest.map fun v => v.category).sum ≤ 8) (hp : pc + 3 = q) (K : ctV B μ (lv, 0, 0) post q L (rest) (0, 0) n r) : ctV B μ (lv, 0, 0) post pc L (b4 :: b3 :: b2 :: b1 :: .ref a :: rest) (0, 0) n M := by
  subst hp
  refine ct_callV (As := [b1, b2, b3, b4]) (rest := rest) hB hd hl rfl hR hC ha hci hcn hrest ⟨Nat.le_refl 0, Nat.le_refl 0⟩ rfl (fun v n' M' hq => ?_)
  obtain ⟨rfl, rfl, rfl⟩ := hq
  exact K
theorem ct_cSv4 {idx : Nat} {b1 b2 b3 b4 : Value} {r : ctM} (hd : decode μ.2.1 pc = .ok (.invokestatic idx, 3)) (hl : ctLkS μ.1.cls idx μ' 4 ∨ ∃ host, ctLkSN μ.1.cls idx μ' 4 host) (hR : lv' + 1 ≤ lv) (hC : ctC B μ' (lv', 0, 0) [b1, b2, b3, b4] n M (poV r n)) (hrest : (rest.map fun v => v.category).sum ≤ 8) (hp : pc + 3 = q) (K : ctV B μ (lv, 0, 0) post q L (rest) (0, 0) n r) : ctV B μ (lv, 0, 0) post pc L (b4 :: b3 :: b2 :: b1 :: rest) (0, 0) n M := by
  subst hp
  refine ct_callS (As := [b1, b2, b3, b4]) (rest := rest) hd hl rfl hR hC hrest ⟨Nat.le_refl 0, Nat.le_refl 0⟩ rfl (fun v n' M' hq => ?_)
  obtain ⟨rfl, rfl, rfl⟩ := hq
  exact K
theorem ct_cVi5 {idx ci a : Nat} {b1 b2 b3 b4 b5 : Value} {r : Int32 × ctM} (hB : ctOk B kd ln n) (hd : decode μ.2.1 pc = .ok (.invokevirtual idx, 3)) (hl : ctLkV μ.1.cls idx μ' 5) (hR : lv' + 1 ≤ lv) (hC : ctC B μ' (lv', 0, 0) [.ref a, b1, b2, b3, b4, b5] n M (poI r n)) (ha : kd a = ci) (hci : ci < 8) (hcn : ctR ci = μ'.1.cls) (hrest : (rest.map fun v => v.category).sum ≤ 8) (hp : pc + 3 = q) (K : ctV B μ (lv, 0, 0) post q L (.int r.1 :: rest) (0, 0) n r.2) : ctV B μ (lv, 0, 0) post pc L (b5 :: b4 :: b3 :: b2 :: b1 :: .ref a :: rest) (0, 0) n M := by
  subst hp
  refine ct_callV (As := [b1, b2, b3, b4, b5]) (rest := rest) hB hd hl rfl hR hC ha hci hcn hrest ⟨Nat.le_refl 0, Nat.le_refl 0⟩ rfl (fun v n' M' hq => ?_)
  obtain ⟨rfl, rfl, rfl⟩ := hq
  exact K
theorem ct_cSi5 {idx : Nat} {b1 b2 b3 b4 b5 : Value} {r : Int32 × ctM} (hd : decode μ.2.1 pc = .ok (.invokestatic idx, 3)) (hl : ctLkS μ.1.cls idx μ' 5 ∨ ∃ host, ctLkSN μ.1.cls idx μ' 5 host) (hR : lv' + 1 ≤ lv) (hC : ctC B μ' (lv', 0, 0) [b1, b2, b3, b4, b5] n M (poI r n)) (hrest : (rest.map fun v => v.category).sum ≤ 8) (hp : pc + 3 = q) (K : ctV B μ (lv, 0, 0) post q L (.int r.1 :: rest) (0, 0) n r.2) : ctV B μ (lv, 0, 0) post pc L (b5 :: b4 :: b3 :: b2 :: b1 :: rest) (0, 0) n M := by
  subst hp
  refine ct_callS (As := [b1, b2, b3, b4, b5]) (rest := rest) hd hl rfl hR hC hrest ⟨Nat.le_refl 0, Nat.le_refl 0⟩ rfl (fun v n' M' hq => ?_)
  obtain ⟨rfl, rfl, rfl⟩ := hq
  exact K
theorem ct_cVv5 {idx ci a : Nat} {b1 b2 b3 b4 b5 : Value} {r : ctM} (hB : ctOk B kd ln n) (hd : decode μ.2.1 pc = .ok (.invokevirtual idx, 3)) (hl : ctLkV μ.1.cls idx μ' 5) (hR : lv' + 1 ≤ lv) (hC : ctC B μ' (lv', 0, 0) [.ref a, b1, b2, b3, b4, b5] n M (poV r n)) (ha : kd a = ci) (hci : ci < 8) (hcn : ctR ci = μ'.1.cls) (hrest : (rest.map fun v => v.category).sum ≤ 8) (hp : pc + 3 = q) (K : ctV B μ (lv, 0, 0) post q L (rest) (0, 0) n r) : ctV B μ (lv, 0, 0) post pc L (b5 :: b4 :: b3 :: b2 :: b1 :: .ref a :: rest) (0, 0) n M := by
  subst hp
  refine ct_callV (As := [b1, b2, b3, b4, b5]) (rest := rest) hB hd hl rfl hR hC ha hci hcn hrest ⟨Nat.le_refl 0, Nat.le_refl 0⟩ rfl (fun v n' M' hq => ?_)
  obtain ⟨rfl, rfl, rfl⟩ := hq
  exact K
theorem ct_cSv5 {idx : Nat} {b1 b2 b3 b4 b5 : Value} {r : ctM} (hd : decode μ.2.1 pc = .ok (.invokestatic idx, 3)) (hl : ctLkS μ.1.cls idx μ' 5 ∨ ∃ host, ctLkSN μ.1.cls idx μ' 5 host) (hR : lv' + 1 ≤ lv) (hC : ctC B μ' (lv', 0, 0) [b1, b2, b3, b4, b5] n M (poV r n)) (hrest : (rest.map fun v => v.category).sum ≤ 8) (hp : pc + 3 = q) (K : ctV B μ (lv, 0, 0) post q L (rest) (0, 0) n r) : ctV B μ (lv, 0, 0) post pc L (b5 :: b4 :: b3 :: b2 :: b1 :: rest) (0, 0) n M := by
  subst hp
  refine ct_callS (As := [b1, b2, b3, b4, b5]) (rest := rest) hd hl rfl hR hC hrest ⟨Nat.le_refl 0, Nat.le_refl 0⟩ rfl (fun v n' M' hq => ?_)
  obtain ⟨rfl, rfl, rfl⟩ := hq
  exact K
end
