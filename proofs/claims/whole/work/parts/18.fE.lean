def fX7_findSteps_b160 (k75 : Nat → Int32 → Int32 → Int32 → ctM → Option (Int32 × ctM)) (a0 : Nat) (x1 : Int32) (x2 : Int32) (x3 : Int32) (M : ctM) : Option (Int32 × ctM) :=
  k75 a0 x1 x2 (x3 + 1) M

set_option maxHeartbeats 4000000 in
set_option maxRecDepth 20000 in
theorem vX7_findSteps_b160 {B : ctB} {n : Nat} (hB : ctOk B kdM lnM n) {k75 : Nat → Int32 → Int32 → Int32 → ctM → Option (Int32 × ctM)} (hk75 : ∀ (a0 : Nat) (x1 : Int32) (x2 : Int32) (x3 : Int32) (M : ctM) (r : Int32 × ctM), k75 a0 x1 x2 x3 M = some r → ctV B mX7_findSteps (3, 0, 0) (poI r n) 75 [some (.ref a0), some (.int x1), some (.int x2), some (.int x3), none] [] (0, 0) n M) : ∀ (a0 : Nat) (x1 : Int32) (x2 : Int32) (x3 : Int32) (M : ctM) (r : Int32 × ctM), fX7_findSteps_b160 k75 a0 x1 x2 x3 M = some r → ctV B mX7_findSteps (3, 0, 0) (poI r n) 160 [some (.ref a0), some (.int x1), some (.int x2), some (.int x3), none] [] (0, 0) n M := by
  intro a0 x1 x2 x3 M r h
  unfold fX7_findSteps_b160 at h
  refine ct_iinc_3 (q := 163) (v := x3 + 1) dX7_findSteps_160 (by first | rfl | decide) (by decide) rfl rfl ?_
  refine ct_goto (q := 75) dX7_findSteps_163 (by decide) ?_
  exact ct_lessK (hk75 a0 x1 x2 (x3 + 1) M r h) (And.intro rfl (And.intro rfl (And.intro rfl (And.intro rfl (trivial)))))

def fX7_findSteps_b156 (k75 : Nat → Int32 → Int32 → Int32 → ctM → Option (Int32 × ctM)) (a0 : Nat) (x1 : Int32) (x2 : Int32) (x3 : Int32) (as0 : Nat) (xs1 : Int32) (xs2 : Int32) (M : ctM) : Option (Int32 × ctM) :=
  (pI kdM 7 15 as0 (xs1 + xs2) M).bind fun M21 =>
  fX7_findSteps_b160 k75 a0 x1 x2 x3 M21

set_option maxHeartbeats 4000000 in
set_option maxRecDepth 20000 in
theorem vX7_findSteps_b156 {B : ctB} {n : Nat} (hB : ctOk B kdM lnM n) {k75 : Nat → Int32 → Int32 → Int32 → ctM → Option (Int32 × ctM)} (hk75 : ∀ (a0 : Nat) (x1 : Int32) (x2 : Int32) (x3 : Int32) (M : ctM) (r : Int32 × ctM), k75 a0 x1 x2 x3 M = some r → ctV B mX7_findSteps (3, 0, 0) (poI r n) 75 [some (.ref a0), some (.int x1), some (.int x2), some (.int x3), none] [] (0, 0) n M) : ∀ (a0 : Nat) (x1 : Int32) (x2 : Int32) (x3 : Int32) (as0 : Nat) (xs1 : Int32) (xs2 : Int32) (M : ctM) (r : Int32 × ctM), fX7_findSteps_b156 k75 a0 x1 x2 x3 as0 xs1 xs2 M = some r → ctV B mX7_findSteps (3, 0, 0) (poI r n) 156 [some (.ref a0), some (.int x1), some (.int x2), some (.int x3), none] [.int xs2, .int xs1, .ref as0] (0, 0) n M := by
  intro a0 x1 x2 x3 as0 xs1 xs2 M r h
  unfold fX7_findSteps_b156 at h
  refine ct_iadd (q := 157) dX7_findSteps_156 rfl ?_
  obtain ⟨M21, gM21, h⟩ := ob h
  refine ct_putI (q := 160) hB dX7_findSteps_157 fl_RX7_174 rfl rfl (Or.inl rfl) gM21 rfl ?_
  exact ct_lessK (vX7_findSteps_b160 hB hk75 a0 x1 x2 x3 M21 r h) (And.intro rfl (And.intro rfl (And.intro rfl (And.intro rfl (trivial)))))

def fX7_findSteps_b137 (k75 : Nat → Int32 → Int32 → Int32 → ctM → Option (Int32 × ctM)) (a0 : Nat) (x1 : Int32) (x2 : Int32) (x3 : Int32) (x4 : Int32) (as0 : Nat) (xs1 : Int32) (M : ctM) : Option (Int32 × ctM) :=
  (pI kdM 7 14 as0 xs1 M).bind fun M21 =>
  (gI kdM 7 15 a0 M21).bind fun x22 =>
  if x4 ≤ x1 then
    fX7_findSteps_b156 k75 a0 x1 x2 x3 a0 x22 0 M21
  else
    fX7_findSteps_b156 k75 a0 x1 x2 x3 a0 x22 1 M21

set_option maxHeartbeats 4000000 in
set_option maxRecDepth 20000 in
theorem vX7_findSteps_b137 {B : ctB} {n : Nat} (hB : ctOk B kdM lnM n) {k75 : Nat → Int32 → Int32 → Int32 → ctM → Option (Int32 × ctM)} (hk75 : ∀ (a0 : Nat) (x1 : Int32) (x2 : Int32) (x3 : Int32) (M : ctM) (r : Int32 × ctM), k75 a0 x1 x2 x3 M = some r → ctV B mX7_findSteps (3, 0, 0) (poI r n) 75 [some (.ref a0), some (.int x1), some (.int x2), some (.int x3), none] [] (0, 0) n M) : ∀ (a0 : Nat) (x1 : Int32) (x2 : Int32) (x3 : Int32) (x4 : Int32) (as0 : Nat) (xs1 : Int32) (M : ctM) (r : Int32 × ctM), fX7_findSteps_b137 k75 a0 x1 x2 x3 x4 as0 xs1 M = some r → ctV B mX7_findSteps (3, 0, 0) (poI r n) 137 [some (.ref a0), some (.int x1), some (.int x2), some (.int x3), some (.int x4)] [.int xs1, .ref as0] (0, 0) n M := by
  intro a0 x1 x2 x3 x4 as0 xs1 M r h
  unfold fX7_findSteps_b137 at h
  obtain ⟨M21, gM21, h⟩ := ob h
  refine ct_putI (q := 140) hB dX7_findSteps_137 fl_RX7_170 rfl rfl (Or.inl rfl) gM21 rfl ?_
  refine ct_aload_0 (q := 141) dX7_findSteps_140 rfl ?_
  refine ct_dup (q := 142) dX7_findSteps_141 rfl rfl ?_
  obtain ⟨x22, gx22, h⟩ := ob h
  refine ct_getI (q := 145) hB dX7_findSteps_142 fl_RX7_174 rfl gx22 rfl ?_
  refine ct_iload_4 (q := 147) dX7_findSteps_145 rfl ?_
  refine ct_iload_1 (q := 148) dX7_findSteps_147 rfl ?_
  refine ct_icmp_le (q := 151) (tgt := 155) dX7_findSteps_148 (by decide) rfl (fun z23 => ?_) (fun z23 => ?_)
  · replace h := it_t h z23
    refine ct_iconst (v := 0) (q := 156) dX7_findSteps_155 (by decide) rfl ?_
    exact ct_lessK (vX7_findSteps_b156 hB hk75 a0 x1 x2 x3 a0 x22 0 M21 r h) (And.intro rfl (And.intro rfl (And.intro rfl (And.intro rfl (trivial)))))
  · replace h := it_f h z23
    refine ct_iconst (v := 1) (q := 152) dX7_findSteps_151 (by decide) rfl ?_
    refine ct_goto (q := 156) dX7_findSteps_152 (by decide) ?_
    exact ct_lessK (vX7_findSteps_b156 hB hk75 a0 x1 x2 x3 a0 x22 1 M21 r h) (And.intro rfl (And.intro rfl (And.intro rfl (And.intro rfl (trivial)))))

def fX7_findSteps_h97 (k75 : Nat → Int32 → Int32 → Int32 → ctM → Option (Int32 × ctM)) : Nat → Nat → Int32 → Int32 → Int32 → Int32 → ctM → Option (Int32 × ctM)
  | 0, _, _, _, _, _, _ => none
  | N + 1, a0, x1, x2, x3, x4, M =>
    (gP kdM 7 13 a0 M).bind fun a21 =>
    (aI kdM lnM 10 a21 ((x3 + x4) % 120) M).bind fun x22 =>
    if x22 = 0 then
      fX7_findSteps_h97 k75 N a0 x1 x2 x3 (x4 + 1) M
    else
      (gI kdM 7 14 a0 M).bind fun x24 =>
      if x4 ≤ x24 then
        (gI kdM 7 14 a0 M).bind fun x26 =>
        fX7_findSteps_b137 k75 a0 x1 x2 x3 x4 a0 x26 M
      else
        fX7_findSteps_b137 k75 a0 x1 x2 x3 x4 a0 x4 M

set_option maxHeartbeats 4000000 in
set_option maxRecDepth 20000 in
theorem vX7_findSteps_h97 {B : ctB} {n : Nat} (hB : ctOk B kdM lnM n) {k75 : Nat → Int32 → Int32 → Int32 → ctM → Option (Int32 × ctM)} (hk75 : ∀ (a0 : Nat) (x1 : Int32) (x2 : Int32) (x3 : Int32) (M : ctM) (r : Int32 × ctM), k75 a0 x1 x2 x3 M = some r → ctV B mX7_findSteps (3, 0, 0) (poI r n) 75 [some (.ref a0), some (.int x1), some (.int x2), some (.int x3), none] [] (0, 0) n M) : ∀ (N : Nat) (a0 : Nat) (x1 : Int32) (x2 : Int32) (x3 : Int32) (x4 : Int32) (M : ctM) (r : Int32 × ctM), fX7_findSteps_h97 k75 N a0 x1 x2 x3 x4 M = some r → ctV B mX7_findSteps (3, 0, 0) (poI r n) 97 [some (.ref a0), some (.int x1), some (.int x2), some (.int x3), some (.int x4)] [] (0, 0) n M := by
  intro N
  induction N with
  | zero => intro a0 x1 x2 x3 x4 M r h; exact absurd h (by simp [fX7_findSteps_h97])
  | succ N ih =>
    intro a0 x1 x2 x3 x4 M r h
    rw [fX7_findSteps_h97] at h
    refine ct_aload_0 (q := 98) dX7_findSteps_97 rfl ?_
    obtain ⟨a21, ga21, h⟩ := ob h
    refine ct_getP (q := 101) hB dX7_findSteps_98 fl_RX7_46 rfl ga21 rfl ?_
    refine ct_iload_3 (q := 102) dX7_findSteps_101 rfl ?_
    refine ct_iload_4 (q := 104) dX7_findSteps_102 rfl ?_
    refine ct_iadd (q := 105) dX7_findSteps_104 rfl ?_
    refine ct_bipush (v := 120) (q := 107) dX7_findSteps_105 (by decide) rfl ?_
    refine ct_irem (q := 108) dX7_findSteps_107 (by decide) rfl ?_
    obtain ⟨x22, gx22, h⟩ := ob h
    refine ct_zald (q := 109) hB dX7_findSteps_108 gx22 rfl ?_
    refine ct_if_ne (q := 112) (tgt := 118) dX7_findSteps_109 (by decide) rfl (fun z23 => ?_) (fun z23 => ?_)
    · replace h := it_f h z23
      refine ct_aload_0 (q := 119) dX7_findSteps_118 rfl ?_
      refine ct_iload_4 (q := 121) dX7_findSteps_119 rfl ?_
      refine ct_aload_0 (q := 122) dX7_findSteps_121 rfl ?_
      obtain ⟨x24, gx24, h⟩ := ob h
      refine ct_getI (q := 125) hB dX7_findSteps_122 fl_RX7_170 rfl gx24 rfl ?_
      refine ct_icmp_le (q := 128) (tgt := 133) dX7_findSteps_125 (by decide) rfl (fun z25 => ?_) (fun z25 => ?_)
      · replace h := it_t h z25
        refine ct_aload_0 (q := 134) dX7_findSteps_133 rfl ?_
        obtain ⟨x26, gx26, h⟩ := ob h
        refine ct_getI (q := 137) hB dX7_findSteps_134 fl_RX7_170 rfl gx26 rfl ?_
        exact ct_lessK (vX7_findSteps_b137 hB hk75 a0 x1 x2 x3 x4 a0 x26 M r h) (And.intro rfl (And.intro rfl (And.intro rfl (And.intro rfl (And.intro rfl (trivial))))))
      · replace h := it_f h z25
        refine ct_iload_4 (q := 130) dX7_findSteps_128 rfl ?_
        refine ct_goto (q := 137) dX7_findSteps_130 (by decide) ?_
        exact ct_lessK (vX7_findSteps_b137 hB hk75 a0 x1 x2 x3 x4 a0 x4 M r h) (And.intro rfl (And.intro rfl (And.intro rfl (And.intro rfl (And.intro rfl (trivial))))))
    · replace h := it_t h z23
      refine ct_iinc_4 (q := 115) (v := x4 + 1) dX7_findSteps_112 (by first | rfl | decide) (by decide) rfl rfl ?_
      refine ct_goto (q := 97) dX7_findSteps_115 (by decide) ?_
      exact ct_lessK (ih a0 x1 x2 x3 (x4 + 1) M r h) (And.intro rfl (And.intro rfl (And.intro rfl (And.intro rfl (And.intro rfl (trivial))))))

def fX7_findSteps_h75 : Nat → Nat → Int32 → Int32 → Int32 → ctM → Option (Int32 × ctM)
  | 0, _, _, _, _, _ => none
  | N + 1, a0, x1, x2, x3, M =>
    if 120 ≤ x3 then
      if x2 = 0 ∨ x2 = 1 then some (x2, M) else none
    else
      if x2 = 0 then
        if x2 = 0 ∨ x2 = 1 then some (x2, M) else none
      else
        (gP kdM 7 13 a0 M).bind fun a25 =>
        (aI kdM lnM 10 a25 x3 M).bind fun x26 =>
        if x26 = 0 then
          fX7_findSteps_b160 (fX7_findSteps_h75 N) a0 x1 x2 x3 M
        else
          fX7_findSteps_h97 (fX7_findSteps_h75 N) 4000 a0 x1 x2 x3 1 M

set_option maxHeartbeats 4000000 in
set_option maxRecDepth 20000 in
theorem vX7_findSteps_h75 {B : ctB} {n : Nat} (hB : ctOk B kdM lnM n) : ∀ (N : Nat) (a0 : Nat) (x1 : Int32) (x2 : Int32) (x3 : Int32) (M : ctM) (r : Int32 × ctM), fX7_findSteps_h75 N a0 x1 x2 x3 M = some r → ctV B mX7_findSteps (3, 0, 0) (poI r n) 75 [some (.ref a0), some (.int x1), some (.int x2), some (.int x3), none] [] (0, 0) n M := by
  intro N
  induction N with
  | zero => intro a0 x1 x2 x3 M r h; exact absurd h (by simp [fX7_findSteps_h75])
  | succ N ih =>
    intro a0 x1 x2 x3 M r h
    rw [fX7_findSteps_h75] at h
    refine ct_iload_3 (q := 76) dX7_findSteps_75 rfl ?_
    refine ct_bipush (v := 120) (q := 78) dX7_findSteps_76 (by decide) rfl ?_
    refine ct_icmp_ge (q := 81) (tgt := 166) dX7_findSteps_78 (by decide) rfl (fun z21 => ?_) (fun z21 => ?_)
    · replace h := it_t h z21
      refine ct_iload_2 (q := 167) dX7_findSteps_166 rfl ?_
      by_cases z22 : x2 = 0 ∨ x2 = 1
      · exact ct_zret dX7_findSteps_167 rfl z22 ⟨Nat.le_refl 0, Nat.le_refl 0⟩ (poI_of (it_t h z22))
      · exact absurd (it_f h z22) (by simp)
    · replace h := it_f h z21
      refine ct_iload_2 (q := 82) dX7_findSteps_81 rfl ?_
      refine ct_if_eq (q := 85) (tgt := 166) dX7_findSteps_82 (by decide) rfl (fun z23 => ?_) (fun z23 => ?_)
      · replace h := it_t h z23
        refine ct_iload_2 (q := 167) dX7_findSteps_166 rfl ?_
        by_cases z24 : x2 = 0 ∨ x2 = 1
        · exact ct_zret dX7_findSteps_167 rfl z24 ⟨Nat.le_refl 0, Nat.le_refl 0⟩ (poI_of (it_t h z24))
        · exact absurd (it_f h z24) (by simp)
      · replace h := it_f h z23
        refine ct_aload_0 (q := 86) dX7_findSteps_85 rfl ?_
        obtain ⟨a25, ga25, h⟩ := ob h
        refine ct_getP (q := 89) hB dX7_findSteps_86 fl_RX7_46 rfl ga25 rfl ?_
        refine ct_iload_3 (q := 90) dX7_findSteps_89 rfl ?_
        obtain ⟨x26, gx26, h⟩ := ob h
        refine ct_zald (q := 91) hB dX7_findSteps_90 gx26 rfl ?_
        refine ct_if_eq (q := 94) (tgt := 160) dX7_findSteps_91 (by decide) rfl (fun z27 => ?_) (fun z27 => ?_)
        · replace h := it_t h z27
          exact ct_lessK (vX7_findSteps_b160 hB ih a0 x1 x2 x3 M r h) (And.intro rfl (And.intro rfl (And.intro rfl (And.intro rfl (trivial)))))
        · replace h := it_f h z27
          refine ct_iconst (v := 1) (q := 95) dX7_findSteps_94 (by decide) rfl ?_
          refine ct_istore_4 (q := 97) dX7_findSteps_95 (by decide) rfl rfl ?_
          exact ct_lessK (vX7_findSteps_h97 hB ih 4000 a0 x1 x2 x3 1 M r h) (And.intro rfl (And.intro rfl (And.intro rfl (And.intro rfl (And.intro rfl (trivial))))))

def fX7_findSteps_b57 (k25 : Nat → Int32 → Int32 → Int32 → ctM → Option (Int32 × ctM)) (a0 : Nat) (x1 : Int32) (x2 : Int32) (x3 : Int32) (M : ctM) : Option (Int32 × ctM) :=
  k25 a0 x1 x2 (x3 + 1) M

set_option maxHeartbeats 4000000 in
set_option maxRecDepth 20000 in
theorem vX7_findSteps_b57 {B : ctB} {n : Nat} (hB : ctOk B kdM lnM n) {k25 : Nat → Int32 → Int32 → Int32 → ctM → Option (Int32 × ctM)} (hk25 : ∀ (a0 : Nat) (x1 : Int32) (x2 : Int32) (x3 : Int32) (M : ctM) (r : Int32 × ctM), k25 a0 x1 x2 x3 M = some r → ctV B mX7_findSteps (3, 0, 0) (poI r n) 25 [some (.ref a0), some (.int x1), some (.int x2), some (.int x3), none] [] (0, 0) n M) : ∀ (a0 : Nat) (x1 : Int32) (x2 : Int32) (x3 : Int32) (M : ctM) (r : Int32 × ctM), fX7_findSteps_b57 k25 a0 x1 x2 x3 M = some r → ctV B mX7_findSteps (3, 0, 0) (poI r n) 57 [some (.ref a0), some (.int x1), some (.int x2), some (.int x3), none] [] (0, 0) n M := by
  intro a0 x1 x2 x3 M r h
  unfold fX7_findSteps_b57 at h
  refine ct_iinc_3 (q := 60) (v := x3 + 1) dX7_findSteps_57 (by first | rfl | decide) (by decide) rfl rfl ?_
  refine ct_goto (q := 25) dX7_findSteps_60 (by decide) ?_
  exact ct_lessK (hk25 a0 x1 x2 (x3 + 1) M r h) (And.intro rfl (And.intro rfl (And.intro rfl (And.intro rfl (trivial)))))

def fX7_findSteps_h25 : Nat → Nat → Int32 → Int32 → Int32 → ctM → Option (Int32 × ctM)
  | 0, _, _, _, _, _ => none
  | N + 1, a0, x1, x2, x3, M =>
    (gP kdM 7 0 a0 M).bind fun a21 =>
    (aI kdM lnM 9 a21 0 M).bind fun x22 =>
    if x22 ≤ x3 then
      (pI kdM 7 14 a0 0 M).bind fun M24 =>
      (pI kdM 7 15 a0 0 M24).bind fun M25 =>
      fX7_findSteps_h75 4000 a0 x1 x2 0 M25
    else
      (cV kdM 7 a0 (fX7_isLit a0 x3 M)).bind fun r26 =>
      if r26.1 = 0 then
        fX7_findSteps_b57 (fX7_findSteps_h25 N) a0 x1 x2 x3 r26.2
      else
        (gP kdM 7 13 a0 r26.2).bind fun a28 =>
        (cV kdM 7 a0 (fX7_of a0 x3 4 r26.2)).bind fun r29 =>
        (sI kdM lnM 10 a28 r29.1 1 r29.2).bind fun M30 =>
        fX7_findSteps_b57 (fX7_findSteps_h25 N) a0 x1 1 x3 M30

set_option maxHeartbeats 4000000 in
set_option maxRecDepth 20000 in
theorem vX7_findSteps_h25 {B : ctB} {n : Nat} (hB : ctOk B kdM lnM n) : ∀ (N : Nat) (a0 : Nat) (x1 : Int32) (x2 : Int32) (x3 : Int32) (M : ctM) (r : Int32 × ctM), fX7_findSteps_h25 N a0 x1 x2 x3 M = some r → ctV B mX7_findSteps (3, 0, 0) (poI r n) 25 [some (.ref a0), some (.int x1), some (.int x2), some (.int x3), none] [] (0, 0) n M := by
  intro N
  induction N with
  | zero => intro a0 x1 x2 x3 M r h; exact absurd h (by simp [fX7_findSteps_h25])
  | succ N ih =>
    intro a0 x1 x2 x3 M r h
    rw [fX7_findSteps_h25] at h
    refine ct_iload_3 (q := 26) dX7_findSteps_25 rfl ?_
    refine ct_aload_0 (q := 27) dX7_findSteps_26 rfl ?_
    obtain ⟨a21, ga21, h⟩ := ob h
    refine ct_getP (q := 30) hB dX7_findSteps_27 fl_RX7_7 rfl ga21 rfl ?_
    refine ct_iconst (v := 0) (q := 31) dX7_findSteps_30 (by decide) rfl ?_
    obtain ⟨x22, gx22, h⟩ := ob h
    refine ct_iald (q := 32) hB dX7_findSteps_31 gx22 rfl ?_
    refine ct_icmp_ge (q := 35) (tgt := 63) dX7_findSteps_32 (by decide) rfl (fun z23 => ?_) (fun z23 => ?_)
    · replace h := it_t h z23
      refine ct_aload_0 (q := 64) dX7_findSteps_63 rfl ?_
      refine ct_iconst (v := 0) (q := 65) dX7_findSteps_64 (by decide) rfl ?_
      obtain ⟨M24, gM24, h⟩ := ob h
      refine ct_putI (q := 68) hB dX7_findSteps_65 fl_RX7_170 rfl rfl (Or.inl rfl) gM24 rfl ?_
      refine ct_aload_0 (q := 69) dX7_findSteps_68 rfl ?_
      refine ct_iconst (v := 0) (q := 70) dX7_findSteps_69 (by decide) rfl ?_
      obtain ⟨M25, gM25, h⟩ := ob h
      refine ct_putI (q := 73) hB dX7_findSteps_70 fl_RX7_174 rfl rfl (Or.inl rfl) gM25 rfl ?_
      refine ct_iconst (v := 0) (q := 74) dX7_findSteps_73 (by decide) rfl ?_
      refine ct_istore_3 (q := 75) dX7_findSteps_74 (by decide) rfl rfl ?_
      exact ct_lessK (vX7_findSteps_h75 hB  4000 a0 x1 x2 0 M25 r h) (And.intro rfl (And.intro rfl (And.intro rfl (And.intro rfl (trivial)))))
    · replace h := it_f h z23
      refine ct_aload_0 (q := 36) dX7_findSteps_35 rfl ?_
      refine ct_iload_3 (q := 37) dX7_findSteps_36 rfl ?_
      obtain ⟨r26, gr26, h⟩ := ob h
      obtain ⟨er26, gr26⟩ := cV_spec gr26
      refine ct_cVi1 (q := 40) hB dX7_findSteps_37 lk_RX7_109 (by decide) (ctX7_isLit hB gr26) er26 (by decide) rfl (Nat.le_of_ble_eq_true rfl) rfl ?_
      refine ct_if_eq (q := 43) (tgt := 57) dX7_findSteps_40 (by decide) rfl (fun z27 => ?_) (fun z27 => ?_)
      · replace h := it_t h z27
        exact ct_lessK (vX7_findSteps_b57 hB ih a0 x1 x2 x3 r26.2 r h) (And.intro rfl (And.intro rfl (And.intro rfl (And.intro rfl (trivial)))))
      · replace h := it_f h z27
        refine ct_aload_0 (q := 44) dX7_findSteps_43 rfl ?_
        obtain ⟨a28, ga28, h⟩ := ob h
        refine ct_getP (q := 47) hB dX7_findSteps_44 fl_RX7_46 rfl ga28 rfl ?_
        refine ct_aload_0 (q := 48) dX7_findSteps_47 rfl ?_
        refine ct_iload_3 (q := 49) dX7_findSteps_48 rfl ?_
        refine ct_iconst (v := 4) (q := 50) dX7_findSteps_49 (by decide) rfl ?_
        obtain ⟨r29, gr29, h⟩ := ob h
        obtain ⟨er29, gr29⟩ := cV_spec gr29
        refine ct_cVi2 (q := 53) hB dX7_findSteps_50 lk_RX7_80 (by decide) (ctX7_of hB gr29) er29 (by decide) rfl (Nat.le_of_ble_eq_true rfl) rfl ?_
        refine ct_iconst (v := 1) (q := 54) dX7_findSteps_53 (by decide) rfl ?_
        obtain ⟨M30, gM30, h⟩ := ob h
        refine ct_zast (q := 55) hB dX7_findSteps_54 rfl gM30 rfl ?_
        refine ct_iconst (v := 1) (q := 56) dX7_findSteps_55 (by decide) rfl ?_
        refine ct_istore_2 (q := 57) dX7_findSteps_56 (by decide) rfl rfl ?_
        exact ct_lessK (vX7_findSteps_b57 hB ih a0 x1 1 x3 M30 r h) (And.intro rfl (And.intro rfl (And.intro rfl (And.intro rfl (trivial)))))

def fX7_findSteps_h2 : Nat → Nat → Int32 → Int32 → ctM → Option (Int32 × ctM)
  | 0, _, _, _, _ => none
  | N + 1, a0, x1, x2, M =>
    if 120 ≤ x2 then
      fX7_findSteps_h25 4000 a0 x1 0 0 M
    else
      (gP kdM 7 13 a0 M).bind fun a22 =>
      (sI kdM lnM 10 a22 x2 0 M).bind fun M23 =>
      fX7_findSteps_h2 N a0 x1 (x2 + 1) M23

set_option maxHeartbeats 4000000 in
set_option maxRecDepth 20000 in
theorem vX7_findSteps_h2 {B : ctB} {n : Nat} (hB : ctOk B kdM lnM n) : ∀ (N : Nat) (a0 : Nat) (x1 : Int32) (x2 : Int32) (M : ctM) (r : Int32 × ctM), fX7_findSteps_h2 N a0 x1 x2 M = some r → ctV B mX7_findSteps (3, 0, 0) (poI r n) 2 [some (.ref a0), some (.int x1), some (.int x2), none, none] [] (0, 0) n M := by
  intro N
  induction N with
  | zero => intro a0 x1 x2 M r h; exact absurd h (by simp [fX7_findSteps_h2])
  | succ N ih =>
    intro a0 x1 x2 M r h
    rw [fX7_findSteps_h2] at h
    refine ct_iload_2 (q := 3) dX7_findSteps_2 rfl ?_
    refine ct_bipush (v := 120) (q := 5) dX7_findSteps_3 (by decide) rfl ?_
    refine ct_icmp_ge (q := 8) (tgt := 21) dX7_findSteps_5 (by decide) rfl (fun z21 => ?_) (fun z21 => ?_)
    · replace h := it_t h z21
      refine ct_iconst (v := 0) (q := 22) dX7_findSteps_21 (by decide) rfl ?_
      refine ct_istore_2 (q := 23) dX7_findSteps_22 (by decide) rfl rfl ?_
      refine ct_iconst (v := 0) (q := 24) dX7_findSteps_23 (by decide) rfl ?_
      refine ct_istore_3 (q := 25) dX7_findSteps_24 (by decide) rfl rfl ?_
      exact ct_lessK (vX7_findSteps_h25 hB  4000 a0 x1 0 0 M r h) (And.intro rfl (And.intro rfl (And.intro rfl (And.intro rfl (trivial)))))
    · replace h := it_f h z21
      refine ct_aload_0 (q := 9) dX7_findSteps_8 rfl ?_
      obtain ⟨a22, ga22, h⟩ := ob h
      refine ct_getP (q := 12) hB dX7_findSteps_9 fl_RX7_46 rfl ga22 rfl ?_
      refine ct_iload_2 (q := 13) dX7_findSteps_12 rfl ?_
      refine ct_iconst (v := 0) (q := 14) dX7_findSteps_13 (by decide) rfl ?_
      obtain ⟨M23, gM23, h⟩ := ob h
      refine ct_zast (q := 15) hB dX7_findSteps_14 rfl gM23 rfl ?_
      refine ct_iinc_2 (q := 18) (v := x2 + 1) dX7_findSteps_15 (by first | rfl | decide) (by decide) rfl rfl ?_
      refine ct_goto (q := 2) dX7_findSteps_18 (by decide) ?_
      exact ct_lessK (ih a0 x1 (x2 + 1) M23 r h) (And.intro rfl (And.intro rfl (And.intro rfl (trivial))))

def fX7_findSteps (a0 : Nat) (x1 : Int32) (M : ctM) : Option (Int32 × ctM) :=
  fX7_findSteps_h2 4000 a0 x1 0 M

set_option maxHeartbeats 4000000 in
set_option maxRecDepth 20000 in
theorem ctX7_findSteps {B : ctB} {n : Nat} (hB : ctOk B kdM lnM n) {a0 : Nat} {x1 : Int32} {M : ctM} {r : Int32 × ctM} (h : fX7_findSteps a0 x1 M = some r) : ctC B mX7_findSteps (3, 0, 0) [.ref a0, .int x1] n M (poI r n) := by
  refine ctC_of (by decide) (Nat.le_of_ble_eq_true rfl) ?_
  show ctV B mX7_findSteps (3, 0, 0) (poI r n) 0 [some (.ref a0), some (.int x1), none, none, none] [] (0, 0) n M
  unfold fX7_findSteps at h
  refine ct_iconst (v := 0) (q := 1) dX7_findSteps_0 (by decide) rfl ?_
  refine ct_istore_2 (q := 2) dX7_findSteps_1 (by decide) rfl rfl ?_
  exact ct_lessK (vX7_findSteps_h2 hB  4000 a0 x1 0 M r h) (And.intro rfl (And.intro rfl (And.intro rfl (trivial))))

def fX7_spreadNow (a0 : Nat) (M : ctM) : Option (Int32 × ctM) :=
  (cV kdM 7 a0 (fX7_findSteps a0 0 M)).bind fun r21 =>
  if r21.1 = 0 then
    some ((-1), r21.2)
  else
    (gI kdM 7 14 a0 r21.2).bind fun x23 =>
    some ((120 - x23), r21.2)

set_option maxHeartbeats 4000000 in
set_option maxRecDepth 20000 in
theorem ctX7_spreadNow {B : ctB} {n : Nat} (hB : ctOk B kdM lnM n) {a0 : Nat} {M : ctM} {r : Int32 × ctM} (h : fX7_spreadNow a0 M = some r) : ctC B mX7_spreadNow (4, 0, 0) [.ref a0] n M (poI r n) := by
  refine ctC_of (by decide) (Nat.le_of_ble_eq_true rfl) ?_
  show ctV B mX7_spreadNow (4, 0, 0) (poI r n) 0 [some (.ref a0)] [] (0, 0) n M
  unfold fX7_spreadNow at h
  refine ct_aload_0 (q := 1) dX7_spreadNow_0 rfl ?_
  refine ct_iconst (v := 0) (q := 2) dX7_spreadNow_1 (by decide) rfl ?_
  obtain ⟨r21, gr21, h⟩ := ob h
  obtain ⟨er21, gr21⟩ := cV_spec gr21
  refine ct_cVi1 (q := 5) hB dX7_spreadNow_2 lk_RX7_177 (by decide) (ctX7_findSteps hB gr21) er21 (by decide) rfl (Nat.le_of_ble_eq_true rfl) rfl ?_
  refine ct_if_eq (q := 8) (tgt := 18) dX7_spreadNow_5 (by decide) rfl (fun z22 => ?_) (fun z22 => ?_)
  · replace h := it_t h z22
    refine ct_iconst (v := -1) (q := 19) dX7_spreadNow_18 (by decide) rfl ?_
    exact ct_iret dX7_spreadNow_19 rfl ⟨Nat.le_refl 0, Nat.le_refl 0⟩ (poI_of h)
  · replace h := it_f h z22
    refine ct_bipush (v := 120) (q := 10) dX7_spreadNow_8 (by decide) rfl ?_
    refine ct_aload_0 (q := 11) dX7_spreadNow_10 rfl ?_
    obtain ⟨x23, gx23, h⟩ := ob h
    refine ct_getI (q := 14) hB dX7_spreadNow_11 fl_RX7_170 rfl gx23 rfl ?_
    refine ct_isub (q := 15) dX7_spreadNow_14 rfl ?_
    refine ct_goto (q := 19) dX7_spreadNow_15 (by decide) ?_
    exact ct_iret dX7_spreadNow_19 rfl ⟨Nat.le_refl 0, Nat.le_refl 0⟩ (poI_of h)

def fX7_spread (a0 : Nat) (M : ctM) : Option (Int32 × ctM) :=
  (cV kdM 7 a0 (fX7_spreadNow a0 M)).bind fun r21 =>
  (fX7_orNone r21.1 r21.2).bind fun r22 =>
  some (r22.1, r22.2)

set_option maxHeartbeats 4000000 in
set_option maxRecDepth 20000 in
theorem ctX7_spread {B : ctB} {n : Nat} (hB : ctOk B kdM lnM n) {a0 : Nat} {M : ctM} {r : Int32 × ctM} (h : fX7_spread a0 M = some r) : ctC B mX7_spread (5, 0, 0) [.ref a0] n M (poI r n) := by
  refine ctC_of (by decide) (Nat.le_of_ble_eq_true rfl) ?_
  show ctV B mX7_spread (5, 0, 0) (poI r n) 0 [some (.ref a0)] [] (0, 0) n M
  unfold fX7_spread at h
  refine ct_aload_0 (q := 1) dX7_spread_0 rfl ?_
  obtain ⟨r21, gr21, h⟩ := ob h
  obtain ⟨er21, gr21⟩ := cV_spec gr21
  refine ct_cVi0 (q := 4) hB dX7_spread_1 lk_RX7_180 (by decide) (ctX7_spreadNow hB gr21) er21 (by decide) rfl (Nat.le_of_ble_eq_true rfl) rfl ?_
  obtain ⟨r22, gr22, h⟩ := ob h
  refine ct_cSi1 (q := 7) dX7_spread_4 lk_RX7_183 (by decide) (ctX7_orNone hB gr22) (Nat.le_of_ble_eq_true rfl) rfl ?_
  exact ct_iret dX7_spread_7 rfl ⟨Nat.le_refl 0, Nat.le_refl 0⟩ (poI_of h)

def fX7_groups (a0 : Nat) (x1 : Int32) (M : ctM) : Option (Int32 × ctM) :=
  (fX7_isIn ((x1 : Int32).toInt64) 0 119 M).bind fun r21 =>
  if r21.1 = 0 then
    some ((-1000000001), r21.2)
  else
    (cV kdM 7 a0 (fX7_findSteps a0 x1 r21.2)).bind fun r23 =>
    if r23.1 = 0 then
      some (0, r23.2)
    else
      (gI kdM 7 15 a0 r23.2).bind fun x25 =>
      if x25 = 0 then
        some (1, r23.2)
      else
        (gI kdM 7 15 a0 r23.2).bind fun x27 =>
        some (x27, r23.2)

set_option maxHeartbeats 4000000 in
set_option maxRecDepth 20000 in
theorem ctX7_groups {B : ctB} {n : Nat} (hB : ctOk B kdM lnM n) {a0 : Nat} {x1 : Int32} {M : ctM} {r : Int32 × ctM} (h : fX7_groups a0 x1 M = some r) : ctC B mX7_groups (4, 0, 0) [.ref a0, .int x1] n M (poI r n) := by
  refine ctC_of (by decide) (Nat.le_of_ble_eq_true rfl) ?_
  show ctV B mX7_groups (4, 0, 0) (poI r n) 0 [some (.ref a0), some (.int x1)] [] (0, 0) n M
  unfold fX7_groups at h
  refine ct_iload_1 (q := 1) dX7_groups_0 rfl ?_
  refine ct_i2l (q := 2) dX7_groups_1 rfl ?_
  refine ct_lconst (v := 0) (q := 3) dX7_groups_2 (by decide) rfl ?_
  refine ct_ldc2 (q := 6) dX7_groups_3 wd_1006 rfl ?_
  obtain ⟨r21, gr21, h⟩ := ob h
  refine ct_cSi3 (q := 9) dX7_groups_6 lk_RX7_76 (by decide) (ctX7_isIn hB gr21) (Nat.le_of_ble_eq_true rfl) rfl ?_
  refine ct_if_ne (q := 12) (tgt := 15) dX7_groups_9 (by decide) rfl (fun z22 => ?_) (fun z22 => ?_)
  · replace h := it_f h z22
    refine ct_aload_0 (q := 16) dX7_groups_15 rfl ?_
    refine ct_iload_1 (q := 17) dX7_groups_16 rfl ?_
    obtain ⟨r23, gr23, h⟩ := ob h
    obtain ⟨er23, gr23⟩ := cV_spec gr23
    refine ct_cVi1 (q := 20) hB dX7_groups_17 lk_RX7_177 (by decide) (ctX7_findSteps hB gr23) er23 (by decide) rfl (Nat.le_of_ble_eq_true rfl) rfl ?_
    refine ct_if_ne (q := 23) (tgt := 27) dX7_groups_20 (by decide) rfl (fun z24 => ?_) (fun z24 => ?_)
    · replace h := it_f h z24
      refine ct_aload_0 (q := 28) dX7_groups_27 rfl ?_
      obtain ⟨x25, gx25, h⟩ := ob h
      refine ct_getI (q := 31) hB dX7_groups_28 fl_RX7_174 rfl gx25 rfl ?_
      refine ct_if_ne (q := 34) (tgt := 38) dX7_groups_31 (by decide) rfl (fun z26 => ?_) (fun z26 => ?_)
      · replace h := it_f h z26
        refine ct_aload_0 (q := 39) dX7_groups_38 rfl ?_
        obtain ⟨x27, gx27, h⟩ := ob h
        refine ct_getI (q := 42) hB dX7_groups_39 fl_RX7_174 rfl gx27 rfl ?_
        exact ct_iret dX7_groups_42 rfl ⟨Nat.le_refl 0, Nat.le_refl 0⟩ (poI_of h)
      · replace h := it_t h z26
        refine ct_iconst (v := 1) (q := 35) dX7_groups_34 (by decide) rfl ?_
        refine ct_goto (q := 42) dX7_groups_35 (by decide) ?_
        exact ct_iret dX7_groups_42 rfl ⟨Nat.le_refl 0, Nat.le_refl 0⟩ (poI_of h)
    · replace h := it_t h z24
      refine ct_iconst (v := 0) (q := 24) dX7_groups_23 (by decide) rfl ?_
      refine ct_goto (q := 42) dX7_groups_24 (by decide) ?_
      exact ct_iret dX7_groups_42 rfl ⟨Nat.le_refl 0, Nat.le_refl 0⟩ (poI_of h)
  · replace h := it_t h z22
    refine ct_ldc (q := 14) dX7_groups_12 wd_919 rfl ?_
    exact ct_iret dX7_groups_14 rfl ⟨Nat.le_refl 0, Nat.le_refl 0⟩ (poI_of h)

def fX7_laysBy_h2 : Nat → Nat → Int32 → ctM → Option (ctM)
  | 0, _, _, _ => none
  | N + 1, a0, x1, M =>
    if 70 ≤ x1 then
      some M
    else
      (gP kdM 7 16 a0 M).bind fun a22 =>
      (gP kdM 7 0 a0 M).bind fun a23 =>
      (aI kdM lnM 9 a23 x1 M).bind fun x24 =>
      (sI kdM lnM 9 a22 x1 x24 M).bind fun M25 =>
      fX7_laysBy_h2 N a0 (x1 + 1) M25

set_option maxHeartbeats 4000000 in
set_option maxRecDepth 20000 in
theorem vX7_laysBy_h2 {B : ctB} {n : Nat} (hB : ctOk B kdM lnM n) : ∀ (N : Nat) (a0 : Nat) (x1 : Int32) (M : ctM) (r : ctM), fX7_laysBy_h2 N a0 x1 M = some r → ctV B mX7_laysBy (0, 0, 0) (poV r n) 2 [some (.ref a0), some (.int x1)] [] (0, 0) n M := by
  intro N
  induction N with
  | zero => intro a0 x1 M r h; exact absurd h (by simp [fX7_laysBy_h2])
  | succ N ih =>
    intro a0 x1 M r h
    rw [fX7_laysBy_h2] at h
    refine ct_iload_1 (q := 3) dX7_laysBy_2 rfl ?_
    refine ct_bipush (v := 70) (q := 5) dX7_laysBy_3 (by decide) rfl ?_
    refine ct_icmp_ge (q := 8) (tgt := 26) dX7_laysBy_5 (by decide) rfl (fun z21 => ?_) (fun z21 => ?_)
    · replace h := it_t h z21
      exact ct_vret dX7_laysBy_26 rfl ⟨Nat.le_refl 0, Nat.le_refl 0⟩ (poV_of h)
    · replace h := it_f h z21
      refine ct_aload_0 (q := 9) dX7_laysBy_8 rfl ?_
      obtain ⟨a22, ga22, h⟩ := ob h
      refine ct_getP (q := 12) hB dX7_laysBy_9 fl_RX7_50 rfl ga22 rfl ?_
      refine ct_iload_1 (q := 13) dX7_laysBy_12 rfl ?_
      refine ct_aload_0 (q := 14) dX7_laysBy_13 rfl ?_
      obtain ⟨a23, ga23, h⟩ := ob h
      refine ct_getP (q := 17) hB dX7_laysBy_14 fl_RX7_7 rfl ga23 rfl ?_
      refine ct_iload_1 (q := 18) dX7_laysBy_17 rfl ?_
      obtain ⟨x24, gx24, h⟩ := ob h
      refine ct_iald (q := 19) hB dX7_laysBy_18 gx24 rfl ?_
      obtain ⟨M25, gM25, h⟩ := ob h
      refine ct_iast (q := 20) hB dX7_laysBy_19 gM25 rfl ?_
      refine ct_iinc_1 (q := 23) (v := x1 + 1) dX7_laysBy_20 (by first | rfl | decide) (by decide) rfl rfl ?_
      refine ct_goto (q := 2) dX7_laysBy_23 (by decide) ?_
      exact ct_lessK (ih a0 (x1 + 1) M25 r h) (And.intro rfl (And.intro rfl (trivial)))

def fX7_laysBy (a0 : Nat) (M : ctM) : Option (ctM) :=
  fX7_laysBy_h2 4000 a0 0 M

set_option maxHeartbeats 4000000 in
set_option maxRecDepth 20000 in
theorem ctX7_laysBy {B : ctB} {n : Nat} (hB : ctOk B kdM lnM n) {a0 : Nat} {M : ctM} {r : ctM} (h : fX7_laysBy a0 M = some r) : ctC B mX7_laysBy (0, 0, 0) [.ref a0] n M (poV r n) := by
  refine ctC_of (by decide) (Nat.le_of_ble_eq_true rfl) ?_
  show ctV B mX7_laysBy (0, 0, 0) (poV r n) 0 [some (.ref a0), none] [] (0, 0) n M
  unfold fX7_laysBy at h
  refine ct_iconst (v := 0) (q := 1) dX7_laysBy_0 (by decide) rfl ?_
  refine ct_istore_1 (q := 2) dX7_laysBy_1 (by decide) rfl rfl ?_
  exact ct_lessK (vX7_laysBy_h2 hB  4000 a0 0 M r h) (And.intro rfl (And.intro rfl (trivial)))

def fX7_laysBack_h2 : Nat → Nat → Int32 → ctM → Option (ctM)
  | 0, _, _, _ => none
  | N + 1, a0, x1, M =>
    if 70 ≤ x1 then
      some M
    else
      (gP kdM 7 0 a0 M).bind fun a22 =>
      (gP kdM 7 16 a0 M).bind fun a23 =>
      (aI kdM lnM 9 a23 x1 M).bind fun x24 =>
      (sI kdM lnM 9 a22 x1 x24 M).bind fun M25 =>
      fX7_laysBack_h2 N a0 (x1 + 1) M25

set_option maxHeartbeats 4000000 in
set_option maxRecDepth 20000 in
theorem vX7_laysBack_h2 {B : ctB} {n : Nat} (hB : ctOk B kdM lnM n) : ∀ (N : Nat) (a0 : Nat) (x1 : Int32) (M : ctM) (r : ctM), fX7_laysBack_h2 N a0 x1 M = some r → ctV B mX7_laysBack (0, 0, 0) (poV r n) 2 [some (.ref a0), some (.int x1)] [] (0, 0) n M := by
  intro N
  induction N with
  | zero => intro a0 x1 M r h; exact absurd h (by simp [fX7_laysBack_h2])
  | succ N ih =>
    intro a0 x1 M r h
    rw [fX7_laysBack_h2] at h
    refine ct_iload_1 (q := 3) dX7_laysBack_2 rfl ?_
    refine ct_bipush (v := 70) (q := 5) dX7_laysBack_3 (by decide) rfl ?_
    refine ct_icmp_ge (q := 8) (tgt := 26) dX7_laysBack_5 (by decide) rfl (fun z21 => ?_) (fun z21 => ?_)
    · replace h := it_t h z21
      exact ct_vret dX7_laysBack_26 rfl ⟨Nat.le_refl 0, Nat.le_refl 0⟩ (poV_of h)
    · replace h := it_f h z21
      refine ct_aload_0 (q := 9) dX7_laysBack_8 rfl ?_
      obtain ⟨a22, ga22, h⟩ := ob h
      refine ct_getP (q := 12) hB dX7_laysBack_9 fl_RX7_7 rfl ga22 rfl ?_
      refine ct_iload_1 (q := 13) dX7_laysBack_12 rfl ?_
      refine ct_aload_0 (q := 14) dX7_laysBack_13 rfl ?_
      obtain ⟨a23, ga23, h⟩ := ob h
      refine ct_getP (q := 17) hB dX7_laysBack_14 fl_RX7_50 rfl ga23 rfl ?_
      refine ct_iload_1 (q := 18) dX7_laysBack_17 rfl ?_
      obtain ⟨x24, gx24, h⟩ := ob h
      refine ct_iald (q := 19) hB dX7_laysBack_18 gx24 rfl ?_
      obtain ⟨M25, gM25, h⟩ := ob h
      refine ct_iast (q := 20) hB dX7_laysBack_19 gM25 rfl ?_
      refine ct_iinc_1 (q := 23) (v := x1 + 1) dX7_laysBack_20 (by first | rfl | decide) (by decide) rfl rfl ?_
      refine ct_goto (q := 2) dX7_laysBack_23 (by decide) ?_
      exact ct_lessK (ih a0 (x1 + 1) M25 r h) (And.intro rfl (And.intro rfl (trivial)))

def fX7_laysBack (a0 : Nat) (M : ctM) : Option (ctM) :=
  fX7_laysBack_h2 4000 a0 0 M

set_option maxHeartbeats 4000000 in
set_option maxRecDepth 20000 in
theorem ctX7_laysBack {B : ctB} {n : Nat} (hB : ctOk B kdM lnM n) {a0 : Nat} {M : ctM} {r : ctM} (h : fX7_laysBack a0 M = some r) : ctC B mX7_laysBack (0, 0, 0) [.ref a0] n M (poV r n) := by
  refine ctC_of (by decide) (Nat.le_of_ble_eq_true rfl) ?_
  show ctV B mX7_laysBack (0, 0, 0) (poV r n) 0 [some (.ref a0), none] [] (0, 0) n M
  unfold fX7_laysBack at h
  refine ct_iconst (v := 0) (q := 1) dX7_laysBack_0 (by decide) rfl ?_
  refine ct_istore_1 (q := 2) dX7_laysBack_1 (by decide) rfl rfl ?_
  exact ct_lessK (vX7_laysBack_h2 hB  4000 a0 0 M r h) (And.intro rfl (And.intro rfl (trivial)))

def fX7_isBound (x0 : Int32) (M : ctM) : Option (Int32 × ctM) :=
  (fX7_isIn ((x0 : Int32).toInt64) 0 119 M).bind fun r21 =>
  if r21.1 = 0 ∨ r21.1 = 1 then some (r21.1, r21.2) else none

set_option maxHeartbeats 4000000 in
set_option maxRecDepth 20000 in
theorem ctX7_isBound {B : ctB} {n : Nat} (hB : ctOk B kdM lnM n) {x0 : Int32} {M : ctM} {r : Int32 × ctM} (h : fX7_isBound x0 M = some r) : ctC B mX7_isBound (1, 0, 0) [.int x0] n M (poI r n) := by
  refine ctC_of (by decide) (Nat.le_of_ble_eq_true rfl) ?_
  show ctV B mX7_isBound (1, 0, 0) (poI r n) 0 [some (.int x0)] [] (0, 0) n M
  unfold fX7_isBound at h
  refine ct_iload_0 (q := 1) dX7_isBound_0 rfl ?_
  refine ct_i2l (q := 2) dX7_isBound_1 rfl ?_
  refine ct_lconst (v := 0) (q := 3) dX7_isBound_2 (by decide) rfl ?_
  refine ct_ldc2 (q := 6) dX7_isBound_3 wd_1006 rfl ?_
  obtain ⟨r21, gr21, h⟩ := ob h
  refine ct_cSi3 (q := 9) dX7_isBound_6 lk_RX7_76 (by decide) (ctX7_isIn hB gr21) (Nat.le_of_ble_eq_true rfl) rfl ?_
  by_cases z22 : r21.1 = 0 ∨ r21.1 = 1
  · exact ct_zret dX7_isBound_9 rfl z22 ⟨Nat.le_refl 0, Nat.le_refl 0⟩ (poI_of (it_t h z22))
  · exact absurd (it_f h z22) (by simp)

def fX7_soon_b48 (a0 : Nat) (x2 : Int32) (M : ctM) : Option (Int32 × ctM) :=
  (cV kdM 7 a0 (fX7_laysBack a0 M)).bind fun r21 =>
  if x2 ≤ 200 then
    some (x2, r21)
  else
    some ((-1000000005), r21)

set_option maxHeartbeats 4000000 in
set_option maxRecDepth 20000 in
theorem vX7_soon_b48 {B : ctB} {n : Nat} (hB : ctOk B kdM lnM n) : ∀ (a0 : Nat) (x2 : Int32) (M : ctM) (r : Int32 × ctM), fX7_soon_b48 a0 x2 M = some r → ctV B mX7_soon (7, 0, 0) (poI r n) 48 [some (.ref a0), none, some (.int x2), none] [] (0, 0) n M := by
  intro a0 x2 M r h
  unfold fX7_soon_b48 at h
  refine ct_aload_0 (q := 49) dX7_soon_48 rfl ?_
  obtain ⟨r21, gr21, h⟩ := ob h
  obtain ⟨er21, gr21⟩ := cV_spec gr21
  refine ct_cVv0 (q := 52) hB dX7_soon_49 lk_RX7_192 (by decide) (ctX7_laysBack hB gr21) er21 (by decide) rfl (Nat.le_of_ble_eq_true rfl) rfl ?_
  refine ct_iload_2 (q := 53) dX7_soon_52 rfl ?_
  refine ct_sipush (v := 200) (q := 56) dX7_soon_53 (by decide) rfl ?_
  refine ct_icmp_le (q := 59) (tgt := 64) dX7_soon_56 (by decide) rfl (fun z22 => ?_) (fun z22 => ?_)
  · replace h := it_t h z22
    refine ct_iload_2 (q := 65) dX7_soon_64 rfl ?_
    exact ct_iret dX7_soon_65 rfl ⟨Nat.le_refl 0, Nat.le_refl 0⟩ (poI_of h)
  · replace h := it_f h z22
    refine ct_ldc (q := 61) dX7_soon_59 wd_1073 rfl ?_
    refine ct_goto (q := 65) dX7_soon_61 (by decide) ?_
    exact ct_iret dX7_soon_65 rfl ⟨Nat.le_refl 0, Nat.le_refl 0⟩ (poI_of h)

def fX7_soon_h16 : Nat → Nat → Int32 → Int32 → ctM → Option (Int32 × ctM)
  | 0, _, _, _, _ => none
  | N + 1, a0, x1, x2, M =>
    if 200 < x2 then
      fX7_soon_b48 a0 x2 M
    else
      (cV kdM 7 a0 (fX7_spreadNow a0 M)).bind fun r22 =>
      (fX7_isIn ((r22.1 : Int32).toInt64) 0 ((x1 : Int32).toInt64) r22.2).bind fun r23 =>
      if r23.1 = 0 then
        (cV kdM 7 a0 (fX7_ticks a0 r23.2)).bind fun r25 =>
        fX7_soon_h16 N a0 x1 (x2 + 1) r25.2
      else
        fX7_soon_b48 a0 x2 r23.2

set_option maxHeartbeats 4000000 in
set_option maxRecDepth 20000 in
theorem vX7_soon_h16 {B : ctB} {n : Nat} (hB : ctOk B kdM lnM n) : ∀ (N : Nat) (a0 : Nat) (x1 : Int32) (x2 : Int32) (M : ctM) (r : Int32 × ctM), fX7_soon_h16 N a0 x1 x2 M = some r → ctV B mX7_soon (7, 0, 0) (poI r n) 16 [some (.ref a0), some (.int x1), some (.int x2), none] [] (0, 0) n M := by
  intro N
  induction N with
  | zero => intro a0 x1 x2 M r h; exact absurd h (by simp [fX7_soon_h16])
  | succ N ih =>
    intro a0 x1 x2 M r h
    rw [fX7_soon_h16] at h
    refine ct_iload_2 (q := 17) dX7_soon_16 rfl ?_
    refine ct_sipush (v := 200) (q := 20) dX7_soon_17 (by decide) rfl ?_
    refine ct_icmp_gt (q := 23) (tgt := 48) dX7_soon_20 (by decide) rfl (fun z21 => ?_) (fun z21 => ?_)
    · replace h := it_t h z21
      exact ct_lessK (vX7_soon_b48 hB  a0 x2 M r h) (And.intro rfl (And.intro rfl (trivial)))
    · replace h := it_f h z21
      refine ct_aload_0 (q := 24) dX7_soon_23 rfl ?_
      obtain ⟨r22, gr22, h⟩ := ob h
      obtain ⟨er22, gr22⟩ := cV_spec gr22
      refine ct_cVi0 (q := 27) hB dX7_soon_24 lk_RX7_180 (by decide) (ctX7_spreadNow hB gr22) er22 (by decide) rfl (Nat.le_of_ble_eq_true rfl) rfl ?_
      refine ct_i2l (q := 28) dX7_soon_27 rfl ?_
      refine ct_lconst (v := 0) (q := 29) dX7_soon_28 (by decide) rfl ?_
      refine ct_iload_1 (q := 30) dX7_soon_29 rfl ?_
      refine ct_i2l (q := 31) dX7_soon_30 rfl ?_
      obtain ⟨r23, gr23, h⟩ := ob h
      refine ct_cSi3 (q := 34) dX7_soon_31 lk_RX7_76 (by decide) (ctX7_isIn hB gr23) (Nat.le_of_ble_eq_true rfl) rfl ?_
      refine ct_if_ne (q := 37) (tgt := 48) dX7_soon_34 (by decide) rfl (fun z24 => ?_) (fun z24 => ?_)
      · replace h := it_f h z24
        exact ct_lessK (vX7_soon_b48 hB  a0 x2 r23.2 r h) (And.intro rfl (And.intro rfl (trivial)))
      · replace h := it_t h z24
        refine ct_aload_0 (q := 38) dX7_soon_37 rfl ?_
        obtain ⟨r25, gr25, h⟩ := ob h
        obtain ⟨er25, gr25⟩ := cV_spec gr25
        refine ct_cVi0 (q := 41) hB dX7_soon_38 lk_RX7_167 (by decide) (ctX7_ticks hB gr25) er25 (by decide) rfl (Nat.le_of_ble_eq_true rfl) rfl ?_
        refine ct_istore_3 (q := 42) dX7_soon_41 (by decide) rfl rfl ?_
        refine ct_iinc_2 (q := 45) (v := x2 + 1) dX7_soon_42 (by first | rfl | decide) (by decide) rfl rfl ?_
        refine ct_goto (q := 16) dX7_soon_45 (by decide) ?_
        exact ct_lessK (ih a0 x1 (x2 + 1) r25.2 r h) (And.intro rfl (And.intro rfl (And.intro rfl (trivial))))

def fX7_soon (a0 : Nat) (x1 : Int32) (M : ctM) : Option (Int32 × ctM) :=
  (fX7_isBound x1 M).bind fun r21 =>
  if r21.1 = 0 then
    some ((-1000000001), r21.2)
  else
    (cV kdM 7 a0 (fX7_laysBy a0 r21.2)).bind fun r23 =>
    fX7_soon_h16 4000 a0 x1 0 r23

set_option maxHeartbeats 4000000 in
set_option maxRecDepth 20000 in
theorem ctX7_soon {B : ctB} {n : Nat} (hB : ctOk B kdM lnM n) {a0 : Nat} {x1 : Int32} {M : ctM} {r : Int32 × ctM} (h : fX7_soon a0 x1 M = some r) : ctC B mX7_soon (7, 0, 0) [.ref a0, .int x1] n M (poI r n) := by
  refine ctC_of (by decide) (Nat.le_of_ble_eq_true rfl) ?_
  show ctV B mX7_soon (7, 0, 0) (poI r n) 0 [some (.ref a0), some (.int x1), none, none] [] (0, 0) n M
  unfold fX7_soon at h
  refine ct_iload_1 (q := 1) dX7_soon_0 rfl ?_
  obtain ⟨r21, gr21, h⟩ := ob h
  refine ct_cSi1 (q := 4) dX7_soon_1 lk_RX7_186 (by decide) (ctX7_isBound hB gr21) (Nat.le_of_ble_eq_true rfl) rfl ?_
  refine ct_if_ne (q := 7) (tgt := 10) dX7_soon_4 (by decide) rfl (fun z22 => ?_) (fun z22 => ?_)
  · replace h := it_f h z22
    refine ct_aload_0 (q := 11) dX7_soon_10 rfl ?_
    obtain ⟨r23, gr23, h⟩ := ob h
    obtain ⟨er23, gr23⟩ := cV_spec gr23
    refine ct_cVv0 (q := 14) hB dX7_soon_11 lk_RX7_189 (by decide) (ctX7_laysBy hB gr23) er23 (by decide) rfl (Nat.le_of_ble_eq_true rfl) rfl ?_
    refine ct_iconst (v := 0) (q := 15) dX7_soon_14 (by decide) rfl ?_
    refine ct_istore_2 (q := 16) dX7_soon_15 (by decide) rfl rfl ?_
    exact ct_lessK (vX7_soon_h16 hB  4000 a0 x1 0 r23 r h) (And.intro rfl (And.intro rfl (And.intro rfl (trivial))))
  · replace h := it_t h z22
    refine ct_ldc (q := 9) dX7_soon_7 wd_919 rfl ?_
    exact ct_iret dX7_soon_9 rfl ⟨Nat.le_refl 0, Nat.le_refl 0⟩ (poI_of h)

def fX7_isAsLaidBy_b44 (k4 : Nat → Int32 → Int32 → ctM → Option (Int32 × ctM)) (a0 : Nat) (x2 : Int32) (xs0 : Int32) (M : ctM) : Option (Int32 × ctM) :=
  k4 a0 xs0 (x2 + 1) M

set_option maxHeartbeats 4000000 in
set_option maxRecDepth 20000 in
theorem vX7_isAsLaidBy_b44 {B : ctB} {n : Nat} (hB : ctOk B kdM lnM n) {k4 : Nat → Int32 → Int32 → ctM → Option (Int32 × ctM)} (hk4 : ∀ (a0 : Nat) (x1 : Int32) (x2 : Int32) (M : ctM) (r : Int32 × ctM), k4 a0 x1 x2 M = some r → ctV B mX7_isAsLaidBy (2, 0, 0) (poI r n) 4 [some (.ref a0), some (.int x1), some (.int x2)] [] (0, 0) n M) : ∀ (a0 : Nat) (x2 : Int32) (xs0 : Int32) (M : ctM) (r : Int32 × ctM), fX7_isAsLaidBy_b44 k4 a0 x2 xs0 M = some r → ctV B mX7_isAsLaidBy (2, 0, 0) (poI r n) 44 [some (.ref a0), none, some (.int x2)] [.int xs0] (0, 0) n M := by
  intro a0 x2 xs0 M r h
  unfold fX7_isAsLaidBy_b44 at h
  refine ct_istore_1 (q := 45) dX7_isAsLaidBy_44 (by decide) rfl rfl ?_
  refine ct_iinc_2 (q := 48) (v := x2 + 1) dX7_isAsLaidBy_45 (by first | rfl | decide) (by decide) rfl rfl ?_
  refine ct_goto (q := 4) dX7_isAsLaidBy_48 (by decide) ?_
  exact ct_lessK (hk4 a0 xs0 (x2 + 1) M r h) (And.intro rfl (And.intro rfl (And.intro rfl (trivial))))

def fX7_isAsLaidBy_b43 (k4 : Nat → Int32 → Int32 → ctM → Option (Int32 × ctM)) (a0 : Nat) (x2 : Int32) (M : ctM) : Option (Int32 × ctM) :=
  fX7_isAsLaidBy_b44 k4 a0 x2 0 M

set_option maxHeartbeats 4000000 in
set_option maxRecDepth 20000 in
theorem vX7_isAsLaidBy_b43 {B : ctB} {n : Nat} (hB : ctOk B kdM lnM n) {k4 : Nat → Int32 → Int32 → ctM → Option (Int32 × ctM)} (hk4 : ∀ (a0 : Nat) (x1 : Int32) (x2 : Int32) (M : ctM) (r : Int32 × ctM), k4 a0 x1 x2 M = some r → ctV B mX7_isAsLaidBy (2, 0, 0) (poI r n) 4 [some (.ref a0), some (.int x1), some (.int x2)] [] (0, 0) n M) : ∀ (a0 : Nat) (x2 : Int32) (M : ctM) (r : Int32 × ctM), fX7_isAsLaidBy_b43 k4 a0 x2 M = some r → ctV B mX7_isAsLaidBy (2, 0, 0) (poI r n) 43 [some (.ref a0), none, some (.int x2)] [] (0, 0) n M := by
  intro a0 x2 M r h
  unfold fX7_isAsLaidBy_b43 at h
  refine ct_iconst (v := 0) (q := 44) dX7_isAsLaidBy_43 (by decide) rfl ?_
  exact ct_lessK (vX7_isAsLaidBy_b44 hB hk4 a0 x2 0 M r h) (And.intro rfl (And.intro rfl (trivial)))

def fX7_isAsLaidBy_h4 : Nat → Nat → Int32 → Int32 → ctM → Option (Int32 × ctM)
  | 0, _, _, _, _ => none
  | N + 1, a0, x1, x2, M =>
    (gP kdM 7 0 a0 M).bind fun a21 =>
    (aI kdM lnM 9 a21 0 M).bind fun x22 =>
    if x22 ≤ x2 then
      if x1 = 0 ∨ x1 = 1 then some (x1, M) else none
    else
      if x1 = 0 then
        fX7_isAsLaidBy_b43 (fX7_isAsLaidBy_h4 N) a0 x2 M
      else
        (cV kdM 7 a0 (fX7_of a0 x2 4 M)).bind fun r26 =>
        (gP kdM 7 16 a0 r26.2).bind fun a27 =>
        (cV kdM 7 a0 (fX7_flameAt a0 x2 r26.2)).bind fun r28 =>
        (aI kdM lnM 9 a27 (r28.1 + 4) r28.2).bind fun x29 =>
        if r26.1 = x29 then
          fX7_isAsLaidBy_b44 (fX7_isAsLaidBy_h4 N) a0 x2 1 r28.2
        else
          fX7_isAsLaidBy_b43 (fX7_isAsLaidBy_h4 N) a0 x2 r28.2

set_option maxHeartbeats 4000000 in
set_option maxRecDepth 20000 in
theorem vX7_isAsLaidBy_h4 {B : ctB} {n : Nat} (hB : ctOk B kdM lnM n) : ∀ (N : Nat) (a0 : Nat) (x1 : Int32) (x2 : Int32) (M : ctM) (r : Int32 × ctM), fX7_isAsLaidBy_h4 N a0 x1 x2 M = some r → ctV B mX7_isAsLaidBy (2, 0, 0) (poI r n) 4 [some (.ref a0), some (.int x1), some (.int x2)] [] (0, 0) n M := by
  intro N
  induction N with
  | zero => intro a0 x1 x2 M r h; exact absurd h (by simp [fX7_isAsLaidBy_h4])
  | succ N ih =>
    intro a0 x1 x2 M r h
    rw [fX7_isAsLaidBy_h4] at h
    refine ct_iload_2 (q := 5) dX7_isAsLaidBy_4 rfl ?_
    refine ct_aload_0 (q := 6) dX7_isAsLaidBy_5 rfl ?_
    obtain ⟨a21, ga21, h⟩ := ob h
    refine ct_getP (q := 9) hB dX7_isAsLaidBy_6 fl_RX7_7 rfl ga21 rfl ?_
    refine ct_iconst (v := 0) (q := 10) dX7_isAsLaidBy_9 (by decide) rfl ?_
    obtain ⟨x22, gx22, h⟩ := ob h
    refine ct_iald (q := 11) hB dX7_isAsLaidBy_10 gx22 rfl ?_
    refine ct_icmp_ge (q := 14) (tgt := 51) dX7_isAsLaidBy_11 (by decide) rfl (fun z23 => ?_) (fun z23 => ?_)
    · replace h := it_t h z23
      refine ct_iload_1 (q := 52) dX7_isAsLaidBy_51 rfl ?_
      by_cases z24 : x1 = 0 ∨ x1 = 1
      · exact ct_zret dX7_isAsLaidBy_52 rfl z24 ⟨Nat.le_refl 0, Nat.le_refl 0⟩ (poI_of (it_t h z24))
      · exact absurd (it_f h z24) (by simp)
    · replace h := it_f h z23
      refine ct_iload_1 (q := 15) dX7_isAsLaidBy_14 rfl ?_
      refine ct_if_eq (q := 18) (tgt := 43) dX7_isAsLaidBy_15 (by decide) rfl (fun z25 => ?_) (fun z25 => ?_)
      · replace h := it_t h z25
        exact ct_lessK (vX7_isAsLaidBy_b43 hB ih a0 x2 M r h) (And.intro rfl (And.intro rfl (trivial)))
      · replace h := it_f h z25
        refine ct_aload_0 (q := 19) dX7_isAsLaidBy_18 rfl ?_
        refine ct_iload_2 (q := 20) dX7_isAsLaidBy_19 rfl ?_
        refine ct_iconst (v := 4) (q := 21) dX7_isAsLaidBy_20 (by decide) rfl ?_
        obtain ⟨r26, gr26, h⟩ := ob h
        obtain ⟨er26, gr26⟩ := cV_spec gr26
        refine ct_cVi2 (q := 24) hB dX7_isAsLaidBy_21 lk_RX7_80 (by decide) (ctX7_of hB gr26) er26 (by decide) rfl (Nat.le_of_ble_eq_true rfl) rfl ?_
        refine ct_aload_0 (q := 25) dX7_isAsLaidBy_24 rfl ?_
        obtain ⟨a27, ga27, h⟩ := ob h
        refine ct_getP (q := 28) hB dX7_isAsLaidBy_25 fl_RX7_50 rfl ga27 rfl ?_
        refine ct_aload_0 (q := 29) dX7_isAsLaidBy_28 rfl ?_
        refine ct_iload_2 (q := 30) dX7_isAsLaidBy_29 rfl ?_
        obtain ⟨r28, gr28, h⟩ := ob h
        obtain ⟨er28, gr28⟩ := cV_spec gr28
        refine ct_cVi1 (q := 33) hB dX7_isAsLaidBy_30 lk_RX7_72 (by decide) (ctX7_flameAt hB gr28) er28 (by decide) rfl (Nat.le_of_ble_eq_true rfl) rfl ?_
        refine ct_iconst (v := 4) (q := 34) dX7_isAsLaidBy_33 (by decide) rfl ?_
        refine ct_iadd (q := 35) dX7_isAsLaidBy_34 rfl ?_
        obtain ⟨x29, gx29, h⟩ := ob h
        refine ct_iald (q := 36) hB dX7_isAsLaidBy_35 gx29 rfl ?_
        refine ct_icmp_ne (q := 39) (tgt := 43) dX7_isAsLaidBy_36 (by decide) rfl (fun z30 => ?_) (fun z30 => ?_)
        · replace h := it_f h z30
          exact ct_lessK (vX7_isAsLaidBy_b43 hB ih a0 x2 r28.2 r h) (And.intro rfl (And.intro rfl (trivial)))
        · replace h := it_t h z30
          refine ct_iconst (v := 1) (q := 40) dX7_isAsLaidBy_39 (by decide) rfl ?_
          refine ct_goto (q := 44) dX7_isAsLaidBy_40 (by decide) ?_
          exact ct_lessK (vX7_isAsLaidBy_b44 hB ih a0 x2 1 r28.2 r h) (And.intro rfl (And.intro rfl (trivial)))

def fX7_isAsLaidBy (a0 : Nat) (M : ctM) : Option (Int32 × ctM) :=
  fX7_isAsLaidBy_h4 4000 a0 1 0 M

set_option maxHeartbeats 4000000 in
set_option maxRecDepth 20000 in
theorem ctX7_isAsLaidBy {B : ctB} {n : Nat} (hB : ctOk B kdM lnM n) {a0 : Nat} {M : ctM} {r : Int32 × ctM} (h : fX7_isAsLaidBy a0 M = some r) : ctC B mX7_isAsLaidBy (2, 0, 0) [.ref a0] n M (poI r n) := by
  refine ctC_of (by decide) (Nat.le_of_ble_eq_true rfl) ?_
  show ctV B mX7_isAsLaidBy (2, 0, 0) (poI r n) 0 [some (.ref a0), none, none] [] (0, 0) n M
  unfold fX7_isAsLaidBy at h
  refine ct_iconst (v := 1) (q := 1) dX7_isAsLaidBy_0 (by decide) rfl ?_
  refine ct_istore_1 (q := 2) dX7_isAsLaidBy_1 (by decide) rfl rfl ?_
  refine ct_iconst (v := 0) (q := 3) dX7_isAsLaidBy_2 (by decide) rfl ?_
  refine ct_istore_2 (q := 4) dX7_isAsLaidBy_3 (by decide) rfl rfl ?_
  exact ct_lessK (vX7_isAsLaidBy_h4 hB  4000 a0 1 0 M r h) (And.intro rfl (And.intro rfl (And.intro rfl (trivial))))

def fX7_period_b36 (a0 : Nat) (x1 : Int32) (M : ctM) : Option (Int32 × ctM) :=
  (cV kdM 7 a0 (fX7_laysBack a0 M)).bind fun r21 =>
  if x1 ≤ 300 then
    some (x1, r21)
  else
    some ((-1000000005), r21)

set_option maxHeartbeats 4000000 in
set_option maxRecDepth 20000 in
theorem vX7_period_b36 {B : ctB} {n : Nat} (hB : ctOk B kdM lnM n) : ∀ (a0 : Nat) (x1 : Int32) (M : ctM) (r : Int32 × ctM), fX7_period_b36 a0 x1 M = some r → ctV B mX7_period (7, 0, 0) (poI r n) 36 [some (.ref a0), some (.int x1), none] [] (0, 0) n M := by
  intro a0 x1 M r h
  unfold fX7_period_b36 at h
  refine ct_aload_0 (q := 37) dX7_period_36 rfl ?_
  obtain ⟨r21, gr21, h⟩ := ob h
  obtain ⟨er21, gr21⟩ := cV_spec gr21
  refine ct_cVv0 (q := 40) hB dX7_period_37 lk_RX7_192 (by decide) (ctX7_laysBack hB gr21) er21 (by decide) rfl (Nat.le_of_ble_eq_true rfl) rfl ?_
  refine ct_iload_1 (q := 41) dX7_period_40 rfl ?_
  refine ct_sipush (v := 300) (q := 44) dX7_period_41 (by decide) rfl ?_
  refine ct_icmp_le (q := 47) (tgt := 52) dX7_period_44 (by decide) rfl (fun z22 => ?_) (fun z22 => ?_)
  · replace h := it_t h z22
    refine ct_iload_1 (q := 53) dX7_period_52 rfl ?_
    exact ct_iret dX7_period_53 rfl ⟨Nat.le_refl 0, Nat.le_refl 0⟩ (poI_of h)
  · replace h := it_f h z22
    refine ct_ldc (q := 49) dX7_period_47 wd_1073 rfl ?_
    refine ct_goto (q := 53) dX7_period_49 (by decide) ?_
    exact ct_iret dX7_period_53 rfl ⟨Nat.le_refl 0, Nat.le_refl 0⟩ (poI_of h)

def fX7_period_h11 : Nat → Nat → Int32 → ctM → Option (Int32 × ctM)
  | 0, _, _, _ => none
  | N + 1, a0, x1, M =>
    if 300 < x1 then
      fX7_period_b36 a0 x1 M
    else
      (cV kdM 7 a0 (fX7_isAsLaidBy a0 M)).bind fun r22 =>
      if r22.1 = 0 then
        (cV kdM 7 a0 (fX7_ticks a0 r22.2)).bind fun r24 =>
        fX7_period_h11 N a0 (x1 + 1) r24.2
      else
        fX7_period_b36 a0 x1 r22.2

set_option maxHeartbeats 4000000 in
set_option maxRecDepth 20000 in
theorem vX7_period_h11 {B : ctB} {n : Nat} (hB : ctOk B kdM lnM n) : ∀ (N : Nat) (a0 : Nat) (x1 : Int32) (M : ctM) (r : Int32 × ctM), fX7_period_h11 N a0 x1 M = some r → ctV B mX7_period (7, 0, 0) (poI r n) 11 [some (.ref a0), some (.int x1), none] [] (0, 0) n M := by
  intro N
  induction N with
  | zero => intro a0 x1 M r h; exact absurd h (by simp [fX7_period_h11])
  | succ N ih =>
    intro a0 x1 M r h
    rw [fX7_period_h11] at h
    refine ct_iload_1 (q := 12) dX7_period_11 rfl ?_
    refine ct_sipush (v := 300) (q := 15) dX7_period_12 (by decide) rfl ?_
    refine ct_icmp_gt (q := 18) (tgt := 36) dX7_period_15 (by decide) rfl (fun z21 => ?_) (fun z21 => ?_)
    · replace h := it_t h z21
      exact ct_lessK (vX7_period_b36 hB  a0 x1 M r h) (And.intro rfl (And.intro rfl (trivial)))
    · replace h := it_f h z21
      refine ct_aload_0 (q := 19) dX7_period_18 rfl ?_
      obtain ⟨r22, gr22, h⟩ := ob h
      obtain ⟨er22, gr22⟩ := cV_spec gr22
      refine ct_cVi0 (q := 22) hB dX7_period_19 lk_RX7_195 (by decide) (ctX7_isAsLaidBy hB gr22) er22 (by decide) rfl (Nat.le_of_ble_eq_true rfl) rfl ?_
      refine ct_if_ne (q := 25) (tgt := 36) dX7_period_22 (by decide) rfl (fun z23 => ?_) (fun z23 => ?_)
      · replace h := it_f h z23
        exact ct_lessK (vX7_period_b36 hB  a0 x1 r22.2 r h) (And.intro rfl (And.intro rfl (trivial)))
      · replace h := it_t h z23
        refine ct_aload_0 (q := 26) dX7_period_25 rfl ?_
        obtain ⟨r24, gr24, h⟩ := ob h
        obtain ⟨er24, gr24⟩ := cV_spec gr24
        refine ct_cVi0 (q := 29) hB dX7_period_26 lk_RX7_167 (by decide) (ctX7_ticks hB gr24) er24 (by decide) rfl (Nat.le_of_ble_eq_true rfl) rfl ?_
        refine ct_istore_2 (q := 30) dX7_period_29 (by decide) rfl rfl ?_
        refine ct_iinc_1 (q := 33) (v := x1 + 1) dX7_period_30 (by first | rfl | decide) (by decide) rfl rfl ?_
        refine ct_goto (q := 11) dX7_period_33 (by decide) ?_
        exact ct_lessK (ih a0 (x1 + 1) r24.2 r h) (And.intro rfl (And.intro rfl (trivial)))

def fX7_period (a0 : Nat) (M : ctM) : Option (Int32 × ctM) :=
  (cV kdM 7 a0 (fX7_laysBy a0 M)).bind fun r21 =>
  (cV kdM 7 a0 (fX7_ticks a0 r21)).bind fun r22 =>
  fX7_period_h11 4000 a0 1 r22.2

set_option maxHeartbeats 4000000 in
set_option maxRecDepth 20000 in
theorem ctX7_period {B : ctB} {n : Nat} (hB : ctOk B kdM lnM n) {a0 : Nat} {M : ctM} {r : Int32 × ctM} (h : fX7_period a0 M = some r) : ctC B mX7_period (7, 0, 0) [.ref a0] n M (poI r n) := by
  refine ctC_of (by decide) (Nat.le_of_ble_eq_true rfl) ?_
  show ctV B mX7_period (7, 0, 0) (poI r n) 0 [some (.ref a0), none, none] [] (0, 0) n M
  unfold fX7_period at h
  refine ct_aload_0 (q := 1) dX7_period_0 rfl ?_
  obtain ⟨r21, gr21, h⟩ := ob h
  obtain ⟨er21, gr21⟩ := cV_spec gr21
  refine ct_cVv0 (q := 4) hB dX7_period_1 lk_RX7_189 (by decide) (ctX7_laysBy hB gr21) er21 (by decide) rfl (Nat.le_of_ble_eq_true rfl) rfl ?_
  refine ct_iconst (v := 1) (q := 5) dX7_period_4 (by decide) rfl ?_
  refine ct_istore_1 (q := 6) dX7_period_5 (by decide) rfl rfl ?_
  refine ct_aload_0 (q := 7) dX7_period_6 rfl ?_
  obtain ⟨r22, gr22, h⟩ := ob h
  obtain ⟨er22, gr22⟩ := cV_spec gr22
  refine ct_cVi0 (q := 10) hB dX7_period_7 lk_RX7_167 (by decide) (ctX7_ticks hB gr22) er22 (by decide) rfl (Nat.le_of_ble_eq_true rfl) rfl ?_
  refine ct_istore_2 (q := 11) dX7_period_10 (by decide) rfl rfl ?_
  exact ct_lessK (vX7_period_h11 hB  4000 a0 1 r22.2 r h) (And.intro rfl (And.intro rfl (trivial)))

def fX7_ticksMany_h2 : Nat → Nat → Int32 → Int32 → ctM → Option (ctM)
  | 0, _, _, _, _ => none
  | N + 1, a0, x1, x2, M =>
    if x1 ≤ x2 then
      some M
    else
      (cV kdM 7 a0 (fX7_ticks a0 M)).bind fun r22 =>
      fX7_ticksMany_h2 N a0 x1 (x2 + 1) r22.2

set_option maxHeartbeats 4000000 in
set_option maxRecDepth 20000 in
theorem vX7_ticksMany_h2 {B : ctB} {n : Nat} (hB : ctOk B kdM lnM n) : ∀ (N : Nat) (a0 : Nat) (x1 : Int32) (x2 : Int32) (M : ctM) (r : ctM), fX7_ticksMany_h2 N a0 x1 x2 M = some r → ctV B mX7_ticksMany (7, 0, 0) (poV r n) 2 [some (.ref a0), some (.int x1), some (.int x2), none] [] (0, 0) n M := by
  intro N
  induction N with
  | zero => intro a0 x1 x2 M r h; exact absurd h (by simp [fX7_ticksMany_h2])
  | succ N ih =>
    intro a0 x1 x2 M r h
    rw [fX7_ticksMany_h2] at h
    refine ct_iload_2 (q := 3) dX7_ticksMany_2 rfl ?_
    refine ct_iload_1 (q := 4) dX7_ticksMany_3 rfl ?_
    refine ct_icmp_ge (q := 7) (tgt := 18) dX7_ticksMany_4 (by decide) rfl (fun z21 => ?_) (fun z21 => ?_)
    · replace h := it_t h z21
      exact ct_vret dX7_ticksMany_18 rfl ⟨Nat.le_refl 0, Nat.le_refl 0⟩ (poV_of h)
    · replace h := it_f h z21
      refine ct_aload_0 (q := 8) dX7_ticksMany_7 rfl ?_
      obtain ⟨r22, gr22, h⟩ := ob h
      obtain ⟨er22, gr22⟩ := cV_spec gr22
      refine ct_cVi0 (q := 11) hB dX7_ticksMany_8 lk_RX7_167 (by decide) (ctX7_ticks hB gr22) er22 (by decide) rfl (Nat.le_of_ble_eq_true rfl) rfl ?_
      refine ct_istore_3 (q := 12) dX7_ticksMany_11 (by decide) rfl rfl ?_
      refine ct_iinc_2 (q := 15) (v := x2 + 1) dX7_ticksMany_12 (by first | rfl | decide) (by decide) rfl rfl ?_
      refine ct_goto (q := 2) dX7_ticksMany_15 (by decide) ?_
      exact ct_lessK (ih a0 x1 (x2 + 1) r22.2 r h) (And.intro rfl (And.intro rfl (And.intro rfl (trivial))))

def fX7_ticksMany (a0 : Nat) (x1 : Int32) (M : ctM) : Option (ctM) :=
  fX7_ticksMany_h2 4000 a0 x1 0 M

set_option maxHeartbeats 4000000 in
set_option maxRecDepth 20000 in
theorem ctX7_ticksMany {B : ctB} {n : Nat} (hB : ctOk B kdM lnM n) {a0 : Nat} {x1 : Int32} {M : ctM} {r : ctM} (h : fX7_ticksMany a0 x1 M = some r) : ctC B mX7_ticksMany (7, 0, 0) [.ref a0, .int x1] n M (poV r n) := by
  refine ctC_of (by decide) (Nat.le_of_ble_eq_true rfl) ?_
  show ctV B mX7_ticksMany (7, 0, 0) (poV r n) 0 [some (.ref a0), some (.int x1), none, none] [] (0, 0) n M
  unfold fX7_ticksMany at h
  refine ct_iconst (v := 0) (q := 1) dX7_ticksMany_0 (by decide) rfl ?_
  refine ct_istore_2 (q := 2) dX7_ticksMany_1 (by decide) rfl rfl ?_
  exact ct_lessK (vX7_ticksMany_h2 hB  4000 a0 x1 0 M r h) (And.intro rfl (And.intro rfl (And.intro rfl (trivial))))

def fX7_film (a0 : Nat) (x1 : Int32) (x2 : Int32) (M : ctM) : Option (Int32 × ctM) :=
  (cV kdM 7 a0 (fX7_isFlame a0 x1 M)).bind fun r21 =>
  if r21.1 = 0 then
    some ((-1000000001), r21.2)
  else
    (fX7_isIn ((x2 : Int32).toInt64) 1 60 r21.2).bind fun r23 =>
    if r23.1 = 0 then
      some ((-1000000001), r23.2)
    else
      (cV kdM 7 a0 (fX7_laysBy a0 r23.2)).bind fun r25 =>
      (cV kdM 7 a0 (fX7_ticksMany a0 x2 r25)).bind fun r26 =>
      (cV kdM 7 a0 (fX7_of a0 x1 4 r26)).bind fun r27 =>
      (gP kdM 7 16 a0 r27.2).bind fun a28 =>
      (cV kdM 7 a0 (fX7_flameAt a0 x1 r27.2)).bind fun r29 =>
      (aI kdM lnM 9 a28 (r29.1 + 4) r29.2).bind fun x30 =>
      (fX7_ahead r27.1 x30 r29.2).bind fun r31 =>
      (cV kdM 7 a0 (fX7_laysBack a0 r31.2)).bind fun r32 =>
      some (r31.1, r32)

set_option maxHeartbeats 4000000 in
set_option maxRecDepth 20000 in
theorem ctX7_film {B : ctB} {n : Nat} (hB : ctOk B kdM lnM n) {a0 : Nat} {x1 : Int32} {x2 : Int32} {M : ctM} {r : Int32 × ctM} (h : fX7_film a0 x1 x2 M = some r) : ctC B mX7_film (8, 0, 0) [.ref a0, .int x1, .int x2] n M (poI r n) := by
  refine ctC_of (by decide) (Nat.le_of_ble_eq_true rfl) ?_
  show ctV B mX7_film (8, 0, 0) (poI r n) 0 [some (.ref a0), some (.int x1), some (.int x2), none] [] (0, 0) n M
  unfold fX7_film at h
  refine ct_aload_0 (q := 1) dX7_film_0 rfl ?_
  refine ct_iload_1 (q := 2) dX7_film_1 rfl ?_
  obtain ⟨r21, gr21, h⟩ := ob h
  obtain ⟨er21, gr21⟩ := cV_spec gr21
  refine ct_cVi1 (q := 5) hB dX7_film_2 lk_RX7_121 (by decide) (ctX7_isFlame hB gr21) er21 (by decide) rfl (Nat.le_of_ble_eq_true rfl) rfl ?_
  refine ct_if_eq (q := 8) (tgt := 20) dX7_film_5 (by decide) rfl (fun z22 => ?_) (fun z22 => ?_)
  · replace h := it_t h z22
    refine ct_ldc (q := 22) dX7_film_20 wd_919 rfl ?_
    exact ct_iret dX7_film_22 rfl ⟨Nat.le_refl 0, Nat.le_refl 0⟩ (poI_of h)
  · replace h := it_f h z22
    refine ct_iload_2 (q := 9) dX7_film_8 rfl ?_
    refine ct_i2l (q := 10) dX7_film_9 rfl ?_
    refine ct_lconst (v := 1) (q := 11) dX7_film_10 (by decide) rfl ?_
    refine ct_ldc2 (q := 14) dX7_film_11 wd_1043 rfl ?_
    obtain ⟨r23, gr23, h⟩ := ob h
    refine ct_cSi3 (q := 17) dX7_film_14 lk_RX7_76 (by decide) (ctX7_isIn hB gr23) (Nat.le_of_ble_eq_true rfl) rfl ?_
    refine ct_if_ne (q := 20) (tgt := 23) dX7_film_17 (by decide) rfl (fun z24 => ?_) (fun z24 => ?_)
    · replace h := it_f h z24
      refine ct_aload_0 (q := 24) dX7_film_23 rfl ?_
      obtain ⟨r25, gr25, h⟩ := ob h
      obtain ⟨er25, gr25⟩ := cV_spec gr25
      refine ct_cVv0 (q := 27) hB dX7_film_24 lk_RX7_189 (by decide) (ctX7_laysBy hB gr25) er25 (by decide) rfl (Nat.le_of_ble_eq_true rfl) rfl ?_
      refine ct_aload_0 (q := 28) dX7_film_27 rfl ?_
      refine ct_iload_2 (q := 29) dX7_film_28 rfl ?_
      obtain ⟨r26, gr26, h⟩ := ob h
      obtain ⟨er26, gr26⟩ := cV_spec gr26
      refine ct_cVv1 (q := 32) hB dX7_film_29 lk_RX7_199 (by decide) (ctX7_ticksMany hB gr26) er26 (by decide) rfl (Nat.le_of_ble_eq_true rfl) rfl ?_
      refine ct_aload_0 (q := 33) dX7_film_32 rfl ?_
      refine ct_iload_1 (q := 34) dX7_film_33 rfl ?_
      refine ct_iconst (v := 4) (q := 35) dX7_film_34 (by decide) rfl ?_
      obtain ⟨r27, gr27, h⟩ := ob h
      obtain ⟨er27, gr27⟩ := cV_spec gr27
      refine ct_cVi2 (q := 38) hB dX7_film_35 lk_RX7_80 (by decide) (ctX7_of hB gr27) er27 (by decide) rfl (Nat.le_of_ble_eq_true rfl) rfl ?_
      refine ct_aload_0 (q := 39) dX7_film_38 rfl ?_
      obtain ⟨a28, ga28, h⟩ := ob h
      refine ct_getP (q := 42) hB dX7_film_39 fl_RX7_50 rfl ga28 rfl ?_
      refine ct_aload_0 (q := 43) dX7_film_42 rfl ?_
      refine ct_iload_1 (q := 44) dX7_film_43 rfl ?_
      obtain ⟨r29, gr29, h⟩ := ob h
      obtain ⟨er29, gr29⟩ := cV_spec gr29
      refine ct_cVi1 (q := 47) hB dX7_film_44 lk_RX7_72 (by decide) (ctX7_flameAt hB gr29) er29 (by decide) rfl (Nat.le_of_ble_eq_true rfl) rfl ?_
      refine ct_iconst (v := 4) (q := 48) dX7_film_47 (by decide) rfl ?_
      refine ct_iadd (q := 49) dX7_film_48 rfl ?_
      obtain ⟨x30, gx30, h⟩ := ob h
      refine ct_iald (q := 50) hB dX7_film_49 gx30 rfl ?_
      obtain ⟨r31, gr31, h⟩ := ob h
      refine ct_cSi2 (q := 53) dX7_film_50 lk_RX7_115 (by decide) (ctX7_ahead hB gr31) (Nat.le_of_ble_eq_true rfl) rfl ?_
      refine ct_istore_3 (q := 54) dX7_film_53 (by decide) rfl rfl ?_
      refine ct_aload_0 (q := 55) dX7_film_54 rfl ?_
      obtain ⟨r32, gr32, h⟩ := ob h
      obtain ⟨er32, gr32⟩ := cV_spec gr32
      refine ct_cVv0 (q := 58) hB dX7_film_55 lk_RX7_192 (by decide) (ctX7_laysBack hB gr32) er32 (by decide) rfl (Nat.le_of_ble_eq_true rfl) rfl ?_
      refine ct_iload_3 (q := 59) dX7_film_58 rfl ?_
      exact ct_iret dX7_film_59 rfl ⟨Nat.le_refl 0, Nat.le_refl 0⟩ (poI_of h)
    · replace h := it_t h z24
      refine ct_ldc (q := 22) dX7_film_20 wd_919 rfl ?_
      exact ct_iret dX7_film_22 rfl ⟨Nat.le_refl 0, Nat.le_refl 0⟩ (poI_of h)

def fX7_litBehind_h2 : Nat → Nat → Int32 → ctM → Option (Int32 × ctM)
  | 0, _, _, _ => none
  | N + 1, a0, x2, M =>
    (gP kdM 7 0 a0 M).bind fun a21 =>
    (aI kdM lnM 9 a21 0 M).bind fun x22 =>
    if x22 ≤ x2 then
      some (x2, M)
    else
      (cV kdM 7 a0 (fX7_isLit a0 x2 M)).bind fun r24 =>
      if r24.1 = 0 then
        fX7_litBehind_h2 N a0 (x2 + 1) r24.2
      else
        some (x2, r24.2)

set_option maxHeartbeats 4000000 in
set_option maxRecDepth 20000 in
theorem vX7_litBehind_h2 {B : ctB} {n : Nat} (hB : ctOk B kdM lnM n) : ∀ (N : Nat) (a0 : Nat) (x2 : Int32) (M : ctM) (r : Int32 × ctM), fX7_litBehind_h2 N a0 x2 M = some r → ctV B mX7_litBehind (3, 0, 0) (poI r n) 2 [some (.ref a0), none, some (.int x2)] [] (0, 0) n M := by
  intro N
  induction N with
  | zero => intro a0 x2 M r h; exact absurd h (by simp [fX7_litBehind_h2])
  | succ N ih =>
    intro a0 x2 M r h
    rw [fX7_litBehind_h2] at h
    refine ct_iload_2 (q := 3) dX7_litBehind_2 rfl ?_
    refine ct_aload_0 (q := 4) dX7_litBehind_3 rfl ?_
    obtain ⟨a21, ga21, h⟩ := ob h
    refine ct_getP (q := 7) hB dX7_litBehind_4 fl_RX7_7 rfl ga21 rfl ?_
    refine ct_iconst (v := 0) (q := 8) dX7_litBehind_7 (by decide) rfl ?_
    obtain ⟨x22, gx22, h⟩ := ob h
    refine ct_iald (q := 9) hB dX7_litBehind_8 gx22 rfl ?_
    refine ct_icmp_ge (q := 12) (tgt := 26) dX7_litBehind_9 (by decide) rfl (fun z23 => ?_) (fun z23 => ?_)
    · replace h := it_t h z23
      refine ct_iload_2 (q := 27) dX7_litBehind_26 rfl ?_
      exact ct_iret dX7_litBehind_27 rfl ⟨Nat.le_refl 0, Nat.le_refl 0⟩ (poI_of h)
    · replace h := it_f h z23
      refine ct_aload_0 (q := 13) dX7_litBehind_12 rfl ?_
      refine ct_iload_2 (q := 14) dX7_litBehind_13 rfl ?_
      obtain ⟨r24, gr24, h⟩ := ob h
      obtain ⟨er24, gr24⟩ := cV_spec gr24
      refine ct_cVi1 (q := 17) hB dX7_litBehind_14 lk_RX7_109 (by decide) (ctX7_isLit hB gr24) er24 (by decide) rfl (Nat.le_of_ble_eq_true rfl) rfl ?_
      refine ct_if_ne (q := 20) (tgt := 26) dX7_litBehind_17 (by decide) rfl (fun z25 => ?_) (fun z25 => ?_)
      · replace h := it_f h z25
        refine ct_iload_2 (q := 27) dX7_litBehind_26 rfl ?_
        exact ct_iret dX7_litBehind_27 rfl ⟨Nat.le_refl 0, Nat.le_refl 0⟩ (poI_of h)
      · replace h := it_t h z25
        refine ct_iinc_2 (q := 23) (v := x2 + 1) dX7_litBehind_20 (by first | rfl | decide) (by decide) rfl rfl ?_
        refine ct_goto (q := 2) dX7_litBehind_23 (by decide) ?_
        exact ct_lessK (ih a0 (x2 + 1) r24.2 r h) (And.intro rfl (And.intro rfl (trivial)))

def fX7_litBehind (a0 : Nat) (x1 : Int32) (M : ctM) : Option (Int32 × ctM) :=
  fX7_litBehind_h2 4000 a0 x1 M

set_option maxHeartbeats 4000000 in
set_option maxRecDepth 20000 in
theorem ctX7_litBehind {B : ctB} {n : Nat} (hB : ctOk B kdM lnM n) {a0 : Nat} {x1 : Int32} {M : ctM} {r : Int32 × ctM} (h : fX7_litBehind a0 x1 M = some r) : ctC B mX7_litBehind (3, 0, 0) [.ref a0, .int x1] n M (poI r n) := by
  refine ctC_of (by decide) (Nat.le_of_ble_eq_true rfl) ?_
  show ctV B mX7_litBehind (3, 0, 0) (poI r n) 0 [some (.ref a0), some (.int x1), none] [] (0, 0) n M
  unfold fX7_litBehind at h
  refine ct_iload_1 (q := 1) dX7_litBehind_0 rfl ?_
  refine ct_istore_2 (q := 2) dX7_litBehind_1 (by decide) rfl rfl ?_
  exact ct_lessK (vX7_litBehind_h2 hB  4000 a0 x1 M r h) (And.intro rfl (And.intro rfl (trivial)))

def fX7_basin_b125 (k47 : Nat → Int32 → Int32 → Int32 → Int32 → Int32 → ctM → Option (Int32 × ctM)) (k57 : Nat → Int32 → Int32 → Int32 → Int32 → Int32 → Int32 → ctM → Option (Int32 × ctM)) (a0 : Nat) (x1 : Int32) (x2 : Int32) (x3 : Int32) (x5 : Int32) (x6 : Int32) (xs0 : Int32) (xs1 : Int32) (M : ctM) : Option (Int32 × ctM) :=
  (cV kdM 7 a0 (fX7_laysBack a0 M)).bind fun r21 =>
  k57 a0 x1 x2 x3 (xs0 + xs1) x5 (x6 + 1) r21

set_option maxHeartbeats 4000000 in
set_option maxRecDepth 20000 in
theorem vX7_basin_b125 {B : ctB} {n : Nat} (hB : ctOk B kdM lnM n) {k47 : Nat → Int32 → Int32 → Int32 → Int32 → Int32 → ctM → Option (Int32 × ctM)} {k57 : Nat → Int32 → Int32 → Int32 → Int32 → Int32 → Int32 → ctM → Option (Int32 × ctM)} (hk47 : ∀ (a0 : Nat) (x1 : Int32) (x2 : Int32) (x3 : Int32) (x4 : Int32) (x5 : Int32) (M : ctM) (r : Int32 × ctM), k47 a0 x1 x2 x3 x4 x5 M = some r → ctV B mX7_basin (8, 0, 0) (poI r n) 47 [some (.ref a0), some (.int x1), some (.int x2), some (.int x3), some (.int x4), some (.int x5), none] [] (0, 0) n M) (hk57 : ∀ (a0 : Nat) (x1 : Int32) (x2 : Int32) (x3 : Int32) (x4 : Int32) (x5 : Int32) (x6 : Int32) (M : ctM) (r : Int32 × ctM), k57 a0 x1 x2 x3 x4 x5 x6 M = some r → ctV B mX7_basin (8, 0, 0) (poI r n) 57 [some (.ref a0), some (.int x1), some (.int x2), some (.int x3), some (.int x4), some (.int x5), some (.int x6)] [] (0, 0) n M) : ∀ (a0 : Nat) (x1 : Int32) (x2 : Int32) (x3 : Int32) (x5 : Int32) (x6 : Int32) (xs0 : Int32) (xs1 : Int32) (M : ctM) (r : Int32 × ctM), fX7_basin_b125 k47 k57 a0 x1 x2 x3 x5 x6 xs0 xs1 M = some r → ctV B mX7_basin (8, 0, 0) (poI r n) 125 [some (.ref a0), some (.int x1), some (.int x2), some (.int x3), none, some (.int x5), some (.int x6)] [.int xs1, .int xs0] (0, 0) n M := by
  intro a0 x1 x2 x3 x5 x6 xs0 xs1 M r h
  unfold fX7_basin_b125 at h
  refine ct_iadd (q := 126) dX7_basin_125 rfl ?_
  refine ct_istore_4 (q := 128) dX7_basin_126 (by decide) rfl rfl ?_
  refine ct_aload_0 (q := 129) dX7_basin_128 rfl ?_
  obtain ⟨r21, gr21, h⟩ := ob h
  obtain ⟨er21, gr21⟩ := cV_spec gr21
  refine ct_cVv0 (q := 132) hB dX7_basin_129 lk_RX7_192 (by decide) (ctX7_laysBack hB gr21) er21 (by decide) rfl (Nat.le_of_ble_eq_true rfl) rfl ?_
  refine ct_iinc_6 (q := 135) (v := x6 + 1) dX7_basin_132 (by first | rfl | decide) (by decide) rfl rfl ?_
  refine ct_goto (q := 57) dX7_basin_135 (by decide) ?_
  exact ct_lessK (hk57 a0 x1 x2 x3 (xs0 + xs1) x5 (x6 + 1) r21 r h) (And.intro rfl (And.intro rfl (And.intro rfl (And.intro rfl (And.intro rfl (And.intro rfl (And.intro rfl (trivial))))))))

def fX7_basin_h57 (k47 : Nat → Int32 → Int32 → Int32 → Int32 → Int32 → ctM → Option (Int32 × ctM)) : Nat → Nat → Int32 → Int32 → Int32 → Int32 → Int32 → Int32 → ctM → Option (Int32 × ctM)
  | 0, _, _, _, _, _, _, _, _ => none
  | N + 1, a0, x1, x2, x3, x4, x5, x6, M =>
    if 6 ≤ x6 then
      k47 a0 x1 x2 x3 x4 (x5 + 1) M
    else
      (gP kdM 7 0 a0 M).bind fun a22 =>
      (cV kdM 7 a0 (fX7_flameAt a0 x2 M)).bind fun r23 =>
      (sI kdM lnM 9 a22 (r23.1 + 4) (20 * x5) r23.2).bind fun M24 =>
      (gP kdM 7 0 a0 M24).bind fun a25 =>
      (cV kdM 7 a0 (fX7_flameAt a0 x3 M24)).bind fun r26 =>
      (sI kdM lnM 9 a25 (r26.1 + 4) (20 * x6) r26.2).bind fun M27 =>
      (cV kdM 7 a0 (fX7_ticksMany a0 30 M27)).bind fun r28 =>
      (cV kdM 7 a0 (fX7_spreadNow a0 r28)).bind fun r29 =>
      (fX7_isIn ((r29.1 : Int32).toInt64) 0 ((x1 : Int32).toInt64) r29.2).bind fun r30 =>
      if r30.1 = 0 then
        fX7_basin_b125 k47 (fX7_basin_h57 k47 N) a0 x1 x2 x3 x5 x6 x4 0 r30.2
      else
        fX7_basin_b125 k47 (fX7_basin_h57 k47 N) a0 x1 x2 x3 x5 x6 x4 1 r30.2

set_option maxHeartbeats 4000000 in
set_option maxRecDepth 20000 in
theorem vX7_basin_h57 {B : ctB} {n : Nat} (hB : ctOk B kdM lnM n) {k47 : Nat → Int32 → Int32 → Int32 → Int32 → Int32 → ctM → Option (Int32 × ctM)} (hk47 : ∀ (a0 : Nat) (x1 : Int32) (x2 : Int32) (x3 : Int32) (x4 : Int32) (x5 : Int32) (M : ctM) (r : Int32 × ctM), k47 a0 x1 x2 x3 x4 x5 M = some r → ctV B mX7_basin (8, 0, 0) (poI r n) 47 [some (.ref a0), some (.int x1), some (.int x2), some (.int x3), some (.int x4), some (.int x5), none] [] (0, 0) n M) : ∀ (N : Nat) (a0 : Nat) (x1 : Int32) (x2 : Int32) (x3 : Int32) (x4 : Int32) (x5 : Int32) (x6 : Int32) (M : ctM) (r : Int32 × ctM), fX7_basin_h57 k47 N a0 x1 x2 x3 x4 x5 x6 M = some r → ctV B mX7_basin (8, 0, 0) (poI r n) 57 [some (.ref a0), some (.int x1), some (.int x2), some (.int x3), some (.int x4), some (.int x5), some (.int x6)] [] (0, 0) n M := by
  intro N
  induction N with
  | zero => intro a0 x1 x2 x3 x4 x5 x6 M r h; exact absurd h (by simp [fX7_basin_h57])
  | succ N ih =>
    intro a0 x1 x2 x3 x4 x5 x6 M r h
    rw [fX7_basin_h57] at h
    refine ct_iload_6 (q := 59) dX7_basin_57 rfl ?_
    refine ct_bipush (v := 6) (q := 61) dX7_basin_59 (by decide) rfl ?_
    refine ct_icmp_ge (q := 64) (tgt := 138) dX7_basin_61 (by decide) rfl (fun z21 => ?_) (fun z21 => ?_)
    · replace h := it_t h z21
      refine ct_iinc_5 (q := 141) (v := x5 + 1) dX7_basin_138 (by first | rfl | decide) (by decide) rfl rfl ?_
      refine ct_goto (q := 47) dX7_basin_141 (by decide) ?_
      exact ct_lessK (hk47 a0 x1 x2 x3 x4 (x5 + 1) M r h) (And.intro rfl (And.intro rfl (And.intro rfl (And.intro rfl (And.intro rfl (And.intro rfl (trivial)))))))
    · replace h := it_f h z21
      refine ct_aload_0 (q := 65) dX7_basin_64 rfl ?_
      obtain ⟨a22, ga22, h⟩ := ob h
      refine ct_getP (q := 68) hB dX7_basin_65 fl_RX7_7 rfl ga22 rfl ?_
      refine ct_aload_0 (q := 69) dX7_basin_68 rfl ?_
      refine ct_iload_2 (q := 70) dX7_basin_69 rfl ?_
      obtain ⟨r23, gr23, h⟩ := ob h
      obtain ⟨er23, gr23⟩ := cV_spec gr23
      refine ct_cVi1 (q := 73) hB dX7_basin_70 lk_RX7_72 (by decide) (ctX7_flameAt hB gr23) er23 (by decide) rfl (Nat.le_of_ble_eq_true rfl) rfl ?_
      refine ct_iconst (v := 4) (q := 74) dX7_basin_73 (by decide) rfl ?_
      refine ct_iadd (q := 75) dX7_basin_74 rfl ?_
      refine ct_bipush (v := 20) (q := 77) dX7_basin_75 (by decide) rfl ?_
      refine ct_iload_5 (q := 79) dX7_basin_77 rfl ?_
      refine ct_imul (q := 80) dX7_basin_79 rfl ?_
      obtain ⟨M24, gM24, h⟩ := ob h
      refine ct_iast (q := 81) hB dX7_basin_80 gM24 rfl ?_
      refine ct_aload_0 (q := 82) dX7_basin_81 rfl ?_
      obtain ⟨a25, ga25, h⟩ := ob h
      refine ct_getP (q := 85) hB dX7_basin_82 fl_RX7_7 rfl ga25 rfl ?_
      refine ct_aload_0 (q := 86) dX7_basin_85 rfl ?_
      refine ct_iload_3 (q := 87) dX7_basin_86 rfl ?_
      obtain ⟨r26, gr26, h⟩ := ob h
      obtain ⟨er26, gr26⟩ := cV_spec gr26
      refine ct_cVi1 (q := 90) hB dX7_basin_87 lk_RX7_72 (by decide) (ctX7_flameAt hB gr26) er26 (by decide) rfl (Nat.le_of_ble_eq_true rfl) rfl ?_
      refine ct_iconst (v := 4) (q := 91) dX7_basin_90 (by decide) rfl ?_
      refine ct_iadd (q := 92) dX7_basin_91 rfl ?_
      refine ct_bipush (v := 20) (q := 94) dX7_basin_92 (by decide) rfl ?_
      refine ct_iload_6 (q := 96) dX7_basin_94 rfl ?_
      refine ct_imul (q := 97) dX7_basin_96 rfl ?_
      obtain ⟨M27, gM27, h⟩ := ob h
      refine ct_iast (q := 98) hB dX7_basin_97 gM27 rfl ?_
      refine ct_aload_0 (q := 99) dX7_basin_98 rfl ?_
      refine ct_bipush (v := 30) (q := 101) dX7_basin_99 (by decide) rfl ?_
      obtain ⟨r28, gr28, h⟩ := ob h
      obtain ⟨er28, gr28⟩ := cV_spec gr28
      refine ct_cVv1 (q := 104) hB dX7_basin_101 lk_RX7_199 (by decide) (ctX7_ticksMany hB gr28) er28 (by decide) rfl (Nat.le_of_ble_eq_true rfl) rfl ?_
      refine ct_iload_4 (q := 106) dX7_basin_104 rfl ?_
      refine ct_aload_0 (q := 107) dX7_basin_106 rfl ?_
      obtain ⟨r29, gr29, h⟩ := ob h
      obtain ⟨er29, gr29⟩ := cV_spec gr29
      refine ct_cVi0 (q := 110) hB dX7_basin_107 lk_RX7_180 (by decide) (ctX7_spreadNow hB gr29) er29 (by decide) rfl (Nat.le_of_ble_eq_true rfl) rfl ?_
      refine ct_i2l (q := 111) dX7_basin_110 rfl ?_
      refine ct_lconst (v := 0) (q := 112) dX7_basin_111 (by decide) rfl ?_
      refine ct_iload_1 (q := 113) dX7_basin_112 rfl ?_
      refine ct_i2l (q := 114) dX7_basin_113 rfl ?_
      obtain ⟨r30, gr30, h⟩ := ob h
      refine ct_cSi3 (q := 117) dX7_basin_114 lk_RX7_76 (by decide) (ctX7_isIn hB gr30) (Nat.le_of_ble_eq_true rfl) rfl ?_
      refine ct_if_eq (q := 120) (tgt := 124) dX7_basin_117 (by decide) rfl (fun z31 => ?_) (fun z31 => ?_)
      · replace h := it_t h z31
        refine ct_iconst (v := 0) (q := 125) dX7_basin_124 (by decide) rfl ?_
        exact ct_lessK (vX7_basin_b125 hB hk47 ih a0 x1 x2 x3 x5 x6 x4 0 r30.2 r h) (And.intro rfl (And.intro rfl (And.intro rfl (And.intro rfl (And.intro rfl (And.intro rfl (trivial)))))))
      · replace h := it_f h z31
        refine ct_iconst (v := 1) (q := 121) dX7_basin_120 (by decide) rfl ?_
        refine ct_goto (q := 125) dX7_basin_121 (by decide) ?_
        exact ct_lessK (vX7_basin_b125 hB hk47 ih a0 x1 x2 x3 x5 x6 x4 1 r30.2 r h) (And.intro rfl (And.intro rfl (And.intro rfl (And.intro rfl (And.intro rfl (And.intro rfl (trivial)))))))

def fX7_basin_h47 : Nat → Nat → Int32 → Int32 → Int32 → Int32 → Int32 → ctM → Option (Int32 × ctM)
  | 0, _, _, _, _, _, _, _ => none
  | N + 1, a0, x1, x2, x3, x4, x5, M =>
    if 6 ≤ x5 then
      some (x4, M)
    else
      fX7_basin_h57 (fX7_basin_h47 N) 4000 a0 x1 x2 x3 x4 x5 0 M

set_option maxHeartbeats 4000000 in
set_option maxRecDepth 20000 in
theorem vX7_basin_h47 {B : ctB} {n : Nat} (hB : ctOk B kdM lnM n) : ∀ (N : Nat) (a0 : Nat) (x1 : Int32) (x2 : Int32) (x3 : Int32) (x4 : Int32) (x5 : Int32) (M : ctM) (r : Int32 × ctM), fX7_basin_h47 N a0 x1 x2 x3 x4 x5 M = some r → ctV B mX7_basin (8, 0, 0) (poI r n) 47 [some (.ref a0), some (.int x1), some (.int x2), some (.int x3), some (.int x4), some (.int x5), none] [] (0, 0) n M := by
  intro N
  induction N with
  | zero => intro a0 x1 x2 x3 x4 x5 M r h; exact absurd h (by simp [fX7_basin_h47])
  | succ N ih =>
    intro a0 x1 x2 x3 x4 x5 M r h
    rw [fX7_basin_h47] at h
    refine ct_iload_5 (q := 49) dX7_basin_47 rfl ?_
    refine ct_bipush (v := 6) (q := 51) dX7_basin_49 (by decide) rfl ?_
    refine ct_icmp_ge (q := 54) (tgt := 144) dX7_basin_51 (by decide) rfl (fun z21 => ?_) (fun z21 => ?_)
    · replace h := it_t h z21
      refine ct_iload_4 (q := 146) dX7_basin_144 rfl ?_
      exact ct_iret dX7_basin_146 rfl ⟨Nat.le_refl 0, Nat.le_refl 0⟩ (poI_of h)
    · replace h := it_f h z21
      refine ct_iconst (v := 0) (q := 55) dX7_basin_54 (by decide) rfl ?_
      refine ct_istore_6 (q := 57) dX7_basin_55 (by decide) rfl rfl ?_
      exact ct_lessK (vX7_basin_h57 hB ih 4000 a0 x1 x2 x3 x4 x5 0 M r h) (And.intro rfl (And.intro rfl (And.intro rfl (And.intro rfl (And.intro rfl (And.intro rfl (And.intro rfl (trivial))))))))

def fX7_basin (a0 : Nat) (x1 : Int32) (M : ctM) : Option (Int32 × ctM) :=
  (fX7_isBound x1 M).bind fun r21 =>
  if r21.1 = 0 then
    some ((-1000000001), r21.2)
  else
    (cV kdM 7 a0 (fX7_litBehind a0 0 r21.2)).bind fun r23 =>
    (cV kdM 7 a0 (fX7_litBehind a0 (r23.1 + 1) r23.2)).bind fun r24 =>
    (gP kdM 7 0 a0 r24.2).bind fun a25 =>
    (aI kdM lnM 9 a25 0 r24.2).bind fun x26 =>
    if r24.1 < x26 then
      (cV kdM 7 a0 (fX7_laysBy a0 r24.2)).bind fun r28 =>
      fX7_basin_h47 4000 a0 x1 r23.1 r24.1 0 0 r28
    else
      some ((-1000000002), r24.2)

set_option maxHeartbeats 4000000 in
set_option maxRecDepth 20000 in
theorem ctX7_basin {B : ctB} {n : Nat} (hB : ctOk B kdM lnM n) {a0 : Nat} {x1 : Int32} {M : ctM} {r : Int32 × ctM} (h : fX7_basin a0 x1 M = some r) : ctC B mX7_basin (8, 0, 0) [.ref a0, .int x1] n M (poI r n) := by
  refine ctC_of (by decide) (Nat.le_of_ble_eq_true rfl) ?_
  show ctV B mX7_basin (8, 0, 0) (poI r n) 0 [some (.ref a0), some (.int x1), none, none, none, none, none] [] (0, 0) n M
  unfold fX7_basin at h
  refine ct_iload_1 (q := 1) dX7_basin_0 rfl ?_
  obtain ⟨r21, gr21, h⟩ := ob h
  refine ct_cSi1 (q := 4) dX7_basin_1 lk_RX7_186 (by decide) (ctX7_isBound hB gr21) (Nat.le_of_ble_eq_true rfl) rfl ?_
  refine ct_if_ne (q := 7) (tgt := 10) dX7_basin_4 (by decide) rfl (fun z22 => ?_) (fun z22 => ?_)
  · replace h := it_f h z22
    refine ct_aload_0 (q := 11) dX7_basin_10 rfl ?_
    refine ct_iconst (v := 0) (q := 12) dX7_basin_11 (by decide) rfl ?_
    obtain ⟨r23, gr23, h⟩ := ob h
    obtain ⟨er23, gr23⟩ := cV_spec gr23
    refine ct_cVi1 (q := 15) hB dX7_basin_12 lk_RX7_203 (by decide) (ctX7_litBehind hB gr23) er23 (by decide) rfl (Nat.le_of_ble_eq_true rfl) rfl ?_
    refine ct_istore_2 (q := 16) dX7_basin_15 (by decide) rfl rfl ?_
    refine ct_aload_0 (q := 17) dX7_basin_16 rfl ?_
    refine ct_iload_2 (q := 18) dX7_basin_17 rfl ?_
    refine ct_iconst (v := 1) (q := 19) dX7_basin_18 (by decide) rfl ?_
    refine ct_iadd (q := 20) dX7_basin_19 rfl ?_
    obtain ⟨r24, gr24, h⟩ := ob h
    obtain ⟨er24, gr24⟩ := cV_spec gr24
    refine ct_cVi1 (q := 23) hB dX7_basin_20 lk_RX7_203 (by decide) (ctX7_litBehind hB gr24) er24 (by decide) rfl (Nat.le_of_ble_eq_true rfl) rfl ?_
    refine ct_istore_3 (q := 24) dX7_basin_23 (by decide) rfl rfl ?_
    refine ct_iload_3 (q := 25) dX7_basin_24 rfl ?_
    refine ct_aload_0 (q := 26) dX7_basin_25 rfl ?_
    obtain ⟨a25, ga25, h⟩ := ob h
    refine ct_getP (q := 29) hB dX7_basin_26 fl_RX7_7 rfl ga25 rfl ?_
    refine ct_iconst (v := 0) (q := 30) dX7_basin_29 (by decide) rfl ?_
    obtain ⟨x26, gx26, h⟩ := ob h
    refine ct_iald (q := 31) hB dX7_basin_30 gx26 rfl ?_
    refine ct_icmp_lt (q := 34) (tgt := 37) dX7_basin_31 (by decide) rfl (fun z27 => ?_) (fun z27 => ?_)
    · replace h := it_t h z27
      refine ct_aload_0 (q := 38) dX7_basin_37 rfl ?_
      obtain ⟨r28, gr28, h⟩ := ob h
      obtain ⟨er28, gr28⟩ := cV_spec gr28
      refine ct_cVv0 (q := 41) hB dX7_basin_38 lk_RX7_189 (by decide) (ctX7_laysBy hB gr28) er28 (by decide) rfl (Nat.le_of_ble_eq_true rfl) rfl ?_
      refine ct_iconst (v := 0) (q := 42) dX7_basin_41 (by decide) rfl ?_
      refine ct_istore_4 (q := 44) dX7_basin_42 (by decide) rfl rfl ?_
      refine ct_iconst (v := 0) (q := 45) dX7_basin_44 (by decide) rfl ?_
      refine ct_istore_5 (q := 47) dX7_basin_45 (by decide) rfl rfl ?_
      exact ct_lessK (vX7_basin_h47 hB  4000 a0 x1 r23.1 r24.1 0 0 r28 r h) (And.intro rfl (And.intro rfl (And.intro rfl (And.intro rfl (And.intro rfl (And.intro rfl (trivial)))))))
    · replace h := it_f h z27
      refine ct_ldc (q := 36) dX7_basin_34 wd_1117 rfl ?_
      exact ct_iret dX7_basin_36 rfl ⟨Nat.le_refl 0, Nat.le_refl 0⟩ (poI_of h)
  · replace h := it_t h z22
    refine ct_ldc (q := 9) dX7_basin_7 wd_919 rfl ?_
    exact ct_iret dX7_basin_9 rfl ⟨Nat.le_refl 0, Nat.le_refl 0⟩ (poI_of h)

def fX7_quiet_b191 (k54 : Nat → Int32 → Int32 → Int32 → Int32 → Int32 → Int32 → Int32 → Int32 → ctM → Option (Int32 × ctM)) (k68 : Nat → Int32 → Int32 → Int32 → Int32 → Int32 → Int32 → Int32 → Int32 → Int32 → ctM → Option (Int32 × ctM)) (a0 : Nat) (x1 : Int32) (x2 : Int32) (x3 : Int32) (x4 : Int32) (x5 : Int32) (x6 : Int32) (x7 : Int32) (x8 : Int32) (x9 : Int32) (M : ctM) : Option (Int32 × ctM) :=
  k68 a0 x1 x2 x3 x4 x5 x6 x7 x8 (x9 + 1) M

set_option maxHeartbeats 4000000 in
set_option maxRecDepth 20000 in
theorem vX7_quiet_b191 {B : ctB} {n : Nat} (hB : ctOk B kdM lnM n) {k54 : Nat → Int32 → Int32 → Int32 → Int32 → Int32 → Int32 → Int32 → Int32 → ctM → Option (Int32 × ctM)} {k68 : Nat → Int32 → Int32 → Int32 → Int32 → Int32 → Int32 → Int32 → Int32 → Int32 → ctM → Option (Int32 × ctM)} (hk54 : ∀ (a0 : Nat) (x1 : Int32) (x2 : Int32) (x3 : Int32) (x4 : Int32) (x5 : Int32) (x6 : Int32) (x7 : Int32) (x8 : Int32) (M : ctM) (r : Int32 × ctM), k54 a0 x1 x2 x3 x4 x5 x6 x7 x8 M = some r → ctV B mX7_quiet (8, 0, 0) (poI r n) 54 [some (.ref a0), some (.int x1), some (.int x2), some (.int x3), some (.int x4), some (.int x5), some (.int x6), some (.int x7), some (.int x8), none, none, none] [] (0, 0) n M) (hk68 : ∀ (a0 : Nat) (x1 : Int32) (x2 : Int32) (x3 : Int32) (x4 : Int32) (x5 : Int32) (x6 : Int32) (x7 : Int32) (x8 : Int32) (x9 : Int32) (M : ctM) (r : Int32 × ctM), k68 a0 x1 x2 x3 x4 x5 x6 x7 x8 x9 M = some r → ctV B mX7_quiet (8, 0, 0) (poI r n) 68 [some (.ref a0), some (.int x1), some (.int x2), some (.int x3), some (.int x4), some (.int x5), some (.int x6), some (.int x7), some (.int x8), some (.int x9), none, none] [] (0, 0) n M) : ∀ (a0 : Nat) (x1 : Int32) (x2 : Int32) (x3 : Int32) (x4 : Int32) (x5 : Int32) (x6 : Int32) (x7 : Int32) (x8 : Int32) (x9 : Int32) (M : ctM) (r : Int32 × ctM), fX7_quiet_b191 k54 k68 a0 x1 x2 x3 x4 x5 x6 x7 x8 x9 M = some r → ctV B mX7_quiet (8, 0, 0) (poI r n) 191 [some (.ref a0), some (.int x1), some (.int x2), some (.int x3), some (.int x4), some (.int x5), some (.int x6), some (.int x7), some (.int x8), some (.int x9), none, none] [] (0, 0) n M := by
  intro a0 x1 x2 x3 x4 x5 x6 x7 x8 x9 M r h
  unfold fX7_quiet_b191 at h
  refine ct_iinc_9 (q := 194) (v := x9 + 1) dX7_quiet_191 (by first | rfl | decide) (by decide) rfl rfl ?_
  refine ct_goto (q := 68) dX7_quiet_194 (by decide) ?_
  exact ct_lessK (hk68 a0 x1 x2 x3 x4 x5 x6 x7 x8 (x9 + 1) M r h) (And.intro rfl (And.intro rfl (And.intro rfl (And.intro rfl (And.intro rfl (And.intro rfl (And.intro rfl (And.intro rfl (And.intro rfl (And.intro rfl (trivial)))))))))))

def fX7_quiet_b187 (k54 : Nat → Int32 → Int32 → Int32 → Int32 → Int32 → Int32 → Int32 → Int32 → ctM → Option (Int32 × ctM)) (k68 : Nat → Int32 → Int32 → Int32 → Int32 → Int32 → Int32 → Int32 → Int32 → Int32 → ctM → Option (Int32 × ctM)) (a0 : Nat) (x1 : Int32) (x2 : Int32) (x3 : Int32) (x4 : Int32) (x5 : Int32) (x6 : Int32) (x7 : Int32) (x8 : Int32) (x9 : Int32) (M : ctM) : Option (Int32 × ctM) :=
  (cV kdM 7 a0 (fX7_laysBack a0 M)).bind fun r21 =>
  fX7_quiet_b191 k54 k68 a0 x1 x2 x3 x4 x5 x6 x7 x8 x9 r21

set_option maxHeartbeats 4000000 in
set_option maxRecDepth 20000 in
theorem vX7_quiet_b187 {B : ctB} {n : Nat} (hB : ctOk B kdM lnM n) {k54 : Nat → Int32 → Int32 → Int32 → Int32 → Int32 → Int32 → Int32 → Int32 → ctM → Option (Int32 × ctM)} {k68 : Nat → Int32 → Int32 → Int32 → Int32 → Int32 → Int32 → Int32 → Int32 → Int32 → ctM → Option (Int32 × ctM)} (hk54 : ∀ (a0 : Nat) (x1 : Int32) (x2 : Int32) (x3 : Int32) (x4 : Int32) (x5 : Int32) (x6 : Int32) (x7 : Int32) (x8 : Int32) (M : ctM) (r : Int32 × ctM), k54 a0 x1 x2 x3 x4 x5 x6 x7 x8 M = some r → ctV B mX7_quiet (8, 0, 0) (poI r n) 54 [some (.ref a0), some (.int x1), some (.int x2), some (.int x3), some (.int x4), some (.int x5), some (.int x6), some (.int x7), some (.int x8), none, none, none] [] (0, 0) n M) (hk68 : ∀ (a0 : Nat) (x1 : Int32) (x2 : Int32) (x3 : Int32) (x4 : Int32) (x5 : Int32) (x6 : Int32) (x7 : Int32) (x8 : Int32) (x9 : Int32) (M : ctM) (r : Int32 × ctM), k68 a0 x1 x2 x3 x4 x5 x6 x7 x8 x9 M = some r → ctV B mX7_quiet (8, 0, 0) (poI r n) 68 [some (.ref a0), some (.int x1), some (.int x2), some (.int x3), some (.int x4), some (.int x5), some (.int x6), some (.int x7), some (.int x8), some (.int x9), none, none] [] (0, 0) n M) : ∀ (a0 : Nat) (x1 : Int32) (x2 : Int32) (x3 : Int32) (x4 : Int32) (x5 : Int32) (x6 : Int32) (x7 : Int32) (x8 : Int32) (x9 : Int32) (M : ctM) (r : Int32 × ctM), fX7_quiet_b187 k54 k68 a0 x1 x2 x3 x4 x5 x6 x7 x8 x9 M = some r → ctV B mX7_quiet (8, 0, 0) (poI r n) 187 [some (.ref a0), some (.int x1), some (.int x2), some (.int x3), some (.int x4), some (.int x5), some (.int x6), some (.int x7), some (.int x8), some (.int x9), none, none] [] (0, 0) n M := by
  intro a0 x1 x2 x3 x4 x5 x6 x7 x8 x9 M r h
  unfold fX7_quiet_b187 at h
  refine ct_aload_0 (q := 188) dX7_quiet_187 rfl ?_
  obtain ⟨r21, gr21, h⟩ := ob h
  obtain ⟨er21, gr21⟩ := cV_spec gr21
  refine ct_cVv0 (q := 191) hB dX7_quiet_188 lk_RX7_192 (by decide) (ctX7_laysBack hB gr21) er21 (by decide) rfl (Nat.le_of_ble_eq_true rfl) rfl ?_
  exact ct_lessK (vX7_quiet_b191 hB hk54 hk68 a0 x1 x2 x3 x4 x5 x6 x7 x8 x9 r21 r h) (And.intro rfl (And.intro rfl (And.intro rfl (And.intro rfl (And.intro rfl (And.intro rfl (And.intro rfl (And.intro rfl (And.intro rfl (And.intro rfl (trivial)))))))))))

def fX7_quiet_b169 (k54 : Nat → Int32 → Int32 → Int32 → Int32 → Int32 → Int32 → Int32 → Int32 → ctM → Option (Int32 × ctM)) (k68 : Nat → Int32 → Int32 → Int32 → Int32 → Int32 → Int32 → Int32 → Int32 → Int32 → ctM → Option (Int32 × ctM)) (a0 : Nat) (x1 : Int32) (x2 : Int32) (x3 : Int32) (x4 : Int32) (x8 : Int32) (x9 : Int32) (x10 : Int32) (x11 : Int32) (M : ctM) : Option (Int32 × ctM) :=
  fX7_quiet_b187 k54 k68 a0 x1 x2 x3 x4 ((100 * x8) + x9) x11 x10 x8 x9 M

set_option maxHeartbeats 4000000 in
set_option maxRecDepth 20000 in
theorem vX7_quiet_b169 {B : ctB} {n : Nat} (hB : ctOk B kdM lnM n) {k54 : Nat → Int32 → Int32 → Int32 → Int32 → Int32 → Int32 → Int32 → Int32 → ctM → Option (Int32 × ctM)} {k68 : Nat → Int32 → Int32 → Int32 → Int32 → Int32 → Int32 → Int32 → Int32 → Int32 → ctM → Option (Int32 × ctM)} (hk54 : ∀ (a0 : Nat) (x1 : Int32) (x2 : Int32) (x3 : Int32) (x4 : Int32) (x5 : Int32) (x6 : Int32) (x7 : Int32) (x8 : Int32) (M : ctM) (r : Int32 × ctM), k54 a0 x1 x2 x3 x4 x5 x6 x7 x8 M = some r → ctV B mX7_quiet (8, 0, 0) (poI r n) 54 [some (.ref a0), some (.int x1), some (.int x2), some (.int x3), some (.int x4), some (.int x5), some (.int x6), some (.int x7), some (.int x8), none, none, none] [] (0, 0) n M) (hk68 : ∀ (a0 : Nat) (x1 : Int32) (x2 : Int32) (x3 : Int32) (x4 : Int32) (x5 : Int32) (x6 : Int32) (x7 : Int32) (x8 : Int32) (x9 : Int32) (M : ctM) (r : Int32 × ctM), k68 a0 x1 x2 x3 x4 x5 x6 x7 x8 x9 M = some r → ctV B mX7_quiet (8, 0, 0) (poI r n) 68 [some (.ref a0), some (.int x1), some (.int x2), some (.int x3), some (.int x4), some (.int x5), some (.int x6), some (.int x7), some (.int x8), some (.int x9), none, none] [] (0, 0) n M) : ∀ (a0 : Nat) (x1 : Int32) (x2 : Int32) (x3 : Int32) (x4 : Int32) (x8 : Int32) (x9 : Int32) (x10 : Int32) (x11 : Int32) (M : ctM) (r : Int32 × ctM), fX7_quiet_b169 k54 k68 a0 x1 x2 x3 x4 x8 x9 x10 x11 M = some r → ctV B mX7_quiet (8, 0, 0) (poI r n) 169 [some (.ref a0), some (.int x1), some (.int x2), some (.int x3), some (.int x4), none, none, none, some (.int x8), some (.int x9), some (.int x10), some (.int x11)] [] (0, 0) n M := by
  intro a0 x1 x2 x3 x4 x8 x9 x10 x11 M r h
  unfold fX7_quiet_b169 at h
  refine ct_bipush (v := 100) (q := 171) dX7_quiet_169 (by decide) rfl ?_
  refine ct_iload_8 (q := 173) dX7_quiet_171 rfl ?_
  refine ct_imul (q := 174) dX7_quiet_173 rfl ?_
  refine ct_iload_9 (q := 176) dX7_quiet_174 rfl ?_
  refine ct_iadd (q := 177) dX7_quiet_176 rfl ?_
  refine ct_istore_5 (q := 179) dX7_quiet_177 (by decide) rfl rfl ?_
  refine ct_iload_11 (q := 181) dX7_quiet_179 rfl ?_
  refine ct_istore_6 (q := 183) dX7_quiet_181 (by decide) rfl rfl ?_
  refine ct_iload_10 (q := 185) dX7_quiet_183 rfl ?_
  refine ct_istore_7 (q := 187) dX7_quiet_185 (by decide) rfl rfl ?_
  exact ct_lessK (vX7_quiet_b187 hB hk54 hk68 a0 x1 x2 x3 x4 ((100 * x8) + x9) x11 x10 x8 x9 M r h) (And.intro rfl (And.intro rfl (And.intro rfl (And.intro rfl (And.intro rfl (And.intro rfl (And.intro rfl (And.intro rfl (And.intro rfl (And.intro rfl (trivial)))))))))))

def fX7_quiet_b155 (k54 : Nat → Int32 → Int32 → Int32 → Int32 → Int32 → Int32 → Int32 → Int32 → ctM → Option (Int32 × ctM)) (k68 : Nat → Int32 → Int32 → Int32 → Int32 → Int32 → Int32 → Int32 → Int32 → Int32 → ctM → Option (Int32 × ctM)) (a0 : Nat) (x1 : Int32) (x2 : Int32) (x3 : Int32) (x4 : Int32) (x5 : Int32) (x6 : Int32) (x7 : Int32) (x8 : Int32) (x9 : Int32) (x10 : Int32) (xs0 : Int32) (M : ctM) : Option (Int32 × ctM) :=
  if x5 < 0 then
    fX7_quiet_b169 k54 k68 a0 x1 x2 x3 x4 x8 x9 x10 xs0 M
  else
    if x6 ≤ xs0 then
      fX7_quiet_b187 k54 k68 a0 x1 x2 x3 x4 x5 x6 x7 x8 x9 M
    else
      fX7_quiet_b169 k54 k68 a0 x1 x2 x3 x4 x8 x9 x10 xs0 M

set_option maxHeartbeats 4000000 in
set_option maxRecDepth 20000 in
theorem vX7_quiet_b155 {B : ctB} {n : Nat} (hB : ctOk B kdM lnM n) {k54 : Nat → Int32 → Int32 → Int32 → Int32 → Int32 → Int32 → Int32 → Int32 → ctM → Option (Int32 × ctM)} {k68 : Nat → Int32 → Int32 → Int32 → Int32 → Int32 → Int32 → Int32 → Int32 → Int32 → ctM → Option (Int32 × ctM)} (hk54 : ∀ (a0 : Nat) (x1 : Int32) (x2 : Int32) (x3 : Int32) (x4 : Int32) (x5 : Int32) (x6 : Int32) (x7 : Int32) (x8 : Int32) (M : ctM) (r : Int32 × ctM), k54 a0 x1 x2 x3 x4 x5 x6 x7 x8 M = some r → ctV B mX7_quiet (8, 0, 0) (poI r n) 54 [some (.ref a0), some (.int x1), some (.int x2), some (.int x3), some (.int x4), some (.int x5), some (.int x6), some (.int x7), some (.int x8), none, none, none] [] (0, 0) n M) (hk68 : ∀ (a0 : Nat) (x1 : Int32) (x2 : Int32) (x3 : Int32) (x4 : Int32) (x5 : Int32) (x6 : Int32) (x7 : Int32) (x8 : Int32) (x9 : Int32) (M : ctM) (r : Int32 × ctM), k68 a0 x1 x2 x3 x4 x5 x6 x7 x8 x9 M = some r → ctV B mX7_quiet (8, 0, 0) (poI r n) 68 [some (.ref a0), some (.int x1), some (.int x2), some (.int x3), some (.int x4), some (.int x5), some (.int x6), some (.int x7), some (.int x8), some (.int x9), none, none] [] (0, 0) n M) : ∀ (a0 : Nat) (x1 : Int32) (x2 : Int32) (x3 : Int32) (x4 : Int32) (x5 : Int32) (x6 : Int32) (x7 : Int32) (x8 : Int32) (x9 : Int32) (x10 : Int32) (xs0 : Int32) (M : ctM) (r : Int32 × ctM), fX7_quiet_b155 k54 k68 a0 x1 x2 x3 x4 x5 x6 x7 x8 x9 x10 xs0 M = some r → ctV B mX7_quiet (8, 0, 0) (poI r n) 155 [some (.ref a0), some (.int x1), some (.int x2), some (.int x3), some (.int x4), some (.int x5), some (.int x6), some (.int x7), some (.int x8), some (.int x9), some (.int x10), none] [.int xs0] (0, 0) n M := by
  intro a0 x1 x2 x3 x4 x5 x6 x7 x8 x9 x10 xs0 M r h
  unfold fX7_quiet_b155 at h
  refine ct_istore_11 (q := 157) dX7_quiet_155 (by decide) rfl rfl ?_
  refine ct_iload_5 (q := 159) dX7_quiet_157 rfl ?_
  refine ct_if_lt (q := 162) (tgt := 169) dX7_quiet_159 (by decide) rfl (fun z21 => ?_) (fun z21 => ?_)
  · replace h := it_t h z21
    exact ct_lessK (vX7_quiet_b169 hB hk54 hk68 a0 x1 x2 x3 x4 x8 x9 x10 xs0 M r h) (And.intro rfl (And.intro rfl (And.intro rfl (And.intro rfl (And.intro rfl (And.intro rfl (And.intro rfl (And.intro rfl (And.intro rfl (trivial))))))))))
  · replace h := it_f h z21
    refine ct_iload_11 (q := 164) dX7_quiet_162 rfl ?_
    refine ct_iload_6 (q := 166) dX7_quiet_164 rfl ?_
    refine ct_icmp_ge (q := 169) (tgt := 187) dX7_quiet_166 (by decide) rfl (fun z22 => ?_) (fun z22 => ?_)
    · replace h := it_t h z22
      exact ct_lessK (vX7_quiet_b187 hB hk54 hk68 a0 x1 x2 x3 x4 x5 x6 x7 x8 x9 M r h) (And.intro rfl (And.intro rfl (And.intro rfl (And.intro rfl (And.intro rfl (And.intro rfl (And.intro rfl (And.intro rfl (And.intro rfl (And.intro rfl (trivial)))))))))))
    · replace h := it_f h z22
      exact ct_lessK (vX7_quiet_b169 hB hk54 hk68 a0 x1 x2 x3 x4 x8 x9 x10 xs0 M r h) (And.intro rfl (And.intro rfl (And.intro rfl (And.intro rfl (And.intro rfl (And.intro rfl (And.intro rfl (And.intro rfl (And.intro rfl (trivial))))))))))

def fX7_quiet_h68 (k54 : Nat → Int32 → Int32 → Int32 → Int32 → Int32 → Int32 → Int32 → Int32 → ctM → Option (Int32 × ctM)) : Nat → Nat → Int32 → Int32 → Int32 → Int32 → Int32 → Int32 → Int32 → Int32 → Int32 → ctM → Option (Int32 × ctM)
  | 0, _, _, _, _, _, _, _, _, _, _, _ => none
  | N + 1, a0, x1, x2, x3, x4, x5, x6, x7, x8, x9, M =>
    if (x4 + 3) < x9 then
      k54 a0 x1 x2 x3 x4 x5 x6 x7 (x8 + 1) M
    else
      (fX7_isIn ((x8 : Int32).toInt64) 0 29 M).bind fun r22 =>
      if r22.1 = 0 then
        fX7_quiet_b191 k54 (fX7_quiet_h68 k54 N) a0 x1 x2 x3 x4 x5 x6 x7 x8 x9 r22.2
      else
        (fX7_isIn ((x9 : Int32).toInt64) 0 29 r22.2).bind fun r24 =>
        if r24.1 = 0 then
          fX7_quiet_b191 k54 (fX7_quiet_h68 k54 N) a0 x1 x2 x3 x4 x5 x6 x7 x8 x9 r24.2
        else
          (gP kdM 7 0 a0 r24.2).bind fun a26 =>
          (cV kdM 7 a0 (fX7_flameAt a0 x1 r24.2)).bind fun r27 =>
          (sI kdM lnM 9 a26 (r27.1 + 1) x8 r27.2).bind fun M28 =>
          (gP kdM 7 0 a0 M28).bind fun a29 =>
          (cV kdM 7 a0 (fX7_flameAt a0 x1 M28)).bind fun r30 =>
          (sI kdM lnM 9 a29 (r30.1 + 2) x9 r30.2).bind fun M31 =>
          (cV kdM 7 a0 (fX7_ticksMany a0 10 M31)).bind fun r32 =>
          (cV kdM 7 a0 (fX7_spreadNow a0 r32)).bind fun r33 =>
          if 0 ≤ r33.1 then
            fX7_quiet_b155 k54 (fX7_quiet_h68 k54 N) a0 x1 x2 x3 x4 x5 x6 x7 x8 x9 r33.1 r33.1 r33.2
          else
            fX7_quiet_b155 k54 (fX7_quiet_h68 k54 N) a0 x1 x2 x3 x4 x5 x6 x7 x8 x9 r33.1 120 r33.2

set_option maxHeartbeats 4000000 in
set_option maxRecDepth 20000 in
theorem vX7_quiet_h68 {B : ctB} {n : Nat} (hB : ctOk B kdM lnM n) {k54 : Nat → Int32 → Int32 → Int32 → Int32 → Int32 → Int32 → Int32 → Int32 → ctM → Option (Int32 × ctM)} (hk54 : ∀ (a0 : Nat) (x1 : Int32) (x2 : Int32) (x3 : Int32) (x4 : Int32) (x5 : Int32) (x6 : Int32) (x7 : Int32) (x8 : Int32) (M : ctM) (r : Int32 × ctM), k54 a0 x1 x2 x3 x4 x5 x6 x7 x8 M = some r → ctV B mX7_quiet (8, 0, 0) (poI r n) 54 [some (.ref a0), some (.int x1), some (.int x2), some (.int x3), some (.int x4), some (.int x5), some (.int x6), some (.int x7), some (.int x8), none, none, none] [] (0, 0) n M) : ∀ (N : Nat) (a0 : Nat) (x1 : Int32) (x2 : Int32) (x3 : Int32) (x4 : Int32) (x5 : Int32) (x6 : Int32) (x7 : Int32) (x8 : Int32) (x9 : Int32) (M : ctM) (r : Int32 × ctM), fX7_quiet_h68 k54 N a0 x1 x2 x3 x4 x5 x6 x7 x8 x9 M = some r → ctV B mX7_quiet (8, 0, 0) (poI r n) 68 [some (.ref a0), some (.int x1), some (.int x2), some (.int x3), some (.int x4), some (.int x5), some (.int x6), some (.int x7), some (.int x8), some (.int x9), none, none] [] (0, 0) n M := by
  intro N
  induction N with
  | zero => intro a0 x1 x2 x3 x4 x5 x6 x7 x8 x9 M r h; exact absurd h (by simp [fX7_quiet_h68])
  | succ N ih =>
    intro a0 x1 x2 x3 x4 x5 x6 x7 x8 x9 M r h
    rw [fX7_quiet_h68] at h
    refine ct_iload_9 (q := 70) dX7_quiet_68 rfl ?_
    refine ct_iload_4 (q := 72) dX7_quiet_70 rfl ?_
    refine ct_iconst (v := 3) (q := 73) dX7_quiet_72 (by decide) rfl ?_
    refine ct_iadd (q := 74) dX7_quiet_73 rfl ?_
    refine ct_icmp_gt (q := 77) (tgt := 197) dX7_quiet_74 (by decide) rfl (fun z21 => ?_) (fun z21 => ?_)
    · replace h := it_t h z21
      refine ct_iinc_8 (q := 200) (v := x8 + 1) dX7_quiet_197 (by first | rfl | decide) (by decide) rfl rfl ?_
      refine ct_goto (q := 54) dX7_quiet_200 (by decide) ?_
      exact ct_lessK (hk54 a0 x1 x2 x3 x4 x5 x6 x7 (x8 + 1) M r h) (And.intro rfl (And.intro rfl (And.intro rfl (And.intro rfl (And.intro rfl (And.intro rfl (And.intro rfl (And.intro rfl (And.intro rfl (trivial))))))))))
    · replace h := it_f h z21
      refine ct_iload_8 (q := 79) dX7_quiet_77 rfl ?_
      refine ct_i2l (q := 80) dX7_quiet_79 rfl ?_
      refine ct_lconst (v := 0) (q := 81) dX7_quiet_80 (by decide) rfl ?_
      refine ct_ldc2 (q := 84) dX7_quiet_81 wd_1122 rfl ?_
      obtain ⟨r22, gr22, h⟩ := ob h
      refine ct_cSi3 (q := 87) dX7_quiet_84 lk_RX7_76 (by decide) (ctX7_isIn hB gr22) (Nat.le_of_ble_eq_true rfl) rfl ?_
      refine ct_if_eq (q := 90) (tgt := 191) dX7_quiet_87 (by decide) rfl (fun z23 => ?_) (fun z23 => ?_)
      · replace h := it_t h z23
        exact ct_lessK (vX7_quiet_b191 hB hk54 ih a0 x1 x2 x3 x4 x5 x6 x7 x8 x9 r22.2 r h) (And.intro rfl (And.intro rfl (And.intro rfl (And.intro rfl (And.intro rfl (And.intro rfl (And.intro rfl (And.intro rfl (And.intro rfl (And.intro rfl (trivial)))))))))))
      · replace h := it_f h z23
        refine ct_iload_9 (q := 92) dX7_quiet_90 rfl ?_
        refine ct_i2l (q := 93) dX7_quiet_92 rfl ?_
        refine ct_lconst (v := 0) (q := 94) dX7_quiet_93 (by decide) rfl ?_
        refine ct_ldc2 (q := 97) dX7_quiet_94 wd_1122 rfl ?_
        obtain ⟨r24, gr24, h⟩ := ob h
        refine ct_cSi3 (q := 100) dX7_quiet_97 lk_RX7_76 (by decide) (ctX7_isIn hB gr24) (Nat.le_of_ble_eq_true rfl) rfl ?_
        refine ct_if_eq (q := 103) (tgt := 191) dX7_quiet_100 (by decide) rfl (fun z25 => ?_) (fun z25 => ?_)
        · replace h := it_t h z25
          exact ct_lessK (vX7_quiet_b191 hB hk54 ih a0 x1 x2 x3 x4 x5 x6 x7 x8 x9 r24.2 r h) (And.intro rfl (And.intro rfl (And.intro rfl (And.intro rfl (And.intro rfl (And.intro rfl (And.intro rfl (And.intro rfl (And.intro rfl (And.intro rfl (trivial)))))))))))
        · replace h := it_f h z25
          refine ct_aload_0 (q := 104) dX7_quiet_103 rfl ?_
          obtain ⟨a26, ga26, h⟩ := ob h
          refine ct_getP (q := 107) hB dX7_quiet_104 fl_RX7_7 rfl ga26 rfl ?_
          refine ct_aload_0 (q := 108) dX7_quiet_107 rfl ?_
          refine ct_iload_1 (q := 109) dX7_quiet_108 rfl ?_
          obtain ⟨r27, gr27, h⟩ := ob h
          obtain ⟨er27, gr27⟩ := cV_spec gr27
          refine ct_cVi1 (q := 112) hB dX7_quiet_109 lk_RX7_72 (by decide) (ctX7_flameAt hB gr27) er27 (by decide) rfl (Nat.le_of_ble_eq_true rfl) rfl ?_
          refine ct_iconst (v := 1) (q := 113) dX7_quiet_112 (by decide) rfl ?_
          refine ct_iadd (q := 114) dX7_quiet_113 rfl ?_
          refine ct_iload_8 (q := 116) dX7_quiet_114 rfl ?_
          obtain ⟨M28, gM28, h⟩ := ob h
          refine ct_iast (q := 117) hB dX7_quiet_116 gM28 rfl ?_
          refine ct_aload_0 (q := 118) dX7_quiet_117 rfl ?_
          obtain ⟨a29, ga29, h⟩ := ob h
          refine ct_getP (q := 121) hB dX7_quiet_118 fl_RX7_7 rfl ga29 rfl ?_
          refine ct_aload_0 (q := 122) dX7_quiet_121 rfl ?_
          refine ct_iload_1 (q := 123) dX7_quiet_122 rfl ?_
          obtain ⟨r30, gr30, h⟩ := ob h
          obtain ⟨er30, gr30⟩ := cV_spec gr30
          refine ct_cVi1 (q := 126) hB dX7_quiet_123 lk_RX7_72 (by decide) (ctX7_flameAt hB gr30) er30 (by decide) rfl (Nat.le_of_ble_eq_true rfl) rfl ?_
          refine ct_iconst (v := 2) (q := 127) dX7_quiet_126 (by decide) rfl ?_
          refine ct_iadd (q := 128) dX7_quiet_127 rfl ?_
          refine ct_iload_9 (q := 130) dX7_quiet_128 rfl ?_
          obtain ⟨M31, gM31, h⟩ := ob h
          refine ct_iast (q := 131) hB dX7_quiet_130 gM31 rfl ?_
          refine ct_aload_0 (q := 132) dX7_quiet_131 rfl ?_
          refine ct_bipush (v := 10) (q := 134) dX7_quiet_132 (by decide) rfl ?_
          obtain ⟨r32, gr32, h⟩ := ob h
          obtain ⟨er32, gr32⟩ := cV_spec gr32
          refine ct_cVv1 (q := 137) hB dX7_quiet_134 lk_RX7_199 (by decide) (ctX7_ticksMany hB gr32) er32 (by decide) rfl (Nat.le_of_ble_eq_true rfl) rfl ?_
          refine ct_aload_0 (q := 138) dX7_quiet_137 rfl ?_
          obtain ⟨r33, gr33, h⟩ := ob h
          obtain ⟨er33, gr33⟩ := cV_spec gr33
          refine ct_cVi0 (q := 141) hB dX7_quiet_138 lk_RX7_180 (by decide) (ctX7_spreadNow hB gr33) er33 (by decide) rfl (Nat.le_of_ble_eq_true rfl) rfl ?_
          refine ct_istore_10 (q := 143) dX7_quiet_141 (by decide) rfl rfl ?_
          refine ct_iload_10 (q := 145) dX7_quiet_143 rfl ?_
          refine ct_if_ge (q := 148) (tgt := 153) dX7_quiet_145 (by decide) rfl (fun z34 => ?_) (fun z34 => ?_)
          · replace h := it_t h z34
            refine ct_iload_10 (q := 155) dX7_quiet_153 rfl ?_
            exact ct_lessK (vX7_quiet_b155 hB hk54 ih a0 x1 x2 x3 x4 x5 x6 x7 x8 x9 r33.1 r33.1 r33.2 r h) (And.intro rfl (And.intro rfl (And.intro rfl (And.intro rfl (And.intro rfl (And.intro rfl (And.intro rfl (And.intro rfl (And.intro rfl (And.intro rfl (And.intro rfl (trivial))))))))))))
          · replace h := it_f h z34
            refine ct_bipush (v := 120) (q := 150) dX7_quiet_148 (by decide) rfl ?_
            refine ct_goto (q := 155) dX7_quiet_150 (by decide) ?_
            exact ct_lessK (vX7_quiet_b155 hB hk54 ih a0 x1 x2 x3 x4 x5 x6 x7 x8 x9 r33.1 120 r33.2 r h) (And.intro rfl (And.intro rfl (And.intro rfl (And.intro rfl (And.intro rfl (And.intro rfl (And.intro rfl (And.intro rfl (And.intro rfl (And.intro rfl (And.intro rfl (trivial))))))))))))

def fX7_quiet_h54 : Nat → Nat → Int32 → Int32 → Int32 → Int32 → Int32 → Int32 → Int32 → Int32 → ctM → Option (Int32 × ctM)
  | 0, _, _, _, _, _, _, _, _, _, _ => none
  | N + 1, a0, x1, x2, x3, x4, x5, x6, x7, x8, M =>
    if (x3 + 3) < x8 then
      if x2 = 1 then
        some (x5, M)
      else
        (fX7_orNone x7 M).bind fun r23 =>
        some (r23.1, r23.2)
    else
      fX7_quiet_h68 (fX7_quiet_h54 N) 4000 a0 x1 x2 x3 x4 x5 x6 x7 x8 (x4 - 3) M

set_option maxHeartbeats 4000000 in
set_option maxRecDepth 20000 in
theorem vX7_quiet_h54 {B : ctB} {n : Nat} (hB : ctOk B kdM lnM n) : ∀ (N : Nat) (a0 : Nat) (x1 : Int32) (x2 : Int32) (x3 : Int32) (x4 : Int32) (x5 : Int32) (x6 : Int32) (x7 : Int32) (x8 : Int32) (M : ctM) (r : Int32 × ctM), fX7_quiet_h54 N a0 x1 x2 x3 x4 x5 x6 x7 x8 M = some r → ctV B mX7_quiet (8, 0, 0) (poI r n) 54 [some (.ref a0), some (.int x1), some (.int x2), some (.int x3), some (.int x4), some (.int x5), some (.int x6), some (.int x7), some (.int x8), none, none, none] [] (0, 0) n M := by
  intro N
  induction N with
  | zero => intro a0 x1 x2 x3 x4 x5 x6 x7 x8 M r h; exact absurd h (by simp [fX7_quiet_h54])
  | succ N ih =>
    intro a0 x1 x2 x3 x4 x5 x6 x7 x8 M r h
    rw [fX7_quiet_h54] at h
    refine ct_iload_8 (q := 56) dX7_quiet_54 rfl ?_
    refine ct_iload_3 (q := 57) dX7_quiet_56 rfl ?_
    refine ct_iconst (v := 3) (q := 58) dX7_quiet_57 (by decide) rfl ?_
    refine ct_iadd (q := 59) dX7_quiet_58 rfl ?_
    refine ct_icmp_gt (q := 62) (tgt := 203) dX7_quiet_59 (by decide) rfl (fun z21 => ?_) (fun z21 => ?_)
    · replace h := it_t h z21
      refine ct_iload_2 (q := 204) dX7_quiet_203 rfl ?_
      refine ct_iconst (v := 1) (q := 205) dX7_quiet_204 (by decide) rfl ?_
      refine ct_icmp_ne (q := 208) (tgt := 213) dX7_quiet_205 (by decide) rfl (fun z22 => ?_) (fun z22 => ?_)
      · replace h := it_f h z22
        refine ct_iload_7 (q := 215) dX7_quiet_213 rfl ?_
        obtain ⟨r23, gr23, h⟩ := ob h
        refine ct_cSi1 (q := 218) dX7_quiet_215 lk_RX7_183 (by decide) (ctX7_orNone hB gr23) (Nat.le_of_ble_eq_true rfl) rfl ?_
        exact ct_iret dX7_quiet_218 rfl ⟨Nat.le_refl 0, Nat.le_refl 0⟩ (poI_of h)
      · replace h := it_t h z22
        refine ct_iload_5 (q := 210) dX7_quiet_208 rfl ?_
        refine ct_goto (q := 218) dX7_quiet_210 (by decide) ?_
        exact ct_iret dX7_quiet_218 rfl ⟨Nat.le_refl 0, Nat.le_refl 0⟩ (poI_of h)
    · replace h := it_f h z21
      refine ct_iload_4 (q := 64) dX7_quiet_62 rfl ?_
      refine ct_iconst (v := 3) (q := 65) dX7_quiet_64 (by decide) rfl ?_
      refine ct_isub (q := 66) dX7_quiet_65 rfl ?_
      refine ct_istore_9 (q := 68) dX7_quiet_66 (by decide) rfl rfl ?_
      exact ct_lessK (vX7_quiet_h68 hB ih 4000 a0 x1 x2 x3 x4 x5 x6 x7 x8 (x4 - 3) M r h) (And.intro rfl (And.intro rfl (And.intro rfl (And.intro rfl (And.intro rfl (And.intro rfl (And.intro rfl (And.intro rfl (And.intro rfl (And.intro rfl (trivial)))))))))))

def fX7_quiet (a0 : Nat) (x1 : Int32) (x2 : Int32) (M : ctM) : Option (Int32 × ctM) :=
  (cV kdM 7 a0 (fX7_isFlame a0 x1 M)).bind fun r21 =>
  if r21.1 = 0 then
    some ((-1000000001), r21.2)
  else
    (fX7_isIn ((x2 : Int32).toInt64) 0 1 r21.2).bind fun r23 =>
    if r23.1 = 0 then
      some ((-1000000001), r23.2)
    else
      (cV kdM 7 a0 (fX7_laysBy a0 r23.2)).bind fun r25 =>
      (cV kdM 7 a0 (fX7_of a0 x1 1 r25)).bind fun r26 =>
      (cV kdM 7 a0 (fX7_of a0 x1 2 r26.2)).bind fun r27 =>
      fX7_quiet_h54 4000 a0 x1 x2 r26.1 r27.1 (-1) 0 0 (r26.1 - 3) r27.2

set_option maxHeartbeats 4000000 in
set_option maxRecDepth 20000 in
theorem ctX7_quiet {B : ctB} {n : Nat} (hB : ctOk B kdM lnM n) {a0 : Nat} {x1 : Int32} {x2 : Int32} {M : ctM} {r : Int32 × ctM} (h : fX7_quiet a0 x1 x2 M = some r) : ctC B mX7_quiet (8, 0, 0) [.ref a0, .int x1, .int x2] n M (poI r n) := by
  refine ctC_of (by decide) (Nat.le_of_ble_eq_true rfl) ?_
  show ctV B mX7_quiet (8, 0, 0) (poI r n) 0 [some (.ref a0), some (.int x1), some (.int x2), none, none, none, none, none, none, none, none, none] [] (0, 0) n M
  unfold fX7_quiet at h
  refine ct_aload_0 (q := 1) dX7_quiet_0 rfl ?_
  refine ct_iload_1 (q := 2) dX7_quiet_1 rfl ?_
  obtain ⟨r21, gr21, h⟩ := ob h
  obtain ⟨er21, gr21⟩ := cV_spec gr21
  refine ct_cVi1 (q := 5) hB dX7_quiet_2 lk_RX7_121 (by decide) (ctX7_isFlame hB gr21) er21 (by decide) rfl (Nat.le_of_ble_eq_true rfl) rfl ?_
  refine ct_if_eq (q := 8) (tgt := 18) dX7_quiet_5 (by decide) rfl (fun z22 => ?_) (fun z22 => ?_)
  · replace h := it_t h z22
    refine ct_ldc (q := 20) dX7_quiet_18 wd_919 rfl ?_
    exact ct_iret dX7_quiet_20 rfl ⟨Nat.le_refl 0, Nat.le_refl 0⟩ (poI_of h)
  · replace h := it_f h z22
    refine ct_iload_2 (q := 9) dX7_quiet_8 rfl ?_
    refine ct_i2l (q := 10) dX7_quiet_9 rfl ?_
    refine ct_lconst (v := 0) (q := 11) dX7_quiet_10 (by decide) rfl ?_
    refine ct_lconst (v := 1) (q := 12) dX7_quiet_11 (by decide) rfl ?_
    obtain ⟨r23, gr23, h⟩ := ob h
    refine ct_cSi3 (q := 15) dX7_quiet_12 lk_RX7_76 (by decide) (ctX7_isIn hB gr23) (Nat.le_of_ble_eq_true rfl) rfl ?_
    refine ct_if_ne (q := 18) (tgt := 21) dX7_quiet_15 (by decide) rfl (fun z24 => ?_) (fun z24 => ?_)
    · replace h := it_f h z24
      refine ct_aload_0 (q := 22) dX7_quiet_21 rfl ?_
      obtain ⟨r25, gr25, h⟩ := ob h
      obtain ⟨er25, gr25⟩ := cV_spec gr25
      refine ct_cVv0 (q := 25) hB dX7_quiet_22 lk_RX7_189 (by decide) (ctX7_laysBy hB gr25) er25 (by decide) rfl (Nat.le_of_ble_eq_true rfl) rfl ?_
      refine ct_aload_0 (q := 26) dX7_quiet_25 rfl ?_
      refine ct_iload_1 (q := 27) dX7_quiet_26 rfl ?_
      refine ct_iconst (v := 1) (q := 28) dX7_quiet_27 (by decide) rfl ?_
      obtain ⟨r26, gr26, h⟩ := ob h
      obtain ⟨er26, gr26⟩ := cV_spec gr26
      refine ct_cVi2 (q := 31) hB dX7_quiet_28 lk_RX7_80 (by decide) (ctX7_of hB gr26) er26 (by decide) rfl (Nat.le_of_ble_eq_true rfl) rfl ?_
      refine ct_istore_3 (q := 32) dX7_quiet_31 (by decide) rfl rfl ?_
      refine ct_aload_0 (q := 33) dX7_quiet_32 rfl ?_
      refine ct_iload_1 (q := 34) dX7_quiet_33 rfl ?_
      refine ct_iconst (v := 2) (q := 35) dX7_quiet_34 (by decide) rfl ?_
      obtain ⟨r27, gr27, h⟩ := ob h
      obtain ⟨er27, gr27⟩ := cV_spec gr27
      refine ct_cVi2 (q := 38) hB dX7_quiet_35 lk_RX7_80 (by decide) (ctX7_of hB gr27) er27 (by decide) rfl (Nat.le_of_ble_eq_true rfl) rfl ?_
      refine ct_istore_4 (q := 40) dX7_quiet_38 (by decide) rfl rfl ?_
      refine ct_iconst (v := -1) (q := 41) dX7_quiet_40 (by decide) rfl ?_
      refine ct_istore_5 (q := 43) dX7_quiet_41 (by decide) rfl rfl ?_
      refine ct_iconst (v := 0) (q := 44) dX7_quiet_43 (by decide) rfl ?_
      refine ct_istore_6 (q := 46) dX7_quiet_44 (by decide) rfl rfl ?_
      refine ct_iconst (v := 0) (q := 47) dX7_quiet_46 (by decide) rfl ?_
      refine ct_istore_7 (q := 49) dX7_quiet_47 (by decide) rfl rfl ?_
      refine ct_iload_3 (q := 50) dX7_quiet_49 rfl ?_
      refine ct_iconst (v := 3) (q := 51) dX7_quiet_50 (by decide) rfl ?_
      refine ct_isub (q := 52) dX7_quiet_51 rfl ?_
      refine ct_istore_8 (q := 54) dX7_quiet_52 (by decide) rfl rfl ?_
      exact ct_lessK (vX7_quiet_h54 hB  4000 a0 x1 x2 r26.1 r27.1 (-1) 0 0 (r26.1 - 3) r27.2 r h) (And.intro rfl (And.intro rfl (And.intro rfl (And.intro rfl (And.intro rfl (And.intro rfl (And.intro rfl (And.intro rfl (And.intro rfl (trivial))))))))))
    · replace h := it_t h z24
      refine ct_ldc (q := 20) dX7_quiet_18 wd_919 rfl ?_
      exact ct_iret dX7_quiet_20 rfl ⟨Nat.le_refl 0, Nat.le_refl 0⟩ (poI_of h)

def fX7_feed_b47 (k18 : Nat → Int32 → Int32 → Int32 → Int32 → ctM → Option (Int32 × ctM)) (a0 : Nat) (x1 : Int32) (x2 : Int32) (x3 : Int32) (x4 : Int32) (xs0 : Int32) (M : ctM) : Option (Int32 × ctM) :=
  (gP kdM 7 17 a0 M).bind fun a21 =>
  (gI kdM 7 18 a0 M).bind fun x22 =>
  (sI kdM lnM 9 a21 x22 ((xs0 >>> ((24 - (8 * (x4 % 4))) &&& 31)) &&& 255) M).bind fun M23 =>
  (gI kdM 7 18 a0 M23).bind fun x24 =>
  (pI kdM 7 18 a0 (x24 + 1) M23).bind fun M25 =>
  k18 a0 x1 x2 x3 (x4 + 1) M25

set_option maxHeartbeats 4000000 in
set_option maxRecDepth 20000 in
theorem vX7_feed_b47 {B : ctB} {n : Nat} (hB : ctOk B kdM lnM n) {k18 : Nat → Int32 → Int32 → Int32 → Int32 → ctM → Option (Int32 × ctM)} (hk18 : ∀ (a0 : Nat) (x1 : Int32) (x2 : Int32) (x3 : Int32) (x4 : Int32) (M : ctM) (r : Int32 × ctM), k18 a0 x1 x2 x3 x4 M = some r → ctV B mX7_feed (0, 0, 0) (poI r n) 18 [some (.ref a0), some (.int x1), some (.int x2), some (.int x3), some (.int x4), none] [] (0, 0) n M) : ∀ (a0 : Nat) (x1 : Int32) (x2 : Int32) (x3 : Int32) (x4 : Int32) (xs0 : Int32) (M : ctM) (r : Int32 × ctM), fX7_feed_b47 k18 a0 x1 x2 x3 x4 xs0 M = some r → ctV B mX7_feed (0, 0, 0) (poI r n) 47 [some (.ref a0), some (.int x1), some (.int x2), some (.int x3), some (.int x4), none] [.int xs0] (0, 0) n M := by
  intro a0 x1 x2 x3 x4 xs0 M r h
  unfold fX7_feed_b47 at h
  refine ct_istore_5 (q := 49) dX7_feed_47 (by decide) rfl rfl ?_
  refine ct_aload_0 (q := 50) dX7_feed_49 rfl ?_
  obtain ⟨a21, ga21, h⟩ := ob h
  refine ct_getP (q := 53) hB dX7_feed_50 fl_RX7_53 rfl ga21 rfl ?_
  refine ct_aload_0 (q := 54) dX7_feed_53 rfl ?_
  obtain ⟨x22, gx22, h⟩ := ob h
  refine ct_getI (q := 57) hB dX7_feed_54 fl_RX7_209 rfl gx22 rfl ?_
  refine ct_iload_5 (q := 59) dX7_feed_57 rfl ?_
  refine ct_bipush (v := 24) (q := 61) dX7_feed_59 (by decide) rfl ?_
  refine ct_bipush (v := 8) (q := 63) dX7_feed_61 (by decide) rfl ?_
  refine ct_iload_4 (q := 65) dX7_feed_63 rfl ?_
  refine ct_iconst (v := 4) (q := 66) dX7_feed_65 (by decide) rfl ?_
  refine ct_irem (q := 67) dX7_feed_66 (by decide) rfl ?_
  refine ct_imul (q := 68) dX7_feed_67 rfl ?_
  refine ct_isub (q := 69) dX7_feed_68 rfl ?_
  refine ct_ishr (q := 70) dX7_feed_69 rfl ?_
  refine ct_sipush (v := 255) (q := 73) dX7_feed_70 (by decide) rfl ?_
  refine ct_iand (q := 74) dX7_feed_73 rfl ?_
  obtain ⟨M23, gM23, h⟩ := ob h
  refine ct_iast (q := 75) hB dX7_feed_74 gM23 rfl ?_
  refine ct_aload_0 (q := 76) dX7_feed_75 rfl ?_
  refine ct_dup (q := 77) dX7_feed_76 rfl rfl ?_
  obtain ⟨x24, gx24, h⟩ := ob h
  refine ct_getI (q := 80) hB dX7_feed_77 fl_RX7_209 rfl gx24 rfl ?_
  refine ct_iconst (v := 1) (q := 81) dX7_feed_80 (by decide) rfl ?_
  refine ct_iadd (q := 82) dX7_feed_81 rfl ?_
  obtain ⟨M25, gM25, h⟩ := ob h
  refine ct_putI (q := 85) hB dX7_feed_82 fl_RX7_209 rfl rfl (Or.inl rfl) gM25 rfl ?_
  refine ct_iinc_4 (q := 88) (v := x4 + 1) dX7_feed_85 (by first | rfl | decide) (by decide) rfl rfl ?_
  refine ct_goto (q := 18) dX7_feed_88 (by decide) ?_
  exact ct_lessK (hk18 a0 x1 x2 x3 (x4 + 1) M25 r h) (And.intro rfl (And.intro rfl (And.intro rfl (And.intro rfl (And.intro rfl (trivial))))))

def fX7_feed_h18 : Nat → Nat → Int32 → Int32 → Int32 → Int32 → ctM → Option (Int32 × ctM)
  | 0, _, _, _, _, _, _ => none
  | N + 1, a0, x1, x2, x3, x4, M =>
    if 12 ≤ x4 then
      (gI kdM 7 18 a0 M).bind fun x22 =>
      some (x22, M)
    else
      if 4 ≤ x4 then
        if 8 ≤ x4 then
          fX7_feed_b47 (fX7_feed_h18 N) a0 x1 x2 x3 x4 x3 M
        else
          fX7_feed_b47 (fX7_feed_h18 N) a0 x1 x2 x3 x4 x2 M
      else
        fX7_feed_b47 (fX7_feed_h18 N) a0 x1 x2 x3 x4 x1 M

set_option maxHeartbeats 4000000 in
set_option maxRecDepth 20000 in
theorem vX7_feed_h18 {B : ctB} {n : Nat} (hB : ctOk B kdM lnM n) : ∀ (N : Nat) (a0 : Nat) (x1 : Int32) (x2 : Int32) (x3 : Int32) (x4 : Int32) (M : ctM) (r : Int32 × ctM), fX7_feed_h18 N a0 x1 x2 x3 x4 M = some r → ctV B mX7_feed (0, 0, 0) (poI r n) 18 [some (.ref a0), some (.int x1), some (.int x2), some (.int x3), some (.int x4), none] [] (0, 0) n M := by
  intro N
  induction N with
  | zero => intro a0 x1 x2 x3 x4 M r h; exact absurd h (by simp [fX7_feed_h18])
  | succ N ih =>
    intro a0 x1 x2 x3 x4 M r h
    rw [fX7_feed_h18] at h
    refine ct_iload_4 (q := 20) dX7_feed_18 rfl ?_
    refine ct_bipush (v := 12) (q := 22) dX7_feed_20 (by decide) rfl ?_
    refine ct_icmp_ge (q := 25) (tgt := 91) dX7_feed_22 (by decide) rfl (fun z21 => ?_) (fun z21 => ?_)
    · replace h := it_t h z21
      refine ct_aload_0 (q := 92) dX7_feed_91 rfl ?_
      obtain ⟨x22, gx22, h⟩ := ob h
      refine ct_getI (q := 95) hB dX7_feed_92 fl_RX7_209 rfl gx22 rfl ?_
      exact ct_iret dX7_feed_95 rfl ⟨Nat.le_refl 0, Nat.le_refl 0⟩ (poI_of h)
    · replace h := it_f h z21
      refine ct_iload_4 (q := 27) dX7_feed_25 rfl ?_
      refine ct_iconst (v := 4) (q := 28) dX7_feed_27 (by decide) rfl ?_
      refine ct_icmp_ge (q := 31) (tgt := 35) dX7_feed_28 (by decide) rfl (fun z23 => ?_) (fun z23 => ?_)
      · replace h := it_t h z23
        refine ct_iload_4 (q := 37) dX7_feed_35 rfl ?_
        refine ct_bipush (v := 8) (q := 39) dX7_feed_37 (by decide) rfl ?_
        refine ct_icmp_ge (q := 42) (tgt := 46) dX7_feed_39 (by decide) rfl (fun z24 => ?_) (fun z24 => ?_)
        · replace h := it_t h z24
          refine ct_iload_3 (q := 47) dX7_feed_46 rfl ?_
          exact ct_lessK (vX7_feed_b47 hB ih a0 x1 x2 x3 x4 x3 M r h) (And.intro rfl (And.intro rfl (And.intro rfl (And.intro rfl (And.intro rfl (trivial))))))
        · replace h := it_f h z24
          refine ct_iload_2 (q := 43) dX7_feed_42 rfl ?_
          refine ct_goto (q := 47) dX7_feed_43 (by decide) ?_
          exact ct_lessK (vX7_feed_b47 hB ih a0 x1 x2 x3 x4 x2 M r h) (And.intro rfl (And.intro rfl (And.intro rfl (And.intro rfl (And.intro rfl (trivial))))))
      · replace h := it_f h z23
        refine ct_iload_1 (q := 32) dX7_feed_31 rfl ?_
        refine ct_goto (q := 47) dX7_feed_32 (by decide) ?_
        exact ct_lessK (vX7_feed_b47 hB ih a0 x1 x2 x3 x4 x1 M r h) (And.intro rfl (And.intro rfl (And.intro rfl (And.intro rfl (And.intro rfl (trivial))))))

def fX7_feed (a0 : Nat) (x1 : Int32) (x2 : Int32) (x3 : Int32) (M : ctM) : Option (Int32 × ctM) :=
  (gI kdM 7 18 a0 M).bind fun x21 =>
  if (x21 + 12) ≤ 96 then
    fX7_feed_h18 4000 a0 x1 x2 x3 0 M
  else
    some ((-1000000003), M)

set_option maxHeartbeats 4000000 in
set_option maxRecDepth 20000 in
theorem ctX7_feed {B : ctB} {n : Nat} (hB : ctOk B kdM lnM n) {a0 : Nat} {x1 : Int32} {x2 : Int32} {x3 : Int32} {M : ctM} {r : Int32 × ctM} (h : fX7_feed a0 x1 x2 x3 M = some r) : ctC B mX7_feed (0, 0, 0) [.ref a0, .int x1, .int x2, .int x3] n M (poI r n) := by
  refine ctC_of (by decide) (Nat.le_of_ble_eq_true rfl) ?_
  show ctV B mX7_feed (0, 0, 0) (poI r n) 0 [some (.ref a0), some (.int x1), some (.int x2), some (.int x3), none, none] [] (0, 0) n M
  unfold fX7_feed at h
  refine ct_aload_0 (q := 1) dX7_feed_0 rfl ?_
  obtain ⟨x21, gx21, h⟩ := ob h
  refine ct_getI (q := 4) hB dX7_feed_1 fl_RX7_209 rfl gx21 rfl ?_
  refine ct_bipush (v := 12) (q := 6) dX7_feed_4 (by decide) rfl ?_
  refine ct_iadd (q := 7) dX7_feed_6 rfl ?_
  refine ct_bipush (v := 96) (q := 9) dX7_feed_7 (by decide) rfl ?_
  refine ct_icmp_le (q := 12) (tgt := 15) dX7_feed_9 (by decide) rfl (fun z22 => ?_) (fun z22 => ?_)
  · replace h := it_t h z22
    refine ct_iconst (v := 0) (q := 16) dX7_feed_15 (by decide) rfl ?_
    refine ct_istore_4 (q := 18) dX7_feed_16 (by decide) rfl rfl ?_
    exact ct_lessK (vX7_feed_h18 hB  4000 a0 x1 x2 x3 0 M r h) (And.intro rfl (And.intro rfl (And.intro rfl (And.intro rfl (And.intro rfl (trivial))))))
  · replace h := it_f h z22
    refine ct_ldc (q := 14) dX7_feed_12 wd_920 rfl ?_
    exact ct_iret dX7_feed_14 rfl ⟨Nat.le_refl 0, Nat.le_refl 0⟩ (poI_of h)

def fX7_trim (a0 : Nat) (x1 : Int32) (M : ctM) : Option (Int32 × ctM) :=
  (gI kdM 7 18 a0 M).bind fun x21 =>
  (fX7_isIn ((x1 : Int32).toInt64) 0 ((x21 : Int32).toInt64) M).bind fun r22 =>
  if r22.1 = 0 then
    some ((-1000000001), r22.2)
  else
    (pI kdM 7 18 a0 x1 r22.2).bind fun M24 =>
    some (x1, M24)

set_option maxHeartbeats 4000000 in
set_option maxRecDepth 20000 in
theorem ctX7_trim {B : ctB} {n : Nat} (hB : ctOk B kdM lnM n) {a0 : Nat} {x1 : Int32} {M : ctM} {r : Int32 × ctM} (h : fX7_trim a0 x1 M = some r) : ctC B mX7_trim (1, 0, 0) [.ref a0, .int x1] n M (poI r n) := by
  refine ctC_of (by decide) (Nat.le_of_ble_eq_true rfl) ?_
  show ctV B mX7_trim (1, 0, 0) (poI r n) 0 [some (.ref a0), some (.int x1)] [] (0, 0) n M
  unfold fX7_trim at h
  refine ct_iload_1 (q := 1) dX7_trim_0 rfl ?_
  refine ct_i2l (q := 2) dX7_trim_1 rfl ?_
  refine ct_lconst (v := 0) (q := 3) dX7_trim_2 (by decide) rfl ?_
  refine ct_aload_0 (q := 4) dX7_trim_3 rfl ?_
  obtain ⟨x21, gx21, h⟩ := ob h
  refine ct_getI (q := 7) hB dX7_trim_4 fl_RX7_209 rfl gx21 rfl ?_
  refine ct_i2l (q := 8) dX7_trim_7 rfl ?_
  obtain ⟨r22, gr22, h⟩ := ob h
  refine ct_cSi3 (q := 11) dX7_trim_8 lk_RX7_76 (by decide) (ctX7_isIn hB gr22) (Nat.le_of_ble_eq_true rfl) rfl ?_
  refine ct_if_ne (q := 14) (tgt := 17) dX7_trim_11 (by decide) rfl (fun z23 => ?_) (fun z23 => ?_)
  · replace h := it_f h z23
    refine ct_aload_0 (q := 18) dX7_trim_17 rfl ?_
    refine ct_iload_1 (q := 19) dX7_trim_18 rfl ?_
    obtain ⟨M24, gM24, h⟩ := ob h
    refine ct_putI (q := 22) hB dX7_trim_19 fl_RX7_209 rfl rfl (Or.inl rfl) gM24 rfl ?_
    refine ct_iload_1 (q := 23) dX7_trim_22 rfl ?_
    exact ct_iret dX7_trim_23 rfl ⟨Nat.le_refl 0, Nat.le_refl 0⟩ (poI_of h)
  · replace h := it_t h z23
    refine ct_ldc (q := 16) dX7_trim_14 wd_919 rfl ?_
    exact ct_iret dX7_trim_16 rfl ⟨Nat.le_refl 0, Nat.le_refl 0⟩ (poI_of h)

