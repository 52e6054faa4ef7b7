def fX7_isSheet (x0 : Int32) (M : ctM) : Option (Int32 × ctM) :=
  (fX7_isIn ((x0 : Int32).toInt64) 0 3 M).bind fun r21 =>
  if r21.1 = 0 ∨ r21.1 = 1 then some (r21.1, r21.2) else none

set_option maxHeartbeats 4000000 in
set_option maxRecDepth 20000 in
theorem ctX7_isSheet {B : ctB} {n : Nat} (hB : ctOk B kdM lnM n) {x0 : Int32} {M : ctM} {r : Int32 × ctM} (h : fX7_isSheet x0 M = some r) : ctC B mX7_isSheet (1, 0, 0) [.int x0] n M (poI r n) := by
  refine ctC_of (by decide) (Nat.le_of_ble_eq_true rfl) ?_
  show ctV B mX7_isSheet (1, 0, 0) (poI r n) 0 [some (.int x0)] [] (0, 0) n M
  unfold fX7_isSheet at h
  refine ct_iload_0 (q := 1) dX7_isSheet_0 rfl ?_
  refine ct_i2l (q := 2) dX7_isSheet_1 rfl ?_
  refine ct_lconst (v := 0) (q := 3) dX7_isSheet_2 (by decide) rfl ?_
  refine ct_ldc2 (q := 6) dX7_isSheet_3 wd_1218 rfl ?_
  obtain ⟨r21, gr21, h⟩ := ob h
  refine ct_cSi3 (q := 9) dX7_isSheet_6 lk_RX7_76 (by decide) (ctX7_isIn hB gr21) (Nat.le_of_ble_eq_true rfl) rfl ?_
  by_cases z22 : r21.1 = 0 ∨ r21.1 = 1
  · exact ct_zret dX7_isSheet_9 rfl z22 ⟨Nat.le_refl 0, Nat.le_refl 0⟩ (poI_of (it_t h z22))
  · exact absurd (it_f h z22) (by simp)

def fX7_sheet_h69 : Nat → Nat → Int32 → Int32 → ctM → Option (Int32 × ctM)
  | 0, _, _, _, _ => none
  | N + 1, a0, x1, x4, M =>
    if 24 ≤ x4 then
      (gP kdM 7 5 a0 M).bind fun a22 =>
      (aI kdM lnM 9 a22 x1 M).bind fun x23 =>
      some (x23, M)
    else
      (gP kdM 7 6 a0 M).bind fun a24 =>
      (sI kdM lnM 9 a24 ((24 * x1) + x4) 0 M).bind fun M25 =>
      fX7_sheet_h69 N a0 x1 (x4 + 1) M25

set_option maxHeartbeats 4000000 in
set_option maxRecDepth 20000 in
theorem vX7_sheet_h69 {B : ctB} {n : Nat} (hB : ctOk B kdM lnM n) : ∀ (N : Nat) (a0 : Nat) (x1 : Int32) (x4 : Int32) (M : ctM) (r : Int32 × ctM), fX7_sheet_h69 N a0 x1 x4 M = some r → ctV B mX7_sheet (2, 0, 0) (poI r n) 69 [some (.ref a0), some (.int x1), none, none, some (.int x4)] [] (0, 0) n M := by
  intro N
  induction N with
  | zero => intro a0 x1 x4 M r h; exact absurd h (by simp [fX7_sheet_h69])
  | succ N ih =>
    intro a0 x1 x4 M r h
    rw [fX7_sheet_h69] at h
    refine ct_iload_4 (q := 71) dX7_sheet_69 rfl ?_
    refine ct_bipush (v := 24) (q := 73) dX7_sheet_71 (by decide) rfl ?_
    refine ct_icmp_ge (q := 76) (tgt := 95) dX7_sheet_73 (by decide) rfl (fun z21 => ?_) (fun z21 => ?_)
    · replace h := it_t h z21
      refine ct_aload_0 (q := 96) dX7_sheet_95 rfl ?_
      obtain ⟨a22, ga22, h⟩ := ob h
      refine ct_getP (q := 99) hB dX7_sheet_96 fl_RX7_22 rfl ga22 rfl ?_
      refine ct_iload_1 (q := 100) dX7_sheet_99 rfl ?_
      obtain ⟨x23, gx23, h⟩ := ob h
      refine ct_iald (q := 101) hB dX7_sheet_100 gx23 rfl ?_
      exact ct_iret dX7_sheet_101 rfl ⟨Nat.le_refl 0, Nat.le_refl 0⟩ (poI_of h)
    · replace h := it_f h z21
      refine ct_aload_0 (q := 77) dX7_sheet_76 rfl ?_
      obtain ⟨a24, ga24, h⟩ := ob h
      refine ct_getP (q := 80) hB dX7_sheet_77 fl_RX7_25 rfl ga24 rfl ?_
      refine ct_bipush (v := 24) (q := 82) dX7_sheet_80 (by decide) rfl ?_
      refine ct_iload_1 (q := 83) dX7_sheet_82 rfl ?_
      refine ct_imul (q := 84) dX7_sheet_83 rfl ?_
      refine ct_iload_4 (q := 86) dX7_sheet_84 rfl ?_
      refine ct_iadd (q := 87) dX7_sheet_86 rfl ?_
      refine ct_iconst (v := 0) (q := 88) dX7_sheet_87 (by decide) rfl ?_
      obtain ⟨M25, gM25, h⟩ := ob h
      refine ct_iast (q := 89) hB dX7_sheet_88 gM25 rfl ?_
      refine ct_iinc_4 (q := 92) (v := x4 + 1) dX7_sheet_89 (by first | rfl | decide) (by decide) rfl rfl ?_
      refine ct_goto (q := 69) dX7_sheet_92 (by decide) ?_
      exact ct_lessK (ih a0 x1 (x4 + 1) M25 r h) (And.intro rfl (And.intro rfl (And.intro rfl (trivial))))

def fX7_sheet_b65 (a0 : Nat) (x1 : Int32) (as0 : Nat) (xs1 : Int32) (xs2 : Int32) (M : ctM) : Option (Int32 × ctM) :=
  (sI kdM lnM 9 as0 xs1 xs2 M).bind fun M21 =>
  fX7_sheet_h69 4000 a0 x1 0 M21

set_option maxHeartbeats 4000000 in
set_option maxRecDepth 20000 in
theorem vX7_sheet_b65 {B : ctB} {n : Nat} (hB : ctOk B kdM lnM n) : ∀ (a0 : Nat) (x1 : Int32) (as0 : Nat) (xs1 : Int32) (xs2 : Int32) (M : ctM) (r : Int32 × ctM), fX7_sheet_b65 a0 x1 as0 xs1 xs2 M = some r → ctV B mX7_sheet (2, 0, 0) (poI r n) 65 [some (.ref a0), some (.int x1), none, none, none] [.int xs2, .int xs1, .ref as0] (0, 0) n M := by
  intro a0 x1 as0 xs1 xs2 M r h
  unfold fX7_sheet_b65 at h
  obtain ⟨M21, gM21, h⟩ := ob h
  refine ct_iast (q := 66) hB dX7_sheet_65 gM21 rfl ?_
  refine ct_iconst (v := 0) (q := 67) dX7_sheet_66 (by decide) rfl ?_
  refine ct_istore_4 (q := 69) dX7_sheet_67 (by decide) rfl rfl ?_
  exact ct_lessK (vX7_sheet_h69 hB  4000 a0 x1 0 M21 r h) (And.intro rfl (And.intro rfl (And.intro rfl (trivial))))

def fX7_sheet_b44 (a0 : Nat) (x1 : Int32) (x2 : Int32) (x3 : Int32) (M : ctM) : Option (Int32 × ctM) :=
  (gP kdM 7 4 a0 M).bind fun a21 =>
  (sI kdM lnM 9 a21 x1 x2 M).bind fun M22 =>
  (gP kdM 7 5 a0 M22).bind fun a23 =>
  if 0 ≤ x2 then
    fX7_sheet_b65 a0 x1 a23 x1 x3 M22
  else
    fX7_sheet_b65 a0 x1 a23 x1 0 M22

set_option maxHeartbeats 4000000 in
set_option maxRecDepth 20000 in
theorem vX7_sheet_b44 {B : ctB} {n : Nat} (hB : ctOk B kdM lnM n) : ∀ (a0 : Nat) (x1 : Int32) (x2 : Int32) (x3 : Int32) (M : ctM) (r : Int32 × ctM), fX7_sheet_b44 a0 x1 x2 x3 M = some r → ctV B mX7_sheet (2, 0, 0) (poI r n) 44 [some (.ref a0), some (.int x1), some (.int x2), some (.int x3), none] [] (0, 0) n M := by
  intro a0 x1 x2 x3 M r h
  unfold fX7_sheet_b44 at h
  refine ct_aload_0 (q := 45) dX7_sheet_44 rfl ?_
  obtain ⟨a21, ga21, h⟩ := ob h
  refine ct_getP (q := 48) hB dX7_sheet_45 fl_RX7_19 rfl ga21 rfl ?_
  refine ct_iload_1 (q := 49) dX7_sheet_48 rfl ?_
  refine ct_iload_2 (q := 50) dX7_sheet_49 rfl ?_
  obtain ⟨M22, gM22, h⟩ := ob h
  refine ct_iast (q := 51) hB dX7_sheet_50 gM22 rfl ?_
  refine ct_aload_0 (q := 52) dX7_sheet_51 rfl ?_
  obtain ⟨a23, ga23, h⟩ := ob h
  refine ct_getP (q := 55) hB dX7_sheet_52 fl_RX7_22 rfl ga23 rfl ?_
  refine ct_iload_1 (q := 56) dX7_sheet_55 rfl ?_
  refine ct_iload_2 (q := 57) dX7_sheet_56 rfl ?_
  refine ct_if_ge (q := 60) (tgt := 64) dX7_sheet_57 (by decide) rfl (fun z24 => ?_) (fun z24 => ?_)
  · replace h := it_t h z24
    refine ct_iload_3 (q := 65) dX7_sheet_64 rfl ?_
    exact ct_lessK (vX7_sheet_b65 hB  a0 x1 a23 x1 x3 M22 r h) (And.intro rfl (And.intro rfl (trivial)))
  · replace h := it_f h z24
    refine ct_iconst (v := 0) (q := 61) dX7_sheet_60 (by decide) rfl ?_
    refine ct_goto (q := 65) dX7_sheet_61 (by decide) ?_
    exact ct_lessK (vX7_sheet_b65 hB  a0 x1 a23 x1 0 M22 r h) (And.intro rfl (And.intro rfl (trivial)))

def fX7_sheet_b32 (a0 : Nat) (x1 : Int32) (x2 : Int32) (x3 : Int32) (M : ctM) : Option (Int32 × ctM) :=
  if x2 < 0 then
    fX7_sheet_b44 a0 x1 x2 x3 M
  else
    if 0 ≤ x3 then
      fX7_sheet_b44 a0 x1 x2 x3 M
    else
      some ((-1000000014), M)

set_option maxHeartbeats 4000000 in
set_option maxRecDepth 20000 in
theorem vX7_sheet_b32 {B : ctB} {n : Nat} (hB : ctOk B kdM lnM n) : ∀ (a0 : Nat) (x1 : Int32) (x2 : Int32) (x3 : Int32) (M : ctM) (r : Int32 × ctM), fX7_sheet_b32 a0 x1 x2 x3 M = some r → ctV B mX7_sheet (2, 0, 0) (poI r n) 32 [some (.ref a0), some (.int x1), some (.int x2), some (.int x3), none] [] (0, 0) n M := by
  intro a0 x1 x2 x3 M r h
  unfold fX7_sheet_b32 at h
  refine ct_iload_2 (q := 33) dX7_sheet_32 rfl ?_
  refine ct_if_lt (q := 36) (tgt := 44) dX7_sheet_33 (by decide) rfl (fun z21 => ?_) (fun z21 => ?_)
  · replace h := it_t h z21
    exact ct_lessK (vX7_sheet_b44 hB  a0 x1 x2 x3 M r h) (And.intro rfl (And.intro rfl (And.intro rfl (And.intro rfl (trivial)))))
  · replace h := it_f h z21
    refine ct_iload_3 (q := 37) dX7_sheet_36 rfl ?_
    refine ct_if_ge (q := 40) (tgt := 44) dX7_sheet_37 (by decide) rfl (fun z22 => ?_) (fun z22 => ?_)
    · replace h := it_t h z22
      exact ct_lessK (vX7_sheet_b44 hB  a0 x1 x2 x3 M r h) (And.intro rfl (And.intro rfl (And.intro rfl (And.intro rfl (trivial)))))
    · replace h := it_f h z22
      refine ct_ldcw (q := 43) dX7_sheet_40 wd_1220 rfl ?_
      exact ct_iret dX7_sheet_43 rfl ⟨Nat.le_refl 0, Nat.le_refl 0⟩ (poI_of h)

def fX7_sheet (a0 : Nat) (x1 : Int32) (x2 : Int32) (x3 : Int32) (M : ctM) : Option (Int32 × ctM) :=
  (fX7_isSheet x1 M).bind fun r21 =>
  if r21.1 = 0 then
    some ((-1000000001), r21.2)
  else
    (fX7_isIn ((x2 : Int32).toInt64) (-1) 1 r21.2).bind fun r23 =>
    if r23.1 = 0 then
      some ((-1000000001), r23.2)
    else
      if x2 < 0 then
        fX7_sheet_b32 a0 x1 x2 x3 r23.2
      else
        if x3 ≤ 24 then
          fX7_sheet_b32 a0 x1 x2 x3 r23.2
        else
          some ((-1000000001), r23.2)

set_option maxHeartbeats 4000000 in
set_option maxRecDepth 20000 in
theorem ctX7_sheet {B : ctB} {n : Nat} (hB : ctOk B kdM lnM n) {a0 : Nat} {x1 : Int32} {x2 : Int32} {x3 : Int32} {M : ctM} {r : Int32 × ctM} (h : fX7_sheet a0 x1 x2 x3 M = some r) : ctC B mX7_sheet (2, 0, 0) [.ref a0, .int x1, .int x2, .int x3] n M (poI r n) := by
  refine ctC_of (by decide) (Nat.le_of_ble_eq_true rfl) ?_
  show ctV B mX7_sheet (2, 0, 0) (poI r n) 0 [some (.ref a0), some (.int x1), some (.int x2), some (.int x3), none] [] (0, 0) n M
  unfold fX7_sheet at h
  refine ct_iload_1 (q := 1) dX7_sheet_0 rfl ?_
  obtain ⟨r21, gr21, h⟩ := ob h
  refine ct_cSi1 (q := 4) dX7_sheet_1 lk_RX7_309 (by decide) (ctX7_isSheet hB gr21) (Nat.le_of_ble_eq_true rfl) rfl ?_
  refine ct_if_eq (q := 7) (tgt := 29) dX7_sheet_4 (by decide) rfl (fun z22 => ?_) (fun z22 => ?_)
  · replace h := it_t h z22
    refine ct_ldc (q := 31) dX7_sheet_29 wd_919 rfl ?_
    exact ct_iret dX7_sheet_31 rfl ⟨Nat.le_refl 0, Nat.le_refl 0⟩ (poI_of h)
  · replace h := it_f h z22
    refine ct_iload_2 (q := 8) dX7_sheet_7 rfl ?_
    refine ct_i2l (q := 9) dX7_sheet_8 rfl ?_
    refine ct_ldc2 (q := 12) dX7_sheet_9 wd_1219 rfl ?_
    refine ct_lconst (v := 1) (q := 13) dX7_sheet_12 (by decide) rfl ?_
    obtain ⟨r23, gr23, h⟩ := ob h
    refine ct_cSi3 (q := 16) dX7_sheet_13 lk_RX7_76 (by decide) (ctX7_isIn hB gr23) (Nat.le_of_ble_eq_true rfl) rfl ?_
    refine ct_if_eq (q := 19) (tgt := 29) dX7_sheet_16 (by decide) rfl (fun z24 => ?_) (fun z24 => ?_)
    · replace h := it_t h z24
      refine ct_ldc (q := 31) dX7_sheet_29 wd_919 rfl ?_
      exact ct_iret dX7_sheet_31 rfl ⟨Nat.le_refl 0, Nat.le_refl 0⟩ (poI_of h)
    · replace h := it_f h z24
      refine ct_iload_2 (q := 20) dX7_sheet_19 rfl ?_
      refine ct_if_lt (q := 23) (tgt := 32) dX7_sheet_20 (by decide) rfl (fun z25 => ?_) (fun z25 => ?_)
      · replace h := it_t h z25
        exact ct_lessK (vX7_sheet_b32 hB  a0 x1 x2 x3 r23.2 r h) (And.intro rfl (And.intro rfl (And.intro rfl (And.intro rfl (trivial)))))
      · replace h := it_f h z25
        refine ct_iload_3 (q := 24) dX7_sheet_23 rfl ?_
        refine ct_bipush (v := 24) (q := 26) dX7_sheet_24 (by decide) rfl ?_
        refine ct_icmp_le (q := 29) (tgt := 32) dX7_sheet_26 (by decide) rfl (fun z26 => ?_) (fun z26 => ?_)
        · replace h := it_t h z26
          exact ct_lessK (vX7_sheet_b32 hB  a0 x1 x2 x3 r23.2 r h) (And.intro rfl (And.intro rfl (And.intro rfl (And.intro rfl (trivial)))))
        · replace h := it_f h z26
          refine ct_ldc (q := 31) dX7_sheet_29 wd_919 rfl ?_
          exact ct_iret dX7_sheet_31 rfl ⟨Nat.le_refl 0, Nat.le_refl 0⟩ (poI_of h)

def fX7_mark_b126 (as0 : Nat) (xs1 : Int32) (xs2 : Int32) (M : ctM) : Option (Int32 × ctM) :=
  (sI kdM lnM 9 as0 xs1 xs2 M).bind fun M21 =>
  some (1, M21)

set_option maxHeartbeats 4000000 in
set_option maxRecDepth 20000 in
theorem vX7_mark_b126 {B : ctB} {n : Nat} (hB : ctOk B kdM lnM n) : ∀ (as0 : Nat) (xs1 : Int32) (xs2 : Int32) (M : ctM) (r : Int32 × ctM), fX7_mark_b126 as0 xs1 xs2 M = some r → ctV B mX7_mark (2, 0, 0) (poI r n) 126 [none, none, none, none] [.int xs2, .int xs1, .ref as0] (0, 0) n M := by
  intro as0 xs1 xs2 M r h
  unfold fX7_mark_b126 at h
  obtain ⟨M21, gM21, h⟩ := ob h
  refine ct_iast (q := 127) hB dX7_mark_126 gM21 rfl ?_
  refine ct_iconst (v := 1) (q := 128) dX7_mark_127 (by decide) rfl ?_
  exact ct_iret dX7_mark_128 rfl ⟨Nat.le_refl 0, Nat.le_refl 0⟩ (poI_of h)

def fX7_mark_b96 (a0 : Nat) (x1 : Int32) (x2 : Int32) (x3 : Int32) (M : ctM) : Option (Int32 × ctM) :=
  (gP kdM 7 6 a0 M).bind fun a21 =>
  (gP kdM 7 4 a0 M).bind fun a22 =>
  (aI kdM lnM 9 a22 x1 M).bind fun x23 =>
  if x23 = 0 then
    fX7_mark_b126 a21 ((24 * x1) + x2) ((x3 <<< (16 &&& 31)) >>> (16 &&& 31)) M
  else
    fX7_mark_b126 a21 ((24 * x1) + x2) x3 M

set_option maxHeartbeats 4000000 in
set_option maxRecDepth 20000 in
theorem vX7_mark_b96 {B : ctB} {n : Nat} (hB : ctOk B kdM lnM n) : ∀ (a0 : Nat) (x1 : Int32) (x2 : Int32) (x3 : Int32) (M : ctM) (r : Int32 × ctM), fX7_mark_b96 a0 x1 x2 x3 M = some r → ctV B mX7_mark (2, 0, 0) (poI r n) 96 [some (.ref a0), some (.int x1), some (.int x2), some (.int x3)] [] (0, 0) n M := by
  intro a0 x1 x2 x3 M r h
  unfold fX7_mark_b96 at h
  refine ct_aload_0 (q := 97) dX7_mark_96 rfl ?_
  obtain ⟨a21, ga21, h⟩ := ob h
  refine ct_getP (q := 100) hB dX7_mark_97 fl_RX7_25 rfl ga21 rfl ?_
  refine ct_bipush (v := 24) (q := 102) dX7_mark_100 (by decide) rfl ?_
  refine ct_iload_1 (q := 103) dX7_mark_102 rfl ?_
  refine ct_imul (q := 104) dX7_mark_103 rfl ?_
  refine ct_iload_2 (q := 105) dX7_mark_104 rfl ?_
  refine ct_iadd (q := 106) dX7_mark_105 rfl ?_
  refine ct_aload_0 (q := 107) dX7_mark_106 rfl ?_
  obtain ⟨a22, ga22, h⟩ := ob h
  refine ct_getP (q := 110) hB dX7_mark_107 fl_RX7_19 rfl ga22 rfl ?_
  refine ct_iload_1 (q := 111) dX7_mark_110 rfl ?_
  obtain ⟨x23, gx23, h⟩ := ob h
  refine ct_iald (q := 112) hB dX7_mark_111 gx23 rfl ?_
  refine ct_if_ne (q := 115) (tgt := 125) dX7_mark_112 (by decide) rfl (fun z24 => ?_) (fun z24 => ?_)
  · replace h := it_f h z24
    refine ct_iload_3 (q := 126) dX7_mark_125 rfl ?_
    exact ct_lessK (vX7_mark_b126 hB  a21 ((24 * x1) + x2) x3 M r h) (trivial)
  · replace h := it_t h z24
    refine ct_iload_3 (q := 116) dX7_mark_115 rfl ?_
    refine ct_bipush (v := 16) (q := 118) dX7_mark_116 (by decide) rfl ?_
    refine ct_ishl (q := 119) dX7_mark_118 rfl ?_
    refine ct_bipush (v := 16) (q := 121) dX7_mark_119 (by decide) rfl ?_
    refine ct_ishr (q := 122) dX7_mark_121 rfl ?_
    refine ct_goto (q := 126) dX7_mark_122 (by decide) ?_
    exact ct_lessK (vX7_mark_b126 hB  a21 ((24 * x1) + x2) ((x3 <<< (16 &&& 31)) >>> (16 &&& 31)) M r h) (trivial)

def fX7_mark_b63 (a0 : Nat) (x1 : Int32) (x2 : Int32) (x3 : Int32) (M : ctM) : Option (Int32 × ctM) :=
  (gP kdM 7 4 a0 M).bind fun a21 =>
  (aI kdM lnM 9 a21 x1 M).bind fun x22 =>
  if x22 = 1 then
    if x3 = (-1000000005) then
      fX7_mark_b96 a0 x1 x2 x3 M
    else
      (fX7_isIn ((x3 : Int32).toInt64) (-99999) 99999 M).bind fun r25 =>
      if r25.1 = 0 then
        some ((-1000000001), r25.2)
      else
        fX7_mark_b96 a0 x1 x2 x3 r25.2
  else
    fX7_mark_b96 a0 x1 x2 x3 M

set_option maxHeartbeats 4000000 in
set_option maxRecDepth 20000 in
theorem vX7_mark_b63 {B : ctB} {n : Nat} (hB : ctOk B kdM lnM n) : ∀ (a0 : Nat) (x1 : Int32) (x2 : Int32) (x3 : Int32) (M : ctM) (r : Int32 × ctM), fX7_mark_b63 a0 x1 x2 x3 M = some r → ctV B mX7_mark (2, 0, 0) (poI r n) 63 [some (.ref a0), some (.int x1), some (.int x2), some (.int x3)] [] (0, 0) n M := by
  intro a0 x1 x2 x3 M r h
  unfold fX7_mark_b63 at h
  refine ct_aload_0 (q := 64) dX7_mark_63 rfl ?_
  obtain ⟨a21, ga21, h⟩ := ob h
  refine ct_getP (q := 67) hB dX7_mark_64 fl_RX7_19 rfl ga21 rfl ?_
  refine ct_iload_1 (q := 68) dX7_mark_67 rfl ?_
  obtain ⟨x22, gx22, h⟩ := ob h
  refine ct_iald (q := 69) hB dX7_mark_68 gx22 rfl ?_
  refine ct_iconst (v := 1) (q := 70) dX7_mark_69 (by decide) rfl ?_
  refine ct_icmp_ne (q := 73) (tgt := 96) dX7_mark_70 (by decide) rfl (fun z23 => ?_) (fun z23 => ?_)
  · replace h := it_f h z23
    exact ct_lessK (vX7_mark_b96 hB  a0 x1 x2 x3 M r h) (And.intro rfl (And.intro rfl (And.intro rfl (And.intro rfl (trivial)))))
  · replace h := it_t h z23
    refine ct_iload_3 (q := 74) dX7_mark_73 rfl ?_
    refine ct_ldc (q := 76) dX7_mark_74 wd_1073 rfl ?_
    refine ct_icmp_eq (q := 79) (tgt := 96) dX7_mark_76 (by decide) rfl (fun z24 => ?_) (fun z24 => ?_)
    · replace h := it_t h z24
      exact ct_lessK (vX7_mark_b96 hB  a0 x1 x2 x3 M r h) (And.intro rfl (And.intro rfl (And.intro rfl (And.intro rfl (trivial)))))
    · replace h := it_f h z24
      refine ct_iload_3 (q := 80) dX7_mark_79 rfl ?_
      refine ct_i2l (q := 81) dX7_mark_80 rfl ?_
      refine ct_ldc2 (q := 84) dX7_mark_81 wd_1227 rfl ?_
      refine ct_ldc2 (q := 87) dX7_mark_84 wd_1228 rfl ?_
      obtain ⟨r25, gr25, h⟩ := ob h
      refine ct_cSi3 (q := 90) dX7_mark_87 lk_RX7_76 (by decide) (ctX7_isIn hB gr25) (Nat.le_of_ble_eq_true rfl) rfl ?_
      refine ct_if_ne (q := 93) (tgt := 96) dX7_mark_90 (by decide) rfl (fun z26 => ?_) (fun z26 => ?_)
      · replace h := it_f h z26
        exact ct_lessK (vX7_mark_b96 hB  a0 x1 x2 x3 r25.2 r h) (And.intro rfl (And.intro rfl (And.intro rfl (And.intro rfl (trivial)))))
      · replace h := it_t h z26
        refine ct_ldc (q := 95) dX7_mark_93 wd_919 rfl ?_
        exact ct_iret dX7_mark_95 rfl ⟨Nat.le_refl 0, Nat.le_refl 0⟩ (poI_of h)

def fX7_mark (a0 : Nat) (x1 : Int32) (x2 : Int32) (x3 : Int32) (M : ctM) : Option (Int32 × ctM) :=
  (fX7_isSheet x1 M).bind fun r21 =>
  if r21.1 = 0 then
    some ((-1000000001), r21.2)
  else
    (gP kdM 7 4 a0 r21.2).bind fun a23 =>
    (aI kdM lnM 9 a23 x1 r21.2).bind fun x24 =>
    if 0 ≤ x24 then
      (gP kdM 7 5 a0 r21.2).bind fun a26 =>
      (aI kdM lnM 9 a26 x1 r21.2).bind fun x27 =>
      (fX7_isIn ((x2 : Int32).toInt64) 0 (((x27 - 1) : Int32).toInt64) r21.2).bind fun r28 =>
      if r28.1 = 0 then
        some ((-1000000013), r28.2)
      else
        (gP kdM 7 4 a0 r28.2).bind fun a30 =>
        (aI kdM lnM 9 a30 x1 r28.2).bind fun x31 =>
        if x31 = 0 then
          if x3 = (-1000000005) then
            some ((-1000000012), r28.2)
          else
            fX7_mark_b63 a0 x1 x2 x3 r28.2
        else
          fX7_mark_b63 a0 x1 x2 x3 r28.2
    else
      some ((-1000000011), r21.2)

set_option maxHeartbeats 4000000 in
set_option maxRecDepth 20000 in
theorem ctX7_mark {B : ctB} {n : Nat} (hB : ctOk B kdM lnM n) {a0 : Nat} {x1 : Int32} {x2 : Int32} {x3 : Int32} {M : ctM} {r : Int32 × ctM} (h : fX7_mark a0 x1 x2 x3 M = some r) : ctC B mX7_mark (2, 0, 0) [.ref a0, .int x1, .int x2, .int x3] n M (poI r n) := by
  refine ctC_of (by decide) (Nat.le_of_ble_eq_true rfl) ?_
  show ctV B mX7_mark (2, 0, 0) (poI r n) 0 [some (.ref a0), some (.int x1), some (.int x2), some (.int x3)] [] (0, 0) n M
  unfold fX7_mark at h
  refine ct_iload_1 (q := 1) dX7_mark_0 rfl ?_
  obtain ⟨r21, gr21, h⟩ := ob h
  refine ct_cSi1 (q := 4) dX7_mark_1 lk_RX7_309 (by decide) (ctX7_isSheet hB gr21) (Nat.le_of_ble_eq_true rfl) rfl ?_
  refine ct_if_ne (q := 7) (tgt := 10) dX7_mark_4 (by decide) rfl (fun z22 => ?_) (fun z22 => ?_)
  · replace h := it_f h z22
    refine ct_aload_0 (q := 11) dX7_mark_10 rfl ?_
    obtain ⟨a23, ga23, h⟩ := ob h
    refine ct_getP (q := 14) hB dX7_mark_11 fl_RX7_19 rfl ga23 rfl ?_
    refine ct_iload_1 (q := 15) dX7_mark_14 rfl ?_
    obtain ⟨x24, gx24, h⟩ := ob h
    refine ct_iald (q := 16) hB dX7_mark_15 gx24 rfl ?_
    refine ct_if_ge (q := 19) (tgt := 23) dX7_mark_16 (by decide) rfl (fun z25 => ?_) (fun z25 => ?_)
    · replace h := it_t h z25
      refine ct_iload_2 (q := 24) dX7_mark_23 rfl ?_
      refine ct_i2l (q := 25) dX7_mark_24 rfl ?_
      refine ct_lconst (v := 0) (q := 26) dX7_mark_25 (by decide) rfl ?_
      refine ct_aload_0 (q := 27) dX7_mark_26 rfl ?_
      obtain ⟨a26, ga26, h⟩ := ob h
      refine ct_getP (q := 30) hB dX7_mark_27 fl_RX7_22 rfl ga26 rfl ?_
      refine ct_iload_1 (q := 31) dX7_mark_30 rfl ?_
      obtain ⟨x27, gx27, h⟩ := ob h
      refine ct_iald (q := 32) hB dX7_mark_31 gx27 rfl ?_
      refine ct_iconst (v := 1) (q := 33) dX7_mark_32 (by decide) rfl ?_
      refine ct_isub (q := 34) dX7_mark_33 rfl ?_
      refine ct_i2l (q := 35) dX7_mark_34 rfl ?_
      obtain ⟨r28, gr28, h⟩ := ob h
      refine ct_cSi3 (q := 38) dX7_mark_35 lk_RX7_76 (by decide) (ctX7_isIn hB gr28) (Nat.le_of_ble_eq_true rfl) rfl ?_
      refine ct_if_ne (q := 41) (tgt := 45) dX7_mark_38 (by decide) rfl (fun z29 => ?_) (fun z29 => ?_)
      · replace h := it_f h z29
        refine ct_aload_0 (q := 46) dX7_mark_45 rfl ?_
        obtain ⟨a30, ga30, h⟩ := ob h
        refine ct_getP (q := 49) hB dX7_mark_46 fl_RX7_19 rfl ga30 rfl ?_
        refine ct_iload_1 (q := 50) dX7_mark_49 rfl ?_
        obtain ⟨x31, gx31, h⟩ := ob h
        refine ct_iald (q := 51) hB dX7_mark_50 gx31 rfl ?_
        refine ct_if_ne (q := 54) (tgt := 63) dX7_mark_51 (by decide) rfl (fun z32 => ?_) (fun z32 => ?_)
        · replace h := it_f h z32
          exact ct_lessK (vX7_mark_b63 hB  a0 x1 x2 x3 r28.2 r h) (And.intro rfl (And.intro rfl (And.intro rfl (And.intro rfl (trivial)))))
        · replace h := it_t h z32
          refine ct_iload_3 (q := 55) dX7_mark_54 rfl ?_
          refine ct_ldc (q := 57) dX7_mark_55 wd_1073 rfl ?_
          refine ct_icmp_ne (q := 60) (tgt := 63) dX7_mark_57 (by decide) rfl (fun z33 => ?_) (fun z33 => ?_)
          · replace h := it_f h z33
            exact ct_lessK (vX7_mark_b63 hB  a0 x1 x2 x3 r28.2 r h) (And.intro rfl (And.intro rfl (And.intro rfl (And.intro rfl (trivial)))))
          · replace h := it_t h z33
            refine ct_ldc (q := 62) dX7_mark_60 wd_993 rfl ?_
            exact ct_iret dX7_mark_62 rfl ⟨Nat.le_refl 0, Nat.le_refl 0⟩ (poI_of h)
      · replace h := it_t h z29
        refine ct_ldcw (q := 44) dX7_mark_41 wd_1226 rfl ?_
        exact ct_iret dX7_mark_44 rfl ⟨Nat.le_refl 0, Nat.le_refl 0⟩ (poI_of h)
    · replace h := it_f h z25
      refine ct_ldcw (q := 22) dX7_mark_19 wd_1225 rfl ?_
      exact ct_iret dX7_mark_22 rfl ⟨Nat.le_refl 0, Nat.le_refl 0⟩ (poI_of h)
  · replace h := it_t h z22
    refine ct_ldc (q := 9) dX7_mark_7 wd_919 rfl ?_
    exact ct_iret dX7_mark_9 rfl ⟨Nat.le_refl 0, Nat.le_refl 0⟩ (poI_of h)

def fX7_learn_b150 (k43 : Nat → Int32 → Int32 → Int32 → Int32 → Int32 → ctM → Option (Int32 × ctM)) (a0 : Nat) (x1 : Int32) (x2 : Int32) (x3 : Int32) (x5 : Int32) (xs0 : Int32) (M : ctM) : Option (Int32 × ctM) :=
  k43 a0 x1 x2 x3 xs0 (x5 + 1) M

set_option maxHeartbeats 4000000 in
set_option maxRecDepth 20000 in
theorem vX7_learn_b150 {B : ctB} {n : Nat} (hB : ctOk B kdM lnM n) {k43 : Nat → Int32 → Int32 → Int32 → Int32 → Int32 → ctM → Option (Int32 × ctM)} (hk43 : ∀ (a0 : Nat) (x1 : Int32) (x2 : Int32) (x3 : Int32) (x4 : Int32) (x5 : Int32) (M : ctM) (r : Int32 × ctM), k43 a0 x1 x2 x3 x4 x5 M = some r → ctV B mX7_learn (7, 0, 0) (poI r n) 43 [some (.ref a0), some (.int x1), some (.int x2), some (.int x3), some (.int x4), some (.int x5), none, none, none] [] (0, 0) n M) : ∀ (a0 : Nat) (x1 : Int32) (x2 : Int32) (x3 : Int32) (x5 : Int32) (xs0 : Int32) (M : ctM) (r : Int32 × ctM), fX7_learn_b150 k43 a0 x1 x2 x3 x5 xs0 M = some r → ctV B mX7_learn (7, 0, 0) (poI r n) 150 [some (.ref a0), some (.int x1), some (.int x2), some (.int x3), none, some (.int x5), none, none, none] [.int xs0] (0, 0) n M := by
  intro a0 x1 x2 x3 x5 xs0 M r h
  unfold fX7_learn_b150 at h
  refine ct_istore_4 (q := 152) dX7_learn_150 (by decide) rfl rfl ?_
  refine ct_iinc_5 (q := 155) (v := x5 + 1) dX7_learn_152 (by first | rfl | decide) (by decide) rfl rfl ?_
  refine ct_goto (q := 43) dX7_learn_155 (by decide) ?_
  exact ct_lessK (hk43 a0 x1 x2 x3 xs0 (x5 + 1) M r h) (And.intro rfl (And.intro rfl (And.intro rfl (And.intro rfl (And.intro rfl (And.intro rfl (trivial)))))))

def fX7_learn_b135 (k43 : Nat → Int32 → Int32 → Int32 → Int32 → Int32 → ctM → Option (Int32 × ctM)) (a0 : Nat) (x1 : Int32) (x2 : Int32) (x4 : Int32) (x5 : Int32) (x6 : Int32) (xs0 : Int32) (M : ctM) : Option (Int32 × ctM) :=
  if x6 ≤ x4 then
    fX7_learn_b150 k43 a0 x1 x2 xs0 x5 x4 M
  else
    fX7_learn_b150 k43 a0 x1 x2 xs0 x5 x6 M

set_option maxHeartbeats 4000000 in
set_option maxRecDepth 20000 in
theorem vX7_learn_b135 {B : ctB} {n : Nat} (hB : ctOk B kdM lnM n) {k43 : Nat → Int32 → Int32 → Int32 → Int32 → Int32 → ctM → Option (Int32 × ctM)} (hk43 : ∀ (a0 : Nat) (x1 : Int32) (x2 : Int32) (x3 : Int32) (x4 : Int32) (x5 : Int32) (M : ctM) (r : Int32 × ctM), k43 a0 x1 x2 x3 x4 x5 M = some r → ctV B mX7_learn (7, 0, 0) (poI r n) 43 [some (.ref a0), some (.int x1), some (.int x2), some (.int x3), some (.int x4), some (.int x5), none, none, none] [] (0, 0) n M) : ∀ (a0 : Nat) (x1 : Int32) (x2 : Int32) (x4 : Int32) (x5 : Int32) (x6 : Int32) (xs0 : Int32) (M : ctM) (r : Int32 × ctM), fX7_learn_b135 k43 a0 x1 x2 x4 x5 x6 xs0 M = some r → ctV B mX7_learn (7, 0, 0) (poI r n) 135 [some (.ref a0), some (.int x1), some (.int x2), none, some (.int x4), some (.int x5), some (.int x6), none, none] [.int xs0] (0, 0) n M := by
  intro a0 x1 x2 x4 x5 x6 xs0 M r h
  unfold fX7_learn_b135 at h
  refine ct_istore_3 (q := 136) dX7_learn_135 (by decide) rfl rfl ?_
  refine ct_iload_6 (q := 138) dX7_learn_136 rfl ?_
  refine ct_iload_4 (q := 140) dX7_learn_138 rfl ?_
  refine ct_icmp_le (q := 143) (tgt := 148) dX7_learn_140 (by decide) rfl (fun z21 => ?_) (fun z21 => ?_)
  · replace h := it_t h z21
    refine ct_iload_4 (q := 150) dX7_learn_148 rfl ?_
    exact ct_lessK (vX7_learn_b150 hB hk43 a0 x1 x2 xs0 x5 x4 M r h) (And.intro rfl (And.intro rfl (And.intro rfl (And.intro rfl (And.intro rfl (trivial))))))
  · replace h := it_f h z21
    refine ct_iload_6 (q := 145) dX7_learn_143 rfl ?_
    refine ct_goto (q := 150) dX7_learn_145 (by decide) ?_
    exact ct_lessK (vX7_learn_b150 hB hk43 a0 x1 x2 xs0 x5 x6 M r h) (And.intro rfl (And.intro rfl (And.intro rfl (And.intro rfl (And.intro rfl (trivial))))))

def fX7_learn_b109 (k43 : Nat → Int32 → Int32 → Int32 → Int32 → Int32 → ctM → Option (Int32 × ctM)) (k64 : Nat → Int32 → Int32 → Int32 → Int32 → Int32 → Int32 → Int32 → ctM → Option (Int32 × ctM)) (a0 : Nat) (x1 : Int32) (x2 : Int32) (x3 : Int32) (x4 : Int32) (x5 : Int32) (x7 : Int32) (xs0 : Int32) (xs1 : Int32) (M : ctM) : Option (Int32 × ctM) :=
  k64 a0 x1 x2 x3 x4 x5 (xs0 + xs1) (x7 + 1) M

set_option maxHeartbeats 4000000 in
set_option maxRecDepth 20000 in
theorem vX7_learn_b109 {B : ctB} {n : Nat} (hB : ctOk B kdM lnM n) {k43 : Nat → Int32 → Int32 → Int32 → Int32 → Int32 → ctM → Option (Int32 × ctM)} {k64 : Nat → Int32 → Int32 → Int32 → Int32 → Int32 → Int32 → Int32 → ctM → Option (Int32 × ctM)} (hk43 : ∀ (a0 : Nat) (x1 : Int32) (x2 : Int32) (x3 : Int32) (x4 : Int32) (x5 : Int32) (M : ctM) (r : Int32 × ctM), k43 a0 x1 x2 x3 x4 x5 M = some r → ctV B mX7_learn (7, 0, 0) (poI r n) 43 [some (.ref a0), some (.int x1), some (.int x2), some (.int x3), some (.int x4), some (.int x5), none, none, none] [] (0, 0) n M) (hk64 : ∀ (a0 : Nat) (x1 : Int32) (x2 : Int32) (x3 : Int32) (x4 : Int32) (x5 : Int32) (x6 : Int32) (x7 : Int32) (M : ctM) (r : Int32 × ctM), k64 a0 x1 x2 x3 x4 x5 x6 x7 M = some r → ctV B mX7_learn (7, 0, 0) (poI r n) 64 [some (.ref a0), some (.int x1), some (.int x2), some (.int x3), some (.int x4), some (.int x5), some (.int x6), some (.int x7), none] [] (0, 0) n M) : ∀ (a0 : Nat) (x1 : Int32) (x2 : Int32) (x3 : Int32) (x4 : Int32) (x5 : Int32) (x7 : Int32) (xs0 : Int32) (xs1 : Int32) (M : ctM) (r : Int32 × ctM), fX7_learn_b109 k43 k64 a0 x1 x2 x3 x4 x5 x7 xs0 xs1 M = some r → ctV B mX7_learn (7, 0, 0) (poI r n) 109 [some (.ref a0), some (.int x1), some (.int x2), some (.int x3), some (.int x4), some (.int x5), none, some (.int x7), none] [.int xs1, .int xs0] (0, 0) n M := by
  intro a0 x1 x2 x3 x4 x5 x7 xs0 xs1 M r h
  unfold fX7_learn_b109 at h
  refine ct_iadd (q := 110) dX7_learn_109 rfl ?_
  refine ct_istore_6 (q := 112) dX7_learn_110 (by decide) rfl rfl ?_
  refine ct_iinc_7 (q := 115) (v := x7 + 1) dX7_learn_112 (by first | rfl | decide) (by decide) rfl rfl ?_
  refine ct_goto (q := 64) dX7_learn_115 (by decide) ?_
  exact ct_lessK (hk64 a0 x1 x2 x3 x4 x5 (xs0 + xs1) (x7 + 1) M r h) (And.intro rfl (And.intro rfl (And.intro rfl (And.intro rfl (And.intro rfl (And.intro rfl (And.intro rfl (And.intro rfl (trivial)))))))))

def fX7_learn_h64 (k43 : Nat → Int32 → Int32 → Int32 → Int32 → Int32 → ctM → Option (Int32 × ctM)) : Nat → Nat → Int32 → Int32 → Int32 → Int32 → Int32 → Int32 → Int32 → ctM → Option (Int32 × ctM)
  | 0, _, _, _, _, _, _, _, _, _ => none
  | N + 1, a0, x1, x2, x3, x4, x5, x6, x7, M =>
    (gP kdM 7 5 a0 M).bind fun a21 =>
    (aI kdM lnM 9 a21 x1 M).bind fun x22 =>
    if x22 ≤ x7 then
      (cV kdM 7 a0 (fX7_laysBack a0 M)).bind fun r24 =>
      if x6 ≤ x4 then
        fX7_learn_b135 k43 a0 x1 x2 x4 x5 x6 x3 r24
      else
        fX7_learn_b135 k43 a0 x1 x2 x4 x5 x6 x5 r24
    else
      (cV kdM 7 a0 (fX7_ticks a0 M)).bind fun r26 =>
      (gP kdM 7 6 a0 r26.2).bind fun a27 =>
      (aI kdM lnM 9 a27 ((24 * x1) + x7) r26.2).bind fun x28 =>
      (cV kdM 7 a0 (fX7_of a0 x2 4 r26.2)).bind fun r29 =>
      if x28 = r29.1 then
        fX7_learn_b109 k43 (fX7_learn_h64 k43 N) a0 x1 x2 x3 x4 x5 x7 x6 1 r29.2
      else
        fX7_learn_b109 k43 (fX7_learn_h64 k43 N) a0 x1 x2 x3 x4 x5 x7 x6 0 r29.2

set_option maxHeartbeats 4000000 in
set_option maxRecDepth 20000 in
theorem vX7_learn_h64 {B : ctB} {n : Nat} (hB : ctOk B kdM lnM n) {k43 : Nat → Int32 → Int32 → Int32 → Int32 → Int32 → ctM → Option (Int32 × ctM)} (hk43 : ∀ (a0 : Nat) (x1 : Int32) (x2 : Int32) (x3 : Int32) (x4 : Int32) (x5 : Int32) (M : ctM) (r : Int32 × ctM), k43 a0 x1 x2 x3 x4 x5 M = some r → ctV B mX7_learn (7, 0, 0) (poI r n) 43 [some (.ref a0), some (.int x1), some (.int x2), some (.int x3), some (.int x4), some (.int x5), none, none, none] [] (0, 0) n M) : ∀ (N : Nat) (a0 : Nat) (x1 : Int32) (x2 : Int32) (x3 : Int32) (x4 : Int32) (x5 : Int32) (x6 : Int32) (x7 : Int32) (M : ctM) (r : Int32 × ctM), fX7_learn_h64 k43 N a0 x1 x2 x3 x4 x5 x6 x7 M = some r → ctV B mX7_learn (7, 0, 0) (poI r n) 64 [some (.ref a0), some (.int x1), some (.int x2), some (.int x3), some (.int x4), some (.int x5), some (.int x6), some (.int x7), none] [] (0, 0) n M := by
  intro N
  induction N with
  | zero => intro a0 x1 x2 x3 x4 x5 x6 x7 M r h; exact absurd h (by simp [fX7_learn_h64])
  | succ N ih =>
    intro a0 x1 x2 x3 x4 x5 x6 x7 M r h
    rw [fX7_learn_h64] at h
    refine ct_iload_7 (q := 66) dX7_learn_64 rfl ?_
    refine ct_aload_0 (q := 67) dX7_learn_66 rfl ?_
    obtain ⟨a21, ga21, h⟩ := ob h
    refine ct_getP (q := 70) hB dX7_learn_67 fl_RX7_22 rfl ga21 rfl ?_
    refine ct_iload_1 (q := 71) dX7_learn_70 rfl ?_
    obtain ⟨x22, gx22, h⟩ := ob h
    refine ct_iald (q := 72) hB dX7_learn_71 gx22 rfl ?_
    refine ct_icmp_ge (q := 75) (tgt := 118) dX7_learn_72 (by decide) rfl (fun z23 => ?_) (fun z23 => ?_)
    · replace h := it_t h z23
      refine ct_aload_0 (q := 119) dX7_learn_118 rfl ?_
      obtain ⟨r24, gr24, h⟩ := ob h
      obtain ⟨er24, gr24⟩ := cV_spec gr24
      refine ct_cVv0 (q := 122) hB dX7_learn_119 lk_RX7_192 (by decide) (ctX7_laysBack hB gr24) er24 (by decide) rfl (Nat.le_of_ble_eq_true rfl) rfl ?_
      refine ct_iload_6 (q := 124) dX7_learn_122 rfl ?_
      refine ct_iload_4 (q := 126) dX7_learn_124 rfl ?_
      refine ct_icmp_le (q := 129) (tgt := 134) dX7_learn_126 (by decide) rfl (fun z25 => ?_) (fun z25 => ?_)
      · replace h := it_t h z25
        refine ct_iload_3 (q := 135) dX7_learn_134 rfl ?_
        exact ct_lessK (vX7_learn_b135 hB hk43 a0 x1 x2 x4 x5 x6 x3 r24 r h) (And.intro rfl (And.intro rfl (And.intro rfl (And.intro rfl (And.intro rfl (And.intro rfl (trivial)))))))
      · replace h := it_f h z25
        refine ct_iload_5 (q := 131) dX7_learn_129 rfl ?_
        refine ct_goto (q := 135) dX7_learn_131 (by decide) ?_
        exact ct_lessK (vX7_learn_b135 hB hk43 a0 x1 x2 x4 x5 x6 x5 r24 r h) (And.intro rfl (And.intro rfl (And.intro rfl (And.intro rfl (And.intro rfl (And.intro rfl (trivial)))))))
    · replace h := it_f h z23
      refine ct_aload_0 (q := 76) dX7_learn_75 rfl ?_
      obtain ⟨r26, gr26, h⟩ := ob h
      obtain ⟨er26, gr26⟩ := cV_spec gr26
      refine ct_cVi0 (q := 79) hB dX7_learn_76 lk_RX7_167 (by decide) (ctX7_ticks hB gr26) er26 (by decide) rfl (Nat.le_of_ble_eq_true rfl) rfl ?_
      refine ct_istore_8 (q := 81) dX7_learn_79 (by decide) rfl rfl ?_
      refine ct_iload_6 (q := 83) dX7_learn_81 rfl ?_
      refine ct_aload_0 (q := 84) dX7_learn_83 rfl ?_
      obtain ⟨a27, ga27, h⟩ := ob h
      refine ct_getP (q := 87) hB dX7_learn_84 fl_RX7_25 rfl ga27 rfl ?_
      refine ct_bipush (v := 24) (q := 89) dX7_learn_87 (by decide) rfl ?_
      refine ct_iload_1 (q := 90) dX7_learn_89 rfl ?_
      refine ct_imul (q := 91) dX7_learn_90 rfl ?_
      refine ct_iload_7 (q := 93) dX7_learn_91 rfl ?_
      refine ct_iadd (q := 94) dX7_learn_93 rfl ?_
      obtain ⟨x28, gx28, h⟩ := ob h
      refine ct_iald (q := 95) hB dX7_learn_94 gx28 rfl ?_
      refine ct_aload_0 (q := 96) dX7_learn_95 rfl ?_
      refine ct_iload_2 (q := 97) dX7_learn_96 rfl ?_
      refine ct_iconst (v := 4) (q := 98) dX7_learn_97 (by decide) rfl ?_
      obtain ⟨r29, gr29, h⟩ := ob h
      obtain ⟨er29, gr29⟩ := cV_spec gr29
      refine ct_cVi2 (q := 101) hB dX7_learn_98 lk_RX7_80 (by decide) (ctX7_of hB gr29) er29 (by decide) rfl (Nat.le_of_ble_eq_true rfl) rfl ?_
      refine ct_icmp_ne (q := 104) (tgt := 108) dX7_learn_101 (by decide) rfl (fun z30 => ?_) (fun z30 => ?_)
      · replace h := it_f h z30
        refine ct_iconst (v := 0) (q := 109) dX7_learn_108 (by decide) rfl ?_
        exact ct_lessK (vX7_learn_b109 hB hk43 ih a0 x1 x2 x3 x4 x5 x7 x6 0 r29.2 r h) (And.intro rfl (And.intro rfl (And.intro rfl (And.intro rfl (And.intro rfl (And.intro rfl (And.intro rfl (trivial))))))))
      · replace h := it_t h z30
        refine ct_iconst (v := 1) (q := 105) dX7_learn_104 (by decide) rfl ?_
        refine ct_goto (q := 109) dX7_learn_105 (by decide) ?_
        exact ct_lessK (vX7_learn_b109 hB hk43 ih a0 x1 x2 x3 x4 x5 x7 x6 1 r29.2 r h) (And.intro rfl (And.intro rfl (And.intro rfl (And.intro rfl (And.intro rfl (And.intro rfl (And.intro rfl (trivial))))))))

def fX7_learn_h43 : Nat → Nat → Int32 → Int32 → Int32 → Int32 → Int32 → ctM → Option (Int32 × ctM)
  | 0, _, _, _, _, _, _, _ => none
  | N + 1, a0, x1, x2, x3, x4, x5, M =>
    if 30 ≤ x5 then
      some (x3, M)
    else
      (gP kdM 7 0 a0 M).bind fun a22 =>
      (sI kdM lnM 9 a22 3 x5 M).bind fun M23 =>
      fX7_learn_h64 (fX7_learn_h43 N) 4000 a0 x1 x2 x3 x4 x5 0 0 M23

set_option maxHeartbeats 4000000 in
set_option maxRecDepth 20000 in
theorem vX7_learn_h43 {B : ctB} {n : Nat} (hB : ctOk B kdM lnM n) : ∀ (N : Nat) (a0 : Nat) (x1 : Int32) (x2 : Int32) (x3 : Int32) (x4 : Int32) (x5 : Int32) (M : ctM) (r : Int32 × ctM), fX7_learn_h43 N a0 x1 x2 x3 x4 x5 M = some r → ctV B mX7_learn (7, 0, 0) (poI r n) 43 [some (.ref a0), some (.int x1), some (.int x2), some (.int x3), some (.int x4), some (.int x5), none, none, none] [] (0, 0) n M := by
  intro N
  induction N with
  | zero => intro a0 x1 x2 x3 x4 x5 M r h; exact absurd h (by simp [fX7_learn_h43])
  | succ N ih =>
    intro a0 x1 x2 x3 x4 x5 M r h
    rw [fX7_learn_h43] at h
    refine ct_iload_5 (q := 45) dX7_learn_43 rfl ?_
    refine ct_bipush (v := 30) (q := 47) dX7_learn_45 (by decide) rfl ?_
    refine ct_icmp_ge (q := 50) (tgt := 158) dX7_learn_47 (by decide) rfl (fun z21 => ?_) (fun z21 => ?_)
    · replace h := it_t h z21
      refine ct_iload_3 (q := 159) dX7_learn_158 rfl ?_
      exact ct_iret dX7_learn_159 rfl ⟨Nat.le_refl 0, Nat.le_refl 0⟩ (poI_of h)
    · replace h := it_f h z21
      refine ct_aload_0 (q := 51) dX7_learn_50 rfl ?_
      obtain ⟨a22, ga22, h⟩ := ob h
      refine ct_getP (q := 54) hB dX7_learn_51 fl_RX7_7 rfl ga22 rfl ?_
      refine ct_iconst (v := 3) (q := 55) dX7_learn_54 (by decide) rfl ?_
      refine ct_iload_5 (q := 57) dX7_learn_55 rfl ?_
      obtain ⟨M23, gM23, h⟩ := ob h
      refine ct_iast (q := 58) hB dX7_learn_57 gM23 rfl ?_
      refine ct_iconst (v := 0) (q := 59) dX7_learn_58 (by decide) rfl ?_
      refine ct_istore_6 (q := 61) dX7_learn_59 (by decide) rfl rfl ?_
      refine ct_iconst (v := 0) (q := 62) dX7_learn_61 (by decide) rfl ?_
      refine ct_istore_7 (q := 64) dX7_learn_62 (by decide) rfl rfl ?_
      exact ct_lessK (vX7_learn_h64 hB ih 4000 a0 x1 x2 x3 x4 x5 0 0 M23 r h) (And.intro rfl (And.intro rfl (And.intro rfl (And.intro rfl (And.intro rfl (And.intro rfl (And.intro rfl (And.intro rfl (trivial)))))))))

def fX7_learn (a0 : Nat) (x1 : Int32) (x2 : Int32) (M : ctM) : Option (Int32 × ctM) :=
  (fX7_isSheet x1 M).bind fun r21 =>
  if r21.1 = 0 then
    some ((-1000000001), r21.2)
  else
    (cV kdM 7 a0 (fX7_isFlame a0 x2 r21.2)).bind fun r23 =>
    if r23.1 = 0 then
      some ((-1000000001), r23.2)
    else
      (gP kdM 7 4 a0 r23.2).bind fun a25 =>
      (aI kdM lnM 9 a25 x1 r23.2).bind fun x26 =>
      if 0 ≤ x26 then
        (cV kdM 7 a0 (fX7_laysBy a0 r23.2)).bind fun r28 =>
        fX7_learn_h43 4000 a0 x1 x2 0 (-1) 0 r28
      else
        some ((-1000000011), r23.2)

set_option maxHeartbeats 4000000 in
set_option maxRecDepth 20000 in
theorem ctX7_learn {B : ctB} {n : Nat} (hB : ctOk B kdM lnM n) {a0 : Nat} {x1 : Int32} {x2 : Int32} {M : ctM} {r : Int32 × ctM} (h : fX7_learn a0 x1 x2 M = some r) : ctC B mX7_learn (7, 0, 0) [.ref a0, .int x1, .int x2] n M (poI r n) := by
  refine ctC_of (by decide) (Nat.le_of_ble_eq_true rfl) ?_
  show ctV B mX7_learn (7, 0, 0) (poI r n) 0 [some (.ref a0), some (.int x1), some (.int x2), none, none, none, none, none, none] [] (0, 0) n M
  unfold fX7_learn at h
  refine ct_iload_1 (q := 1) dX7_learn_0 rfl ?_
  obtain ⟨r21, gr21, h⟩ := ob h
  refine ct_cSi1 (q := 4) dX7_learn_1 lk_RX7_309 (by decide) (ctX7_isSheet hB gr21) (Nat.le_of_ble_eq_true rfl) rfl ?_
  refine ct_if_eq (q := 7) (tgt := 15) dX7_learn_4 (by decide) rfl (fun z22 => ?_) (fun z22 => ?_)
  · replace h := it_t h z22
    refine ct_ldc (q := 17) dX7_learn_15 wd_919 rfl ?_
    exact ct_iret dX7_learn_17 rfl ⟨Nat.le_refl 0, Nat.le_refl 0⟩ (poI_of h)
  · replace h := it_f h z22
    refine ct_aload_0 (q := 8) dX7_learn_7 rfl ?_
    refine ct_iload_2 (q := 9) dX7_learn_8 rfl ?_
    obtain ⟨r23, gr23, h⟩ := ob h
    obtain ⟨er23, gr23⟩ := cV_spec gr23
    refine ct_cVi1 (q := 12) hB dX7_learn_9 lk_RX7_121 (by decide) (ctX7_isFlame hB gr23) er23 (by decide) rfl (Nat.le_of_ble_eq_true rfl) rfl ?_
    refine ct_if_ne (q := 15) (tgt := 18) dX7_learn_12 (by decide) rfl (fun z24 => ?_) (fun z24 => ?_)
    · replace h := it_f h z24
      refine ct_aload_0 (q := 19) dX7_learn_18 rfl ?_
      obtain ⟨a25, ga25, h⟩ := ob h
      refine ct_getP (q := 22) hB dX7_learn_19 fl_RX7_19 rfl ga25 rfl ?_
      refine ct_iload_1 (q := 23) dX7_learn_22 rfl ?_
      obtain ⟨x26, gx26, h⟩ := ob h
      refine ct_iald (q := 24) hB dX7_learn_23 gx26 rfl ?_
      refine ct_if_ge (q := 27) (tgt := 31) dX7_learn_24 (by decide) rfl (fun z27 => ?_) (fun z27 => ?_)
      · replace h := it_t h z27
        refine ct_aload_0 (q := 32) dX7_learn_31 rfl ?_
        obtain ⟨r28, gr28, h⟩ := ob h
        obtain ⟨er28, gr28⟩ := cV_spec gr28
        refine ct_cVv0 (q := 35) hB dX7_learn_32 lk_RX7_189 (by decide) (ctX7_laysBy hB gr28) er28 (by decide) rfl (Nat.le_of_ble_eq_true rfl) rfl ?_
        refine ct_iconst (v := 0) (q := 36) dX7_learn_35 (by decide) rfl ?_
        refine ct_istore_3 (q := 37) dX7_learn_36 (by decide) rfl rfl ?_
        refine ct_iconst (v := -1) (q := 38) dX7_learn_37 (by decide) rfl ?_
        refine ct_istore_4 (q := 40) dX7_learn_38 (by decide) rfl rfl ?_
        refine ct_iconst (v := 0) (q := 41) dX7_learn_40 (by decide) rfl ?_
        refine ct_istore_5 (q := 43) dX7_learn_41 (by decide) rfl rfl ?_
        exact ct_lessK (vX7_learn_h43 hB  4000 a0 x1 x2 0 (-1) 0 r28 r h) (And.intro rfl (And.intro rfl (And.intro rfl (And.intro rfl (And.intro rfl (And.intro rfl (trivial)))))))
      · replace h := it_f h z27
        refine ct_ldcw (q := 30) dX7_learn_27 wd_1225 rfl ?_
        exact ct_iret dX7_learn_30 rfl ⟨Nat.le_refl 0, Nat.le_refl 0⟩ (poI_of h)
    · replace h := it_t h z24
      refine ct_ldc (q := 17) dX7_learn_15 wd_919 rfl ?_
      exact ct_iret dX7_learn_17 rfl ⟨Nat.le_refl 0, Nat.le_refl 0⟩ (poI_of h)

def fX7_pour_b103 (k27 : Nat → Int32 → Int32 → Int32 → ctM → Option (Int32 × ctM)) (a0 : Nat) (x1 : Int32) (x2 : Int32) (x3 : Int32) (M : ctM) : Option (Int32 × ctM) :=
  k27 a0 x1 x2 (x3 + 1) M

set_option maxHeartbeats 4000000 in
set_option maxRecDepth 20000 in
theorem vX7_pour_b103 {B : ctB} {n : Nat} (hB : ctOk B kdM lnM n) {k27 : Nat → Int32 → Int32 → Int32 → ctM → Option (Int32 × ctM)} (hk27 : ∀ (a0 : Nat) (x1 : Int32) (x2 : Int32) (x3 : Int32) (M : ctM) (r : Int32 × ctM), k27 a0 x1 x2 x3 M = some r → ctV B mX7_pour (2, 0, 0) (poI r n) 27 [some (.ref a0), some (.int x1), some (.int x2), some (.int x3), none, none] [] (0, 0) n M) : ∀ (a0 : Nat) (x1 : Int32) (x2 : Int32) (x3 : Int32) (M : ctM) (r : Int32 × ctM), fX7_pour_b103 k27 a0 x1 x2 x3 M = some r → ctV B mX7_pour (2, 0, 0) (poI r n) 103 [some (.ref a0), some (.int x1), some (.int x2), some (.int x3), none, none] [] (0, 0) n M := by
  intro a0 x1 x2 x3 M r h
  unfold fX7_pour_b103 at h
  refine ct_iinc_3 (q := 106) (v := x3 + 1) dX7_pour_103 (by first | rfl | decide) (by decide) rfl rfl ?_
  refine ct_goto (q := 27) dX7_pour_106 (by decide) ?_
  exact ct_lessK (hk27 a0 x1 x2 (x3 + 1) M r h) (And.intro rfl (And.intro rfl (And.intro rfl (And.intro rfl (trivial)))))

def fX7_pour_b101 (k27 : Nat → Int32 → Int32 → Int32 → ctM → Option (Int32 × ctM)) (a0 : Nat) (x1 : Int32) (x3 : Int32) (xs0 : Int32) (xs1 : Int32) (M : ctM) : Option (Int32 × ctM) :=
  fX7_pour_b103 k27 a0 x1 (xs0 + xs1) x3 M

set_option maxHeartbeats 4000000 in
set_option maxRecDepth 20000 in
theorem vX7_pour_b101 {B : ctB} {n : Nat} (hB : ctOk B kdM lnM n) {k27 : Nat → Int32 → Int32 → Int32 → ctM → Option (Int32 × ctM)} (hk27 : ∀ (a0 : Nat) (x1 : Int32) (x2 : Int32) (x3 : Int32) (M : ctM) (r : Int32 × ctM), k27 a0 x1 x2 x3 M = some r → ctV B mX7_pour (2, 0, 0) (poI r n) 27 [some (.ref a0), some (.int x1), some (.int x2), some (.int x3), none, none] [] (0, 0) n M) : ∀ (a0 : Nat) (x1 : Int32) (x3 : Int32) (xs0 : Int32) (xs1 : Int32) (M : ctM) (r : Int32 × ctM), fX7_pour_b101 k27 a0 x1 x3 xs0 xs1 M = some r → ctV B mX7_pour (2, 0, 0) (poI r n) 101 [some (.ref a0), some (.int x1), none, some (.int x3), none, none] [.int xs1, .int xs0] (0, 0) n M := by
  intro a0 x1 x3 xs0 xs1 M r h
  unfold fX7_pour_b101 at h
  refine ct_iadd (q := 102) dX7_pour_101 rfl ?_
  refine ct_istore_2 (q := 103) dX7_pour_102 (by decide) rfl rfl ?_
  exact ct_lessK (vX7_pour_b103 hB hk27 a0 x1 (xs0 + xs1) x3 M r h) (And.intro rfl (And.intro rfl (And.intro rfl (And.intro rfl (trivial)))))

def fX7_pour_h27 : Nat → Nat → Int32 → Int32 → Int32 → ctM → Option (Int32 × ctM)
  | 0, _, _, _, _, _ => none
  | N + 1, a0, x1, x2, x3, M =>
    (gP kdM 7 5 a0 M).bind fun a21 =>
    (aI kdM lnM 9 a21 x1 M).bind fun x22 =>
    if x22 ≤ x3 then
      some (x2, M)
    else
      (gP kdM 7 0 a0 M).bind fun a24 =>
      (aI kdM lnM 9 a24 0 M).bind fun x25 =>
      if x25 ≤ x3 then
        some (x2, M)
      else
        (gP kdM 7 6 a0 M).bind fun a27 =>
        (aI kdM lnM 9 a27 ((24 * x1) + x3) M).bind fun x28 =>
        (fX7_isIn ((x28 : Int32).toInt64) 0 119 M).bind fun r29 =>
        if r29.1 = 0 then
          fX7_pour_b103 (fX7_pour_h27 N) a0 x1 x2 x3 r29.2
        else
          (cV kdM 7 a0 (fX7_flameAt a0 x3 r29.2)).bind fun r31 =>
          (cV kdM 7 a0 (fX7_becomes a0 (r31.1 + 4) x28 r31.2)).bind fun r32 =>
          if r32.1 = x28 then
            fX7_pour_b101 (fX7_pour_h27 N) a0 x1 x3 x2 0 r32.2
          else
            fX7_pour_b101 (fX7_pour_h27 N) a0 x1 x3 x2 1 r32.2

set_option maxHeartbeats 4000000 in
set_option maxRecDepth 20000 in
theorem vX7_pour_h27 {B : ctB} {n : Nat} (hB : ctOk B kdM lnM n) : ∀ (N : Nat) (a0 : Nat) (x1 : Int32) (x2 : Int32) (x3 : Int32) (M : ctM) (r : Int32 × ctM), fX7_pour_h27 N a0 x1 x2 x3 M = some r → ctV B mX7_pour (2, 0, 0) (poI r n) 27 [some (.ref a0), some (.int x1), some (.int x2), some (.int x3), none, none] [] (0, 0) n M := by
  intro N
  induction N with
  | zero => intro a0 x1 x2 x3 M r h; exact absurd h (by simp [fX7_pour_h27])
  | succ N ih =>
    intro a0 x1 x2 x3 M r h
    rw [fX7_pour_h27] at h
    refine ct_iload_3 (q := 28) dX7_pour_27 rfl ?_
    refine ct_aload_0 (q := 29) dX7_pour_28 rfl ?_
    obtain ⟨a21, ga21, h⟩ := ob h
    refine ct_getP (q := 32) hB dX7_pour_29 fl_RX7_22 rfl ga21 rfl ?_
    refine ct_iload_1 (q := 33) dX7_pour_32 rfl ?_
    obtain ⟨x22, gx22, h⟩ := ob h
    refine ct_iald (q := 34) hB dX7_pour_33 gx22 rfl ?_
    refine ct_icmp_ge (q := 37) (tgt := 109) dX7_pour_34 (by decide) rfl (fun z23 => ?_) (fun z23 => ?_)
    · replace h := it_t h z23
      refine ct_iload_2 (q := 110) dX7_pour_109 rfl ?_
      exact ct_iret dX7_pour_110 rfl ⟨Nat.le_refl 0, Nat.le_refl 0⟩ (poI_of h)
    · replace h := it_f h z23
      refine ct_iload_3 (q := 38) dX7_pour_37 rfl ?_
      refine ct_aload_0 (q := 39) dX7_pour_38 rfl ?_
      obtain ⟨a24, ga24, h⟩ := ob h
      refine ct_getP (q := 42) hB dX7_pour_39 fl_RX7_7 rfl ga24 rfl ?_
      refine ct_iconst (v := 0) (q := 43) dX7_pour_42 (by decide) rfl ?_
      obtain ⟨x25, gx25, h⟩ := ob h
      refine ct_iald (q := 44) hB dX7_pour_43 gx25 rfl ?_
      refine ct_icmp_ge (q := 47) (tgt := 109) dX7_pour_44 (by decide) rfl (fun z26 => ?_) (fun z26 => ?_)
      · replace h := it_t h z26
        refine ct_iload_2 (q := 110) dX7_pour_109 rfl ?_
        exact ct_iret dX7_pour_110 rfl ⟨Nat.le_refl 0, Nat.le_refl 0⟩ (poI_of h)
      · replace h := it_f h z26
        refine ct_aload_0 (q := 48) dX7_pour_47 rfl ?_
        obtain ⟨a27, ga27, h⟩ := ob h
        refine ct_getP (q := 51) hB dX7_pour_48 fl_RX7_25 rfl ga27 rfl ?_
        refine ct_bipush (v := 24) (q := 53) dX7_pour_51 (by decide) rfl ?_
        refine ct_iload_1 (q := 54) dX7_pour_53 rfl ?_
        refine ct_imul (q := 55) dX7_pour_54 rfl ?_
        refine ct_iload_3 (q := 56) dX7_pour_55 rfl ?_
        refine ct_iadd (q := 57) dX7_pour_56 rfl ?_
        obtain ⟨x28, gx28, h⟩ := ob h
        refine ct_iald (q := 58) hB dX7_pour_57 gx28 rfl ?_
        refine ct_istore_4 (q := 60) dX7_pour_58 (by decide) rfl rfl ?_
        refine ct_iload_4 (q := 62) dX7_pour_60 rfl ?_
        refine ct_i2l (q := 63) dX7_pour_62 rfl ?_
        refine ct_lconst (v := 0) (q := 64) dX7_pour_63 (by decide) rfl ?_
        refine ct_ldc2 (q := 67) dX7_pour_64 wd_1006 rfl ?_
        obtain ⟨r29, gr29, h⟩ := ob h
        refine ct_cSi3 (q := 70) dX7_pour_67 lk_RX7_76 (by decide) (ctX7_isIn hB gr29) (Nat.le_of_ble_eq_true rfl) rfl ?_
        refine ct_if_eq (q := 73) (tgt := 103) dX7_pour_70 (by decide) rfl (fun z30 => ?_) (fun z30 => ?_)
        · replace h := it_t h z30
          exact ct_lessK (vX7_pour_b103 hB ih a0 x1 x2 x3 r29.2 r h) (And.intro rfl (And.intro rfl (And.intro rfl (And.intro rfl (trivial)))))
        · replace h := it_f h z30
          refine ct_aload_0 (q := 74) dX7_pour_73 rfl ?_
          refine ct_aload_0 (q := 75) dX7_pour_74 rfl ?_
          refine ct_iload_3 (q := 76) dX7_pour_75 rfl ?_
          obtain ⟨r31, gr31, h⟩ := ob h
          obtain ⟨er31, gr31⟩ := cV_spec gr31
          refine ct_cVi1 (q := 79) hB dX7_pour_76 lk_RX7_72 (by decide) (ctX7_flameAt hB gr31) er31 (by decide) rfl (Nat.le_of_ble_eq_true rfl) rfl ?_
          refine ct_iconst (v := 4) (q := 80) dX7_pour_79 (by decide) rfl ?_
          refine ct_iadd (q := 81) dX7_pour_80 rfl ?_
          refine ct_iload_4 (q := 83) dX7_pour_81 rfl ?_
          obtain ⟨r32, gr32, h⟩ := ob h
          obtain ⟨er32, gr32⟩ := cV_spec gr32
          refine ct_cVi2 (q := 86) hB dX7_pour_83 lk_RX7_140 (by decide) (ctX7_becomes hB gr32) er32 (by decide) rfl (Nat.le_of_ble_eq_true rfl) rfl ?_
          refine ct_istore_5 (q := 88) dX7_pour_86 (by decide) rfl rfl ?_
          refine ct_iload_2 (q := 89) dX7_pour_88 rfl ?_
          refine ct_iload_5 (q := 91) dX7_pour_89 rfl ?_
          refine ct_iload_4 (q := 93) dX7_pour_91 rfl ?_
          refine ct_icmp_ne (q := 96) (tgt := 100) dX7_pour_93 (by decide) rfl (fun z33 => ?_) (fun z33 => ?_)
          · replace h := it_f h z33
            refine ct_iconst (v := 1) (q := 101) dX7_pour_100 (by decide) rfl ?_
            exact ct_lessK (vX7_pour_b101 hB ih a0 x1 x3 x2 1 r32.2 r h) (And.intro rfl (And.intro rfl (And.intro rfl (trivial))))
          · replace h := it_t h z33
            refine ct_iconst (v := 0) (q := 97) dX7_pour_96 (by decide) rfl ?_
            refine ct_goto (q := 101) dX7_pour_97 (by decide) ?_
            exact ct_lessK (vX7_pour_b101 hB ih a0 x1 x3 x2 0 r32.2 r h) (And.intro rfl (And.intro rfl (And.intro rfl (trivial))))

def fX7_pour (a0 : Nat) (x1 : Int32) (M : ctM) : Option (Int32 × ctM) :=
  (fX7_isSheet x1 M).bind fun r21 =>
  if r21.1 = 0 then
    some ((-1000000001), r21.2)
  else
    (gP kdM 7 4 a0 r21.2).bind fun a23 =>
    (aI kdM lnM 9 a23 x1 r21.2).bind fun x24 =>
    if 0 ≤ x24 then
      fX7_pour_h27 4000 a0 x1 0 0 r21.2
    else
      some ((-1000000011), r21.2)

set_option maxHeartbeats 4000000 in
set_option maxRecDepth 20000 in
theorem ctX7_pour {B : ctB} {n : Nat} (hB : ctOk B kdM lnM n) {a0 : Nat} {x1 : Int32} {M : ctM} {r : Int32 × ctM} (h : fX7_pour a0 x1 M = some r) : ctC B mX7_pour (2, 0, 0) [.ref a0, .int x1] n M (poI r n) := by
  refine ctC_of (by decide) (Nat.le_of_ble_eq_true rfl) ?_
  show ctV B mX7_pour (2, 0, 0) (poI r n) 0 [some (.ref a0), some (.int x1), none, none, none, none] [] (0, 0) n M
  unfold fX7_pour at h
  refine ct_iload_1 (q := 1) dX7_pour_0 rfl ?_
  obtain ⟨r21, gr21, h⟩ := ob h
  refine ct_cSi1 (q := 4) dX7_pour_1 lk_RX7_309 (by decide) (ctX7_isSheet hB gr21) (Nat.le_of_ble_eq_true rfl) rfl ?_
  refine ct_if_ne (q := 7) (tgt := 10) dX7_pour_4 (by decide) rfl (fun z22 => ?_) (fun z22 => ?_)
  · replace h := it_f h z22
    refine ct_aload_0 (q := 11) dX7_pour_10 rfl ?_
    obtain ⟨a23, ga23, h⟩ := ob h
    refine ct_getP (q := 14) hB dX7_pour_11 fl_RX7_19 rfl ga23 rfl ?_
    refine ct_iload_1 (q := 15) dX7_pour_14 rfl ?_
    obtain ⟨x24, gx24, h⟩ := ob h
    refine ct_iald (q := 16) hB dX7_pour_15 gx24 rfl ?_
    refine ct_if_ge (q := 19) (tgt := 23) dX7_pour_16 (by decide) rfl (fun z25 => ?_) (fun z25 => ?_)
    · replace h := it_t h z25
      refine ct_iconst (v := 0) (q := 24) dX7_pour_23 (by decide) rfl ?_
      refine ct_istore_2 (q := 25) dX7_pour_24 (by decide) rfl rfl ?_
      refine ct_iconst (v := 0) (q := 26) dX7_pour_25 (by decide) rfl ?_
      refine ct_istore_3 (q := 27) dX7_pour_26 (by decide) rfl rfl ?_
      exact ct_lessK (vX7_pour_h27 hB  4000 a0 x1 0 0 r21.2 r h) (And.intro rfl (And.intro rfl (And.intro rfl (And.intro rfl (trivial)))))
    · replace h := it_f h z25
      refine ct_ldcw (q := 22) dX7_pour_19 wd_1225 rfl ?_
      exact ct_iret dX7_pour_22 rfl ⟨Nat.le_refl 0, Nat.le_refl 0⟩ (poI_of h)
  · replace h := it_t h z22
    refine ct_ldc (q := 9) dX7_pour_7 wd_919 rfl ?_
    exact ct_iret dX7_pour_9 rfl ⟨Nat.le_refl 0, Nat.le_refl 0⟩ (poI_of h)

def fX7_reads_b73 (k25 : Nat → Int32 → Int32 → ctM → Option (Int32 × ctM)) (a0 : Nat) (x1 : Int32) (x2 : Int32) (M : ctM) : Option (Int32 × ctM) :=
  k25 a0 x1 (x2 + 1) M

set_option maxHeartbeats 4000000 in
set_option maxRecDepth 20000 in
theorem vX7_reads_b73 {B : ctB} {n : Nat} (hB : ctOk B kdM lnM n) {k25 : Nat → Int32 → Int32 → ctM → Option (Int32 × ctM)} (hk25 : ∀ (a0 : Nat) (x1 : Int32) (x2 : Int32) (M : ctM) (r : Int32 × ctM), k25 a0 x1 x2 M = some r → ctV B mX7_reads (2, 0, 0) (poI r n) 25 [some (.ref a0), some (.int x1), some (.int x2), none] [] (0, 0) n M) : ∀ (a0 : Nat) (x1 : Int32) (x2 : Int32) (M : ctM) (r : Int32 × ctM), fX7_reads_b73 k25 a0 x1 x2 M = some r → ctV B mX7_reads (2, 0, 0) (poI r n) 73 [some (.ref a0), some (.int x1), some (.int x2), none] [] (0, 0) n M := by
  intro a0 x1 x2 M r h
  unfold fX7_reads_b73 at h
  refine ct_iinc_2 (q := 76) (v := x2 + 1) dX7_reads_73 (by first | rfl | decide) (by decide) rfl rfl ?_
  refine ct_goto (q := 25) dX7_reads_76 (by decide) ?_
  exact ct_lessK (hk25 a0 x1 (x2 + 1) M r h) (And.intro rfl (And.intro rfl (And.intro rfl (trivial))))

def fX7_reads_h25 : Nat → Nat → Int32 → Int32 → ctM → Option (Int32 × ctM)
  | 0, _, _, _, _ => none
  | N + 1, a0, x1, x2, M =>
    (gP kdM 7 5 a0 M).bind fun a21 =>
    (aI kdM lnM 9 a21 x1 M).bind fun x22 =>
    if x22 ≤ x2 then
      some ((-1000000005), M)
    else
      (gP kdM 7 6 a0 M).bind fun a24 =>
      (aI kdM lnM 9 a24 ((24 * x1) + x2) M).bind fun x25 =>
      if x25 = (-1000000005) then
        fX7_reads_b73 (fX7_reads_h25 N) a0 x1 x2 M
      else
        (cV kdM 7 a0 (fX7_isFlame a0 x2 M)).bind fun r27 =>
        if r27.1 = 0 then
          some (x2, r27.2)
        else
          (cV kdM 7 a0 (fX7_of a0 x2 4 r27.2)).bind fun r29 =>
          if x25 = r29.1 then
            fX7_reads_b73 (fX7_reads_h25 N) a0 x1 x2 r29.2
          else
            some (x2, r29.2)

set_option maxHeartbeats 4000000 in
set_option maxRecDepth 20000 in
theorem vX7_reads_h25 {B : ctB} {n : Nat} (hB : ctOk B kdM lnM n) : ∀ (N : Nat) (a0 : Nat) (x1 : Int32) (x2 : Int32) (M : ctM) (r : Int32 × ctM), fX7_reads_h25 N a0 x1 x2 M = some r → ctV B mX7_reads (2, 0, 0) (poI r n) 25 [some (.ref a0), some (.int x1), some (.int x2), none] [] (0, 0) n M := by
  intro N
  induction N with
  | zero => intro a0 x1 x2 M r h; exact absurd h (by simp [fX7_reads_h25])
  | succ N ih =>
    intro a0 x1 x2 M r h
    rw [fX7_reads_h25] at h
    refine ct_iload_2 (q := 26) dX7_reads_25 rfl ?_
    refine ct_aload_0 (q := 27) dX7_reads_26 rfl ?_
    obtain ⟨a21, ga21, h⟩ := ob h
    refine ct_getP (q := 30) hB dX7_reads_27 fl_RX7_22 rfl ga21 rfl ?_
    refine ct_iload_1 (q := 31) dX7_reads_30 rfl ?_
    obtain ⟨x22, gx22, h⟩ := ob h
    refine ct_iald (q := 32) hB dX7_reads_31 gx22 rfl ?_
    refine ct_icmp_ge (q := 35) (tgt := 79) dX7_reads_32 (by decide) rfl (fun z23 => ?_) (fun z23 => ?_)
    · replace h := it_t h z23
      refine ct_ldc (q := 81) dX7_reads_79 wd_1073 rfl ?_
      exact ct_iret dX7_reads_81 rfl ⟨Nat.le_refl 0, Nat.le_refl 0⟩ (poI_of h)
    · replace h := it_f h z23
      refine ct_aload_0 (q := 36) dX7_reads_35 rfl ?_
      obtain ⟨a24, ga24, h⟩ := ob h
      refine ct_getP (q := 39) hB dX7_reads_36 fl_RX7_25 rfl ga24 rfl ?_
      refine ct_bipush (v := 24) (q := 41) dX7_reads_39 (by decide) rfl ?_
      refine ct_iload_1 (q := 42) dX7_reads_41 rfl ?_
      refine ct_imul (q := 43) dX7_reads_42 rfl ?_
      refine ct_iload_2 (q := 44) dX7_reads_43 rfl ?_
      refine ct_iadd (q := 45) dX7_reads_44 rfl ?_
      obtain ⟨x25, gx25, h⟩ := ob h
      refine ct_iald (q := 46) hB dX7_reads_45 gx25 rfl ?_
      refine ct_istore_3 (q := 47) dX7_reads_46 (by decide) rfl rfl ?_
      refine ct_iload_3 (q := 48) dX7_reads_47 rfl ?_
      refine ct_ldc (q := 50) dX7_reads_48 wd_1073 rfl ?_
      refine ct_icmp_eq (q := 53) (tgt := 73) dX7_reads_50 (by decide) rfl (fun z26 => ?_) (fun z26 => ?_)
      · replace h := it_t h z26
        exact ct_lessK (vX7_reads_b73 hB ih a0 x1 x2 M r h) (And.intro rfl (And.intro rfl (And.intro rfl (trivial))))
      · replace h := it_f h z26
        refine ct_aload_0 (q := 54) dX7_reads_53 rfl ?_
        refine ct_iload_2 (q := 55) dX7_reads_54 rfl ?_
        obtain ⟨r27, gr27, h⟩ := ob h
        obtain ⟨er27, gr27⟩ := cV_spec gr27
        refine ct_cVi1 (q := 58) hB dX7_reads_55 lk_RX7_121 (by decide) (ctX7_isFlame hB gr27) er27 (by decide) rfl (Nat.le_of_ble_eq_true rfl) rfl ?_
        refine ct_if_eq (q := 61) (tgt := 71) dX7_reads_58 (by decide) rfl (fun z28 => ?_) (fun z28 => ?_)
        · replace h := it_t h z28
          refine ct_iload_2 (q := 72) dX7_reads_71 rfl ?_
          exact ct_iret dX7_reads_72 rfl ⟨Nat.le_refl 0, Nat.le_refl 0⟩ (poI_of h)
        · replace h := it_f h z28
          refine ct_iload_3 (q := 62) dX7_reads_61 rfl ?_
          refine ct_aload_0 (q := 63) dX7_reads_62 rfl ?_
          refine ct_iload_2 (q := 64) dX7_reads_63 rfl ?_
          refine ct_iconst (v := 4) (q := 65) dX7_reads_64 (by decide) rfl ?_
          obtain ⟨r29, gr29, h⟩ := ob h
          obtain ⟨er29, gr29⟩ := cV_spec gr29
          refine ct_cVi2 (q := 68) hB dX7_reads_65 lk_RX7_80 (by decide) (ctX7_of hB gr29) er29 (by decide) rfl (Nat.le_of_ble_eq_true rfl) rfl ?_
          refine ct_icmp_eq (q := 71) (tgt := 73) dX7_reads_68 (by decide) rfl (fun z30 => ?_) (fun z30 => ?_)
          · replace h := it_t h z30
            exact ct_lessK (vX7_reads_b73 hB ih a0 x1 x2 r29.2 r h) (And.intro rfl (And.intro rfl (And.intro rfl (trivial))))
          · replace h := it_f h z30
            refine ct_iload_2 (q := 72) dX7_reads_71 rfl ?_
            exact ct_iret dX7_reads_72 rfl ⟨Nat.le_refl 0, Nat.le_refl 0⟩ (poI_of h)

def fX7_reads (a0 : Nat) (x1 : Int32) (M : ctM) : Option (Int32 × ctM) :=
  (fX7_isSheet x1 M).bind fun r21 =>
  if r21.1 = 0 then
    some ((-1000000001), r21.2)
  else
    (gP kdM 7 4 a0 r21.2).bind fun a23 =>
    (aI kdM lnM 9 a23 x1 r21.2).bind fun x24 =>
    if 0 ≤ x24 then
      fX7_reads_h25 4000 a0 x1 0 r21.2
    else
      some ((-1000000011), r21.2)

set_option maxHeartbeats 4000000 in
set_option maxRecDepth 20000 in
theorem ctX7_reads {B : ctB} {n : Nat} (hB : ctOk B kdM lnM n) {a0 : Nat} {x1 : Int32} {M : ctM} {r : Int32 × ctM} (h : fX7_reads a0 x1 M = some r) : ctC B mX7_reads (2, 0, 0) [.ref a0, .int x1] n M (poI r n) := by
  refine ctC_of (by decide) (Nat.le_of_ble_eq_true rfl) ?_
  show ctV B mX7_reads (2, 0, 0) (poI r n) 0 [some (.ref a0), some (.int x1), none, none] [] (0, 0) n M
  unfold fX7_reads at h
  refine ct_iload_1 (q := 1) dX7_reads_0 rfl ?_
  obtain ⟨r21, gr21, h⟩ := ob h
  refine ct_cSi1 (q := 4) dX7_reads_1 lk_RX7_309 (by decide) (ctX7_isSheet hB gr21) (Nat.le_of_ble_eq_true rfl) rfl ?_
  refine ct_if_ne (q := 7) (tgt := 10) dX7_reads_4 (by decide) rfl (fun z22 => ?_) (fun z22 => ?_)
  · replace h := it_f h z22
    refine ct_aload_0 (q := 11) dX7_reads_10 rfl ?_
    obtain ⟨a23, ga23, h⟩ := ob h
    refine ct_getP (q := 14) hB dX7_reads_11 fl_RX7_19 rfl ga23 rfl ?_
    refine ct_iload_1 (q := 15) dX7_reads_14 rfl ?_
    obtain ⟨x24, gx24, h⟩ := ob h
    refine ct_iald (q := 16) hB dX7_reads_15 gx24 rfl ?_
    refine ct_if_ge (q := 19) (tgt := 23) dX7_reads_16 (by decide) rfl (fun z25 => ?_) (fun z25 => ?_)
    · replace h := it_t h z25
      refine ct_iconst (v := 0) (q := 24) dX7_reads_23 (by decide) rfl ?_
      refine ct_istore_2 (q := 25) dX7_reads_24 (by decide) rfl rfl ?_
      exact ct_lessK (vX7_reads_h25 hB  4000 a0 x1 0 r21.2 r h) (And.intro rfl (And.intro rfl (And.intro rfl (trivial))))
    · replace h := it_f h z25
      refine ct_ldcw (q := 22) dX7_reads_19 wd_1225 rfl ?_
      exact ct_iret dX7_reads_22 rfl ⟨Nat.le_refl 0, Nat.le_refl 0⟩ (poI_of h)
  · replace h := it_t h z22
    refine ct_ldc (q := 9) dX7_reads_7 wd_919 rfl ?_
    exact ct_iret dX7_reads_9 rfl ⟨Nat.le_refl 0, Nat.le_refl 0⟩ (poI_of h)

def fX7_copy_h150 : Nat → Nat → Int32 → Int32 → Int32 → Int32 → ctM → Option (Int32 × ctM)
  | 0, _, _, _, _, _, _ => none
  | N + 1, a0, x3, x4, x5, x6, M =>
    if x5 ≤ x6 then
      some (x5, M)
    else
      (gP kdM 7 6 a0 M).bind fun a22 =>
      (gP kdM 7 31 a0 M).bind fun a23 =>
      (aI kdM lnM 9 a23 x6 M).bind fun x24 =>
      (sI kdM lnM 9 a22 (((24 * x3) + x4) + x6) x24 M).bind fun M25 =>
      fX7_copy_h150 N a0 x3 x4 x5 (x6 + 1) M25

set_option maxHeartbeats 4000000 in
set_option maxRecDepth 20000 in
theorem vX7_copy_h150 {B : ctB} {n : Nat} (hB : ctOk B kdM lnM n) : ∀ (N : Nat) (a0 : Nat) (x3 : Int32) (x4 : Int32) (x5 : Int32) (x6 : Int32) (M : ctM) (r : Int32 × ctM), fX7_copy_h150 N a0 x3 x4 x5 x6 M = some r → ctV B mX7_copy (2, 0, 0) (poI r n) 150 [some (.ref a0), none, none, some (.int x3), some (.int x4), some (.int x5), some (.int x6)] [] (0, 0) n M := by
  intro N
  induction N with
  | zero => intro a0 x3 x4 x5 x6 M r h; exact absurd h (by simp [fX7_copy_h150])
  | succ N ih =>
    intro a0 x3 x4 x5 x6 M r h
    rw [fX7_copy_h150] at h
    refine ct_iload_6 (q := 152) dX7_copy_150 rfl ?_
    refine ct_iload_5 (q := 154) dX7_copy_152 rfl ?_
    refine ct_icmp_ge (q := 157) (tgt := 185) dX7_copy_154 (by decide) rfl (fun z21 => ?_) (fun z21 => ?_)
    · replace h := it_t h z21
      refine ct_iload_5 (q := 187) dX7_copy_185 rfl ?_
      exact ct_iret dX7_copy_187 rfl ⟨Nat.le_refl 0, Nat.le_refl 0⟩ (poI_of h)
    · replace h := it_f h z21
      refine ct_aload_0 (q := 158) dX7_copy_157 rfl ?_
      obtain ⟨a22, ga22, h⟩ := ob h
      refine ct_getP (q := 161) hB dX7_copy_158 fl_RX7_25 rfl ga22 rfl ?_
      refine ct_bipush (v := 24) (q := 163) dX7_copy_161 (by decide) rfl ?_
      refine ct_iload_3 (q := 164) dX7_copy_163 rfl ?_
      refine ct_imul (q := 165) dX7_copy_164 rfl ?_
      refine ct_iload_4 (q := 167) dX7_copy_165 rfl ?_
      refine ct_iadd (q := 168) dX7_copy_167 rfl ?_
      refine ct_iload_6 (q := 170) dX7_copy_168 rfl ?_
      refine ct_iadd (q := 171) dX7_copy_170 rfl ?_
      refine ct_aload_0 (q := 172) dX7_copy_171 rfl ?_
      obtain ⟨a23, ga23, h⟩ := ob h
      refine ct_getP (q := 175) hB dX7_copy_172 fl_RX7_62 rfl ga23 rfl ?_
      refine ct_iload_6 (q := 177) dX7_copy_175 rfl ?_
      obtain ⟨x24, gx24, h⟩ := ob h
      refine ct_iald (q := 178) hB dX7_copy_177 gx24 rfl ?_
      obtain ⟨M25, gM25, h⟩ := ob h
      refine ct_iast (q := 179) hB dX7_copy_178 gM25 rfl ?_
      refine ct_iinc_6 (q := 182) (v := x6 + 1) dX7_copy_179 (by first | rfl | decide) (by decide) rfl rfl ?_
      refine ct_goto (q := 150) dX7_copy_182 (by decide) ?_
      exact ct_lessK (ih a0 x3 x4 x5 (x6 + 1) M25 r h) (And.intro rfl (And.intro rfl (And.intro rfl (And.intro rfl (And.intro rfl (trivial))))))

def fX7_copy_h113 : Nat → Nat → Int32 → Int32 → Int32 → Int32 → Int32 → Int32 → ctM → Option (Int32 × ctM)
  | 0, _, _, _, _, _, _, _, _ => none
  | N + 1, a0, x1, x2, x3, x4, x5, x6, M =>
    if x5 ≤ x6 then
      fX7_copy_h150 4000 a0 x3 x4 x5 0 M
    else
      (gP kdM 7 31 a0 M).bind fun a22 =>
      (gP kdM 7 6 a0 M).bind fun a23 =>
      (aI kdM lnM 9 a23 (((24 * x1) + x2) + x6) M).bind fun x24 =>
      (sI kdM lnM 9 a22 x6 x24 M).bind fun M25 =>
      fX7_copy_h113 N a0 x1 x2 x3 x4 x5 (x6 + 1) M25

set_option maxHeartbeats 4000000 in
set_option maxRecDepth 20000 in
theorem vX7_copy_h113 {B : ctB} {n : Nat} (hB : ctOk B kdM lnM n) : ∀ (N : Nat) (a0 : Nat) (x1 : Int32) (x2 : Int32) (x3 : Int32) (x4 : Int32) (x5 : Int32) (x6 : Int32) (M : ctM) (r : Int32 × ctM), fX7_copy_h113 N a0 x1 x2 x3 x4 x5 x6 M = some r → ctV B mX7_copy (2, 0, 0) (poI r n) 113 [some (.ref a0), some (.int x1), some (.int x2), some (.int x3), some (.int x4), some (.int x5), some (.int x6)] [] (0, 0) n M := by
  intro N
  induction N with
  | zero => intro a0 x1 x2 x3 x4 x5 x6 M r h; exact absurd h (by simp [fX7_copy_h113])
  | succ N ih =>
    intro a0 x1 x2 x3 x4 x5 x6 M r h
    rw [fX7_copy_h113] at h
    refine ct_iload_6 (q := 115) dX7_copy_113 rfl ?_
    refine ct_iload_5 (q := 117) dX7_copy_115 rfl ?_
    refine ct_icmp_ge (q := 120) (tgt := 147) dX7_copy_117 (by decide) rfl (fun z21 => ?_) (fun z21 => ?_)
    · replace h := it_t h z21
      refine ct_iconst (v := 0) (q := 148) dX7_copy_147 (by decide) rfl ?_
      refine ct_istore_6 (q := 150) dX7_copy_148 (by decide) rfl rfl ?_
      exact ct_lessK (vX7_copy_h150 hB  4000 a0 x3 x4 x5 0 M r h) (And.intro rfl (And.intro rfl (And.intro rfl (And.intro rfl (And.intro rfl (trivial))))))
    · replace h := it_f h z21
      refine ct_aload_0 (q := 121) dX7_copy_120 rfl ?_
      obtain ⟨a22, ga22, h⟩ := ob h
      refine ct_getP (q := 124) hB dX7_copy_121 fl_RX7_62 rfl ga22 rfl ?_
      refine ct_iload_6 (q := 126) dX7_copy_124 rfl ?_
      refine ct_aload_0 (q := 127) dX7_copy_126 rfl ?_
      obtain ⟨a23, ga23, h⟩ := ob h
      refine ct_getP (q := 130) hB dX7_copy_127 fl_RX7_25 rfl ga23 rfl ?_
      refine ct_bipush (v := 24) (q := 132) dX7_copy_130 (by decide) rfl ?_
      refine ct_iload_1 (q := 133) dX7_copy_132 rfl ?_
      refine ct_imul (q := 134) dX7_copy_133 rfl ?_
      refine ct_iload_2 (q := 135) dX7_copy_134 rfl ?_
      refine ct_iadd (q := 136) dX7_copy_135 rfl ?_
      refine ct_iload_6 (q := 138) dX7_copy_136 rfl ?_
      refine ct_iadd (q := 139) dX7_copy_138 rfl ?_
      obtain ⟨x24, gx24, h⟩ := ob h
      refine ct_iald (q := 140) hB dX7_copy_139 gx24 rfl ?_
      obtain ⟨M25, gM25, h⟩ := ob h
      refine ct_iast (q := 141) hB dX7_copy_140 gM25 rfl ?_
      refine ct_iinc_6 (q := 144) (v := x6 + 1) dX7_copy_141 (by first | rfl | decide) (by decide) rfl rfl ?_
      refine ct_goto (q := 113) dX7_copy_144 (by decide) ?_
      exact ct_lessK (ih a0 x1 x2 x3 x4 x5 (x6 + 1) M25 r h) (And.intro rfl (And.intro rfl (And.intro rfl (And.intro rfl (And.intro rfl (And.intro rfl (And.intro rfl (trivial))))))))

def fX7_copy_b106 (M : ctM) : Option (Int32 × ctM) :=
  some ((-1000000013), M)

set_option maxHeartbeats 4000000 in
set_option maxRecDepth 20000 in
theorem vX7_copy_b106 {B : ctB} {n : Nat} (hB : ctOk B kdM lnM n) : ∀  (M : ctM) (r : Int32 × ctM), fX7_copy_b106  M = some r → ctV B mX7_copy (2, 0, 0) (poI r n) 106 [none, none, none, none, none, none, none] [] (0, 0) n M := by
  intro  M r h
  unfold fX7_copy_b106 at h
  refine ct_ldcw (q := 109) dX7_copy_106 wd_1226 rfl ?_
  exact ct_iret dX7_copy_109 rfl ⟨Nat.le_refl 0, Nat.le_refl 0⟩ (poI_of h)

def fX7_copy_b35 (M : ctM) : Option (Int32 × ctM) :=
  some ((-1000000011), M)

set_option maxHeartbeats 4000000 in
set_option maxRecDepth 20000 in
theorem vX7_copy_b35 {B : ctB} {n : Nat} (hB : ctOk B kdM lnM n) : ∀  (M : ctM) (r : Int32 × ctM), fX7_copy_b35  M = some r → ctV B mX7_copy (2, 0, 0) (poI r n) 35 [none, none, none, none, none, none, none] [] (0, 0) n M := by
  intro  M r h
  unfold fX7_copy_b35 at h
  refine ct_ldcw (q := 38) dX7_copy_35 wd_1225 rfl ?_
  exact ct_iret dX7_copy_38 rfl ⟨Nat.le_refl 0, Nat.le_refl 0⟩ (poI_of h)

def fX7_copy (a0 : Nat) (x1 : Int32) (x2 : Int32) (x3 : Int32) (x4 : Int32) (x5 : Int32) (M : ctM) : Option (Int32 × ctM) :=
  (fX7_isSheet x1 M).bind fun r21 =>
  if r21.1 = 0 then
    some ((-1000000001), r21.2)
  else
    (fX7_isSheet x3 r21.2).bind fun r23 =>
    if r23.1 = 0 then
      some ((-1000000001), r23.2)
    else
      (gP kdM 7 4 a0 r23.2).bind fun a25 =>
      (aI kdM lnM 9 a25 x1 r23.2).bind fun x26 =>
      if x26 < 0 then
        fX7_copy_b35 r23.2
      else
        (gP kdM 7 4 a0 r23.2).bind fun a28 =>
        (aI kdM lnM 9 a28 x3 r23.2).bind fun x29 =>
        if 0 ≤ x29 then
          (gP kdM 7 4 a0 r23.2).bind fun a31 =>
          (aI kdM lnM 9 a31 x1 r23.2).bind fun x32 =>
          (gP kdM 7 4 a0 r23.2).bind fun a33 =>
          (aI kdM lnM 9 a33 x3 r23.2).bind fun x34 =>
          if x32 = x34 then
            if x2 < 0 then
              fX7_copy_b106 r23.2
            else
              if x4 < 0 then
                fX7_copy_b106 r23.2
              else
                if x5 < 0 then
                  fX7_copy_b106 r23.2
                else
                  (gP kdM 7 5 a0 r23.2).bind fun a39 =>
                  (aI kdM lnM 9 a39 x1 r23.2).bind fun x40 =>
                  if 0 < (lg_cmp ((x2 : Int32).toInt64 + (x5 : Int32).toInt64) (x40 : Int32).toInt64) then
                    fX7_copy_b106 r23.2
                  else
                    (gP kdM 7 5 a0 r23.2).bind fun a42 =>
                    (aI kdM lnM 9 a42 x3 r23.2).bind fun x43 =>
                    if (lg_cmp ((x4 : Int32).toInt64 + (x5 : Int32).toInt64) (x43 : Int32).toInt64) ≤ 0 then
                      fX7_copy_h113 4000 a0 x1 x2 x3 x4 x5 0 r23.2
                    else
                      fX7_copy_b106 r23.2
          else
            some ((-1000000012), r23.2)
        else
          fX7_copy_b35 r23.2

set_option maxHeartbeats 4000000 in
set_option maxRecDepth 20000 in
theorem ctX7_copy {B : ctB} {n : Nat} (hB : ctOk B kdM lnM n) {a0 : Nat} {x1 : Int32} {x2 : Int32} {x3 : Int32} {x4 : Int32} {x5 : Int32} {M : ctM} {r : Int32 × ctM} (h : fX7_copy a0 x1 x2 x3 x4 x5 M = some r) : ctC B mX7_copy (2, 0, 0) [.ref a0, .int x1, .int x2, .int x3, .int x4, .int x5] n M (poI r n) := by
  refine ctC_of (by decide) (Nat.le_of_ble_eq_true rfl) ?_
  show ctV B mX7_copy (2, 0, 0) (poI r n) 0 [some (.ref a0), some (.int x1), some (.int x2), some (.int x3), some (.int x4), some (.int x5), none] [] (0, 0) n M
  unfold fX7_copy at h
  refine ct_iload_1 (q := 1) dX7_copy_0 rfl ?_
  obtain ⟨r21, gr21, h⟩ := ob h
  refine ct_cSi1 (q := 4) dX7_copy_1 lk_RX7_309 (by decide) (ctX7_isSheet hB gr21) (Nat.le_of_ble_eq_true rfl) rfl ?_
  refine ct_if_eq (q := 7) (tgt := 14) dX7_copy_4 (by decide) rfl (fun z22 => ?_) (fun z22 => ?_)
  · replace h := it_t h z22
    refine ct_ldc (q := 16) dX7_copy_14 wd_919 rfl ?_
    exact ct_iret dX7_copy_16 rfl ⟨Nat.le_refl 0, Nat.le_refl 0⟩ (poI_of h)
  · replace h := it_f h z22
    refine ct_iload_3 (q := 8) dX7_copy_7 rfl ?_
    obtain ⟨r23, gr23, h⟩ := ob h
    refine ct_cSi1 (q := 11) dX7_copy_8 lk_RX7_309 (by decide) (ctX7_isSheet hB gr23) (Nat.le_of_ble_eq_true rfl) rfl ?_
    refine ct_if_ne (q := 14) (tgt := 17) dX7_copy_11 (by decide) rfl (fun z24 => ?_) (fun z24 => ?_)
    · replace h := it_f h z24
      refine ct_aload_0 (q := 18) dX7_copy_17 rfl ?_
      obtain ⟨a25, ga25, h⟩ := ob h
      refine ct_getP (q := 21) hB dX7_copy_18 fl_RX7_19 rfl ga25 rfl ?_
      refine ct_iload_1 (q := 22) dX7_copy_21 rfl ?_
      obtain ⟨x26, gx26, h⟩ := ob h
      refine ct_iald (q := 23) hB dX7_copy_22 gx26 rfl ?_
      refine ct_if_lt (q := 26) (tgt := 35) dX7_copy_23 (by decide) rfl (fun z27 => ?_) (fun z27 => ?_)
      · replace h := it_t h z27
        exact ct_lessK (vX7_copy_b35 hB   r23.2 r h) (trivial)
      · replace h := it_f h z27
        refine ct_aload_0 (q := 27) dX7_copy_26 rfl ?_
        obtain ⟨a28, ga28, h⟩ := ob h
        refine ct_getP (q := 30) hB dX7_copy_27 fl_RX7_19 rfl ga28 rfl ?_
        refine ct_iload_3 (q := 31) dX7_copy_30 rfl ?_
        obtain ⟨x29, gx29, h⟩ := ob h
        refine ct_iald (q := 32) hB dX7_copy_31 gx29 rfl ?_
        refine ct_if_ge (q := 35) (tgt := 39) dX7_copy_32 (by decide) rfl (fun z30 => ?_) (fun z30 => ?_)
        · replace h := it_t h z30
          refine ct_aload_0 (q := 40) dX7_copy_39 rfl ?_
          obtain ⟨a31, ga31, h⟩ := ob h
          refine ct_getP (q := 43) hB dX7_copy_40 fl_RX7_19 rfl ga31 rfl ?_
          refine ct_iload_1 (q := 44) dX7_copy_43 rfl ?_
          obtain ⟨x32, gx32, h⟩ := ob h
          refine ct_iald (q := 45) hB dX7_copy_44 gx32 rfl ?_
          refine ct_aload_0 (q := 46) dX7_copy_45 rfl ?_
          obtain ⟨a33, ga33, h⟩ := ob h
          refine ct_getP (q := 49) hB dX7_copy_46 fl_RX7_19 rfl ga33 rfl ?_
          refine ct_iload_3 (q := 50) dX7_copy_49 rfl ?_
          obtain ⟨x34, gx34, h⟩ := ob h
          refine ct_iald (q := 51) hB dX7_copy_50 gx34 rfl ?_
          refine ct_icmp_eq (q := 54) (tgt := 57) dX7_copy_51 (by decide) rfl (fun z35 => ?_) (fun z35 => ?_)
          · replace h := it_t h z35
            refine ct_iload_2 (q := 58) dX7_copy_57 rfl ?_
            refine ct_if_lt (q := 61) (tgt := 106) dX7_copy_58 (by decide) rfl (fun z36 => ?_) (fun z36 => ?_)
            · replace h := it_t h z36
              exact ct_lessK (vX7_copy_b106 hB   r23.2 r h) (trivial)
            · replace h := it_f h z36
              refine ct_iload_4 (q := 63) dX7_copy_61 rfl ?_
              refine ct_if_lt (q := 66) (tgt := 106) dX7_copy_63 (by decide) rfl (fun z37 => ?_) (fun z37 => ?_)
              · replace h := it_t h z37
                exact ct_lessK (vX7_copy_b106 hB   r23.2 r h) (trivial)
              · replace h := it_f h z37
                refine ct_iload_5 (q := 68) dX7_copy_66 rfl ?_
                refine ct_if_lt (q := 71) (tgt := 106) dX7_copy_68 (by decide) rfl (fun z38 => ?_) (fun z38 => ?_)
                · replace h := it_t h z38
                  exact ct_lessK (vX7_copy_b106 hB   r23.2 r h) (trivial)
                · replace h := it_f h z38
                  refine ct_iload_2 (q := 72) dX7_copy_71 rfl ?_
                  refine ct_i2l (q := 73) dX7_copy_72 rfl ?_
                  refine ct_iload_5 (q := 75) dX7_copy_73 rfl ?_
                  refine ct_i2l (q := 76) dX7_copy_75 rfl ?_
                  refine ct_ladd (q := 77) dX7_copy_76 rfl ?_
                  refine ct_aload_0 (q := 78) dX7_copy_77 rfl ?_
                  obtain ⟨a39, ga39, h⟩ := ob h
                  refine ct_getP (q := 81) hB dX7_copy_78 fl_RX7_22 rfl ga39 rfl ?_
                  refine ct_iload_1 (q := 82) dX7_copy_81 rfl ?_
                  obtain ⟨x40, gx40, h⟩ := ob h
                  refine ct_iald (q := 83) hB dX7_copy_82 gx40 rfl ?_
                  refine ct_i2l (q := 84) dX7_copy_83 rfl ?_
                  refine ct_lcmp (q := 85) dX7_copy_84 rfl ?_
                  refine ct_if_gt (q := 88) (tgt := 106) dX7_copy_85 (by decide) rfl (fun z41 => ?_) (fun z41 => ?_)
                  · replace h := it_t h z41
                    exact ct_lessK (vX7_copy_b106 hB   r23.2 r h) (trivial)
                  · replace h := it_f h z41
                    refine ct_iload_4 (q := 90) dX7_copy_88 rfl ?_
                    refine ct_i2l (q := 91) dX7_copy_90 rfl ?_
                    refine ct_iload_5 (q := 93) dX7_copy_91 rfl ?_
                    refine ct_i2l (q := 94) dX7_copy_93 rfl ?_
                    refine ct_ladd (q := 95) dX7_copy_94 rfl ?_
                    refine ct_aload_0 (q := 96) dX7_copy_95 rfl ?_
                    obtain ⟨a42, ga42, h⟩ := ob h
                    refine ct_getP (q := 99) hB dX7_copy_96 fl_RX7_22 rfl ga42 rfl ?_
                    refine ct_iload_3 (q := 100) dX7_copy_99 rfl ?_
                    obtain ⟨x43, gx43, h⟩ := ob h
                    refine ct_iald (q := 101) hB dX7_copy_100 gx43 rfl ?_
                    refine ct_i2l (q := 102) dX7_copy_101 rfl ?_
                    refine ct_lcmp (q := 103) dX7_copy_102 rfl ?_
                    refine ct_if_le (q := 106) (tgt := 110) dX7_copy_103 (by decide) rfl (fun z44 => ?_) (fun z44 => ?_)
                    · replace h := it_t h z44
                      refine ct_iconst (v := 0) (q := 111) dX7_copy_110 (by decide) rfl ?_
                      refine ct_istore_6 (q := 113) dX7_copy_111 (by decide) rfl rfl ?_
                      exact ct_lessK (vX7_copy_h113 hB  4000 a0 x1 x2 x3 x4 x5 0 r23.2 r h) (And.intro rfl (And.intro rfl (And.intro rfl (And.intro rfl (And.intro rfl (And.intro rfl (And.intro rfl (trivial))))))))
                    · replace h := it_f h z44
                      exact ct_lessK (vX7_copy_b106 hB   r23.2 r h) (trivial)
          · replace h := it_f h z35
            refine ct_ldc (q := 56) dX7_copy_54 wd_993 rfl ?_
            exact ct_iret dX7_copy_56 rfl ⟨Nat.le_refl 0, Nat.le_refl 0⟩ (poI_of h)
        · replace h := it_f h z30
          exact ct_lessK (vX7_copy_b35 hB   r23.2 r h) (trivial)
    · replace h := it_t h z24
      refine ct_ldc (q := 16) dX7_copy_14 wd_919 rfl ?_
      exact ct_iret dX7_copy_16 rfl ⟨Nat.le_refl 0, Nat.le_refl 0⟩ (poI_of h)

def fX7_isSlot (x0 : Int32) (M : ctM) : Option (Int32 × ctM) :=
  (fX7_isIn ((x0 : Int32).toInt64) 0 4 M).bind fun r21 =>
  if r21.1 = 0 ∨ r21.1 = 1 then some (r21.1, r21.2) else none

set_option maxHeartbeats 4000000 in
set_option maxRecDepth 20000 in
theorem ctX7_isSlot {B : ctB} {n : Nat} (hB : ctOk B kdM lnM n) {x0 : Int32} {M : ctM} {r : Int32 × ctM} (h : fX7_isSlot x0 M = some r) : ctC B mX7_isSlot (1, 0, 0) [.int x0] n M (poI r n) := by
  refine ctC_of (by decide) (Nat.le_of_ble_eq_true rfl) ?_
  show ctV B mX7_isSlot (1, 0, 0) (poI r n) 0 [some (.int x0)] [] (0, 0) n M
  unfold fX7_isSlot at h
  refine ct_iload_0 (q := 1) dX7_isSlot_0 rfl ?_
  refine ct_i2l (q := 2) dX7_isSlot_1 rfl ?_
  refine ct_lconst (v := 0) (q := 3) dX7_isSlot_2 (by decide) rfl ?_
  refine ct_ldc2 (q := 6) dX7_isSlot_3 wd_1053 rfl ?_
  obtain ⟨r21, gr21, h⟩ := ob h
  refine ct_cSi3 (q := 9) dX7_isSlot_6 lk_RX7_76 (by decide) (ctX7_isIn hB gr21) (Nat.le_of_ble_eq_true rfl) rfl ?_
  by_cases z22 : r21.1 = 0 ∨ r21.1 = 1
  · exact ct_zret dX7_isSlot_9 rfl z22 ⟨Nat.le_refl 0, Nat.le_refl 0⟩ (poI_of (it_t h z22))
  · exact absurd (it_f h z22) (by simp)

def fX7_lay_h150 : Nat → Nat → Int32 → Int32 → Int32 → Int32 → ctM → Option (Int32 × ctM)
  | 0, _, _, _, _, _, _ => none
  | N + 1, a0, x1, x3, x5, x6, M =>
    if 24 ≤ x6 then
      some (x5, M)
    else
      (gP kdM 7 11 a0 M).bind fun a22 =>
      (gP kdM 7 6 a0 M).bind fun a23 =>
      (aI kdM lnM 9 a23 ((24 * x3) + x6) M).bind fun x24 =>
      (sI kdM lnM 9 a22 ((24 * x1) + x6) x24 M).bind fun M25 =>
      fX7_lay_h150 N a0 x1 x3 x5 (x6 + 1) M25

set_option maxHeartbeats 4000000 in
set_option maxRecDepth 20000 in
theorem vX7_lay_h150 {B : ctB} {n : Nat} (hB : ctOk B kdM lnM n) : ∀ (N : Nat) (a0 : Nat) (x1 : Int32) (x3 : Int32) (x5 : Int32) (x6 : Int32) (M : ctM) (r : Int32 × ctM), fX7_lay_h150 N a0 x1 x3 x5 x6 M = some r → ctV B mX7_lay (3, 0, 0) (poI r n) 150 [some (.ref a0), some (.int x1), none, some (.int x3), none, some (.int x5), some (.int x6)] [] (0, 0) n M := by
  intro N
  induction N with
  | zero => intro a0 x1 x3 x5 x6 M r h; exact absurd h (by simp [fX7_lay_h150])
  | succ N ih =>
    intro a0 x1 x3 x5 x6 M r h
    rw [fX7_lay_h150] at h
    refine ct_iload_6 (q := 152) dX7_lay_150 rfl ?_
    refine ct_bipush (v := 24) (q := 154) dX7_lay_152 (by decide) rfl ?_
    refine ct_icmp_ge (q := 157) (tgt := 187) dX7_lay_154 (by decide) rfl (fun z21 => ?_) (fun z21 => ?_)
    · replace h := it_t h z21
      refine ct_iload_5 (q := 189) dX7_lay_187 rfl ?_
      exact ct_iret dX7_lay_189 rfl ⟨Nat.le_refl 0, Nat.le_refl 0⟩ (poI_of h)
    · replace h := it_f h z21
      refine ct_aload_0 (q := 158) dX7_lay_157 rfl ?_
      obtain ⟨a22, ga22, h⟩ := ob h
      refine ct_getP (q := 161) hB dX7_lay_158 fl_RX7_40 rfl ga22 rfl ?_
      refine ct_bipush (v := 24) (q := 163) dX7_lay_161 (by decide) rfl ?_
      refine ct_iload_1 (q := 164) dX7_lay_163 rfl ?_
      refine ct_imul (q := 165) dX7_lay_164 rfl ?_
      refine ct_iload_6 (q := 167) dX7_lay_165 rfl ?_
      refine ct_iadd (q := 168) dX7_lay_167 rfl ?_
      refine ct_aload_0 (q := 169) dX7_lay_168 rfl ?_
      obtain ⟨a23, ga23, h⟩ := ob h
      refine ct_getP (q := 172) hB dX7_lay_169 fl_RX7_25 rfl ga23 rfl ?_
      refine ct_bipush (v := 24) (q := 174) dX7_lay_172 (by decide) rfl ?_
      refine ct_iload_3 (q := 175) dX7_lay_174 rfl ?_
      refine ct_imul (q := 176) dX7_lay_175 rfl ?_
      refine ct_iload_6 (q := 178) dX7_lay_176 rfl ?_
      refine ct_iadd (q := 179) dX7_lay_178 rfl ?_
      obtain ⟨x24, gx24, h⟩ := ob h
      refine ct_iald (q := 180) hB dX7_lay_179 gx24 rfl ?_
      obtain ⟨M25, gM25, h⟩ := ob h
      refine ct_iast (q := 181) hB dX7_lay_180 gM25 rfl ?_
      refine ct_iinc_6 (q := 184) (v := x6 + 1) dX7_lay_181 (by first | rfl | decide) (by decide) rfl rfl ?_
      refine ct_goto (q := 150) dX7_lay_184 (by decide) ?_
      exact ct_lessK (ih a0 x1 x3 x5 (x6 + 1) M25 r h) (And.intro rfl (And.intro rfl (And.intro rfl (And.intro rfl (And.intro rfl (trivial))))))

def fX7_lay_b129 (a0 : Nat) (x1 : Int32) (x2 : Int32) (x3 : Int32) (x5 : Int32) (as0 : Nat) (xs1 : Int32) (xs2 : Int32) (M : ctM) : Option (Int32 × ctM) :=
  (sI kdM lnM 9 as0 xs1 xs2 M).bind fun M21 =>
  if x2 = 2 then
    (gP kdM 7 10 a0 M21).bind fun a23 =>
    (gP kdM 7 5 a0 M21).bind fun a24 =>
    (aI kdM lnM 9 a24 x3 M21).bind fun x25 =>
    (sI kdM lnM 9 a23 x1 x25 M21).bind fun M26 =>
    fX7_lay_h150 4000 a0 x1 x3 x5 0 M26
  else
    some (x5, M21)

set_option maxHeartbeats 4000000 in
set_option maxRecDepth 20000 in
theorem vX7_lay_b129 {B : ctB} {n : Nat} (hB : ctOk B kdM lnM n) : ∀ (a0 : Nat) (x1 : Int32) (x2 : Int32) (x3 : Int32) (x5 : Int32) (as0 : Nat) (xs1 : Int32) (xs2 : Int32) (M : ctM) (r : Int32 × ctM), fX7_lay_b129 a0 x1 x2 x3 x5 as0 xs1 xs2 M = some r → ctV B mX7_lay (3, 0, 0) (poI r n) 129 [some (.ref a0), some (.int x1), some (.int x2), some (.int x3), none, some (.int x5), none] [.int xs2, .int xs1, .ref as0] (0, 0) n M := by
  intro a0 x1 x2 x3 x5 as0 xs1 xs2 M r h
  unfold fX7_lay_b129 at h
  obtain ⟨M21, gM21, h⟩ := ob h
  refine ct_iast (q := 130) hB dX7_lay_129 gM21 rfl ?_
  refine ct_iload_2 (q := 131) dX7_lay_130 rfl ?_
  refine ct_iconst (v := 2) (q := 132) dX7_lay_131 (by decide) rfl ?_
  refine ct_icmp_ne (q := 135) (tgt := 187) dX7_lay_132 (by decide) rfl (fun z22 => ?_) (fun z22 => ?_)
  · replace h := it_f h z22
    refine ct_iload_5 (q := 189) dX7_lay_187 rfl ?_
    exact ct_iret dX7_lay_189 rfl ⟨Nat.le_refl 0, Nat.le_refl 0⟩ (poI_of h)
  · replace h := it_t h z22
    refine ct_aload_0 (q := 136) dX7_lay_135 rfl ?_
    obtain ⟨a23, ga23, h⟩ := ob h
    refine ct_getP (q := 139) hB dX7_lay_136 fl_RX7_37 rfl ga23 rfl ?_
    refine ct_iload_1 (q := 140) dX7_lay_139 rfl ?_
    refine ct_aload_0 (q := 141) dX7_lay_140 rfl ?_
    obtain ⟨a24, ga24, h⟩ := ob h
    refine ct_getP (q := 144) hB dX7_lay_141 fl_RX7_22 rfl ga24 rfl ?_
    refine ct_iload_3 (q := 145) dX7_lay_144 rfl ?_
    obtain ⟨x25, gx25, h⟩ := ob h
    refine ct_iald (q := 146) hB dX7_lay_145 gx25 rfl ?_
    obtain ⟨M26, gM26, h⟩ := ob h
    refine ct_iast (q := 147) hB dX7_lay_146 gM26 rfl ?_
    refine ct_iconst (v := 0) (q := 148) dX7_lay_147 (by decide) rfl ?_
    refine ct_istore_6 (q := 150) dX7_lay_148 (by decide) rfl rfl ?_
    exact ct_lessK (vX7_lay_h150 hB  4000 a0 x1 x3 x5 0 M26 r h) (And.intro rfl (And.intro rfl (And.intro rfl (And.intro rfl (And.intro rfl (trivial))))))

def fX7_lay_b109 (a0 : Nat) (x1 : Int32) (x2 : Int32) (x3 : Int32) (x5 : Int32) (as0 : Nat) (xs1 : Int32) (xs2 : Int32) (M : ctM) : Option (Int32 × ctM) :=
  (sI kdM lnM 9 as0 xs1 xs2 M).bind fun M21 =>
  (gP kdM 7 9 a0 M21).bind fun a22 =>
  if x2 = 1 then
    (cV kdM 7 a0 (fX7_worth a0 x3 M21)).bind fun r24 =>
    fX7_lay_b129 a0 x1 x2 x3 x5 a22 x1 r24.1 r24.2
  else
    fX7_lay_b129 a0 x1 x2 x3 x5 a22 x1 0 M21

set_option maxHeartbeats 4000000 in
set_option maxRecDepth 20000 in
theorem vX7_lay_b109 {B : ctB} {n : Nat} (hB : ctOk B kdM lnM n) : ∀ (a0 : Nat) (x1 : Int32) (x2 : Int32) (x3 : Int32) (x5 : Int32) (as0 : Nat) (xs1 : Int32) (xs2 : Int32) (M : ctM) (r : Int32 × ctM), fX7_lay_b109 a0 x1 x2 x3 x5 as0 xs1 xs2 M = some r → ctV B mX7_lay (3, 0, 0) (poI r n) 109 [some (.ref a0), some (.int x1), some (.int x2), some (.int x3), none, some (.int x5), none] [.int xs2, .int xs1, .ref as0] (0, 0) n M := by
  intro a0 x1 x2 x3 x5 as0 xs1 xs2 M r h
  unfold fX7_lay_b109 at h
  obtain ⟨M21, gM21, h⟩ := ob h
  refine ct_iast (q := 110) hB dX7_lay_109 gM21 rfl ?_
  refine ct_aload_0 (q := 111) dX7_lay_110 rfl ?_
  obtain ⟨a22, ga22, h⟩ := ob h
  refine ct_getP (q := 114) hB dX7_lay_111 fl_RX7_34 rfl ga22 rfl ?_
  refine ct_iload_1 (q := 115) dX7_lay_114 rfl ?_
  refine ct_iload_2 (q := 116) dX7_lay_115 rfl ?_
  refine ct_iconst (v := 1) (q := 117) dX7_lay_116 (by decide) rfl ?_
  refine ct_icmp_ne (q := 120) (tgt := 128) dX7_lay_117 (by decide) rfl (fun z23 => ?_) (fun z23 => ?_)
  · replace h := it_f h z23
    refine ct_iconst (v := 0) (q := 129) dX7_lay_128 (by decide) rfl ?_
    exact ct_lessK (vX7_lay_b129 hB  a0 x1 x2 x3 x5 a22 x1 0 M21 r h) (And.intro rfl (And.intro rfl (And.intro rfl (And.intro rfl (And.intro rfl (trivial))))))
  · replace h := it_t h z23
    refine ct_aload_0 (q := 121) dX7_lay_120 rfl ?_
    refine ct_iload_3 (q := 122) dX7_lay_121 rfl ?_
    obtain ⟨r24, gr24, h⟩ := ob h
    obtain ⟨er24, gr24⟩ := cV_spec gr24
    refine ct_cVi1 (q := 125) hB dX7_lay_122 lk_RX7_132 (by decide) (ctX7_worth hB gr24) er24 (by decide) rfl (Nat.le_of_ble_eq_true rfl) rfl ?_
    refine ct_goto (q := 129) dX7_lay_125 (by decide) ?_
    exact ct_lessK (vX7_lay_b129 hB  a0 x1 x2 x3 x5 a22 x1 r24.1 r24.2 r h) (And.intro rfl (And.intro rfl (And.intro rfl (And.intro rfl (And.intro rfl (trivial))))))

def fX7_lay_b74 (a0 : Nat) (x1 : Int32) (x2 : Int32) (x3 : Int32) (M : ctM) : Option (Int32 × ctM) :=
  (gP kdM 7 7 a0 M).bind fun a21 =>
  (aI kdM lnM 9 a21 x1 M).bind fun x22 =>
  (gP kdM 7 7 a0 M).bind fun a23 =>
  (sI kdM lnM 9 a23 x1 x2 M).bind fun M24 =>
  (gP kdM 7 8 a0 M24).bind fun a25 =>
  if x2 = 1 then
    (cV kdM 7 a0 (fX7_of a0 x3 0 M24)).bind fun r27 =>
    fX7_lay_b109 a0 x1 x2 x3 x22 a25 x1 r27.1 r27.2
  else
    fX7_lay_b109 a0 x1 x2 x3 x22 a25 x1 x3 M24

set_option maxHeartbeats 4000000 in
set_option maxRecDepth 20000 in
theorem vX7_lay_b74 {B : ctB} {n : Nat} (hB : ctOk B kdM lnM n) : ∀ (a0 : Nat) (x1 : Int32) (x2 : Int32) (x3 : Int32) (M : ctM) (r : Int32 × ctM), fX7_lay_b74 a0 x1 x2 x3 M = some r → ctV B mX7_lay (3, 0, 0) (poI r n) 74 [some (.ref a0), some (.int x1), some (.int x2), some (.int x3), none, none, none] [] (0, 0) n M := by
  intro a0 x1 x2 x3 M r h
  unfold fX7_lay_b74 at h
  refine ct_aload_0 (q := 75) dX7_lay_74 rfl ?_
  obtain ⟨a21, ga21, h⟩ := ob h
  refine ct_getP (q := 78) hB dX7_lay_75 fl_RX7_28 rfl ga21 rfl ?_
  refine ct_iload_1 (q := 79) dX7_lay_78 rfl ?_
  obtain ⟨x22, gx22, h⟩ := ob h
  refine ct_iald (q := 80) hB dX7_lay_79 gx22 rfl ?_
  refine ct_istore_5 (q := 82) dX7_lay_80 (by decide) rfl rfl ?_
  refine ct_aload_0 (q := 83) dX7_lay_82 rfl ?_
  obtain ⟨a23, ga23, h⟩ := ob h
  refine ct_getP (q := 86) hB dX7_lay_83 fl_RX7_28 rfl ga23 rfl ?_
  refine ct_iload_1 (q := 87) dX7_lay_86 rfl ?_
  refine ct_iload_2 (q := 88) dX7_lay_87 rfl ?_
  obtain ⟨M24, gM24, h⟩ := ob h
  refine ct_iast (q := 89) hB dX7_lay_88 gM24 rfl ?_
  refine ct_aload_0 (q := 90) dX7_lay_89 rfl ?_
  obtain ⟨a25, ga25, h⟩ := ob h
  refine ct_getP (q := 93) hB dX7_lay_90 fl_RX7_31 rfl ga25 rfl ?_
  refine ct_iload_1 (q := 94) dX7_lay_93 rfl ?_
  refine ct_iload_2 (q := 95) dX7_lay_94 rfl ?_
  refine ct_iconst (v := 1) (q := 96) dX7_lay_95 (by decide) rfl ?_
  refine ct_icmp_ne (q := 99) (tgt := 108) dX7_lay_96 (by decide) rfl (fun z26 => ?_) (fun z26 => ?_)
  · replace h := it_f h z26
    refine ct_iload_3 (q := 109) dX7_lay_108 rfl ?_
    exact ct_lessK (vX7_lay_b109 hB  a0 x1 x2 x3 x22 a25 x1 x3 M24 r h) (And.intro rfl (And.intro rfl (And.intro rfl (And.intro rfl (And.intro rfl (trivial))))))
  · replace h := it_t h z26
    refine ct_aload_0 (q := 100) dX7_lay_99 rfl ?_
    refine ct_iload_3 (q := 101) dX7_lay_100 rfl ?_
    refine ct_iconst (v := 0) (q := 102) dX7_lay_101 (by decide) rfl ?_
    obtain ⟨r27, gr27, h⟩ := ob h
    obtain ⟨er27, gr27⟩ := cV_spec gr27
    refine ct_cVi2 (q := 105) hB dX7_lay_102 lk_RX7_80 (by decide) (ctX7_of hB gr27) er27 (by decide) rfl (Nat.le_of_ble_eq_true rfl) rfl ?_
    refine ct_goto (q := 109) dX7_lay_105 (by decide) ?_
    exact ct_lessK (vX7_lay_b109 hB  a0 x1 x2 x3 x22 a25 x1 r27.1 r27.2 r h) (And.intro rfl (And.intro rfl (And.intro rfl (And.intro rfl (And.intro rfl (trivial))))))

def fX7_lay_b39 (a0 : Nat) (x1 : Int32) (x2 : Int32) (x3 : Int32) (xs0 : Int32) (M : ctM) : Option (Int32 × ctM) :=
  (fX7_isSlot x1 M).bind fun r21 =>
  if r21.1 = 0 then
    some ((-1000000001), r21.2)
  else
    if xs0 = 0 then
      some ((-1000000001), r21.2)
    else
      if x2 = 2 then
        (gP kdM 7 4 a0 r21.2).bind fun a25 =>
        (aI kdM lnM 9 a25 x3 r21.2).bind fun x26 =>
        if 0 ≤ x26 then
          fX7_lay_b74 a0 x1 x2 x3 r21.2
        else
          some ((-1000000011), r21.2)
      else
        fX7_lay_b74 a0 x1 x2 x3 r21.2

set_option maxHeartbeats 4000000 in
set_option maxRecDepth 20000 in
theorem vX7_lay_b39 {B : ctB} {n : Nat} (hB : ctOk B kdM lnM n) : ∀ (a0 : Nat) (x1 : Int32) (x2 : Int32) (x3 : Int32) (xs0 : Int32) (M : ctM) (r : Int32 × ctM), fX7_lay_b39 a0 x1 x2 x3 xs0 M = some r → ctV B mX7_lay (3, 0, 0) (poI r n) 39 [some (.ref a0), some (.int x1), some (.int x2), some (.int x3), none, none, none] [.int xs0] (0, 0) n M := by
  intro a0 x1 x2 x3 xs0 M r h
  unfold fX7_lay_b39 at h
  refine ct_istore_4 (q := 41) dX7_lay_39 (by decide) rfl rfl ?_
  refine ct_iload_1 (q := 42) dX7_lay_41 rfl ?_
  obtain ⟨r21, gr21, h⟩ := ob h
  refine ct_cSi1 (q := 45) dX7_lay_42 lk_RX7_321 (by decide) (ctX7_isSlot hB gr21) (Nat.le_of_ble_eq_true rfl) rfl ?_
  refine ct_if_eq (q := 48) (tgt := 53) dX7_lay_45 (by decide) rfl (fun z22 => ?_) (fun z22 => ?_)
  · replace h := it_t h z22
    refine ct_ldc (q := 55) dX7_lay_53 wd_919 rfl ?_
    exact ct_iret dX7_lay_55 rfl ⟨Nat.le_refl 0, Nat.le_refl 0⟩ (poI_of h)
  · replace h := it_f h z22
    refine ct_iload_4 (q := 50) dX7_lay_48 rfl ?_
    refine ct_if_ne (q := 53) (tgt := 56) dX7_lay_50 (by decide) rfl (fun z23 => ?_) (fun z23 => ?_)
    · replace h := it_f h z23
      refine ct_iload_2 (q := 57) dX7_lay_56 rfl ?_
      refine ct_iconst (v := 2) (q := 58) dX7_lay_57 (by decide) rfl ?_
      refine ct_icmp_ne (q := 61) (tgt := 74) dX7_lay_58 (by decide) rfl (fun z24 => ?_) (fun z24 => ?_)
      · replace h := it_f h z24
        exact ct_lessK (vX7_lay_b74 hB  a0 x1 x2 x3 r21.2 r h) (And.intro rfl (And.intro rfl (And.intro rfl (And.intro rfl (trivial)))))
      · replace h := it_t h z24
        refine ct_aload_0 (q := 62) dX7_lay_61 rfl ?_
        obtain ⟨a25, ga25, h⟩ := ob h
        refine ct_getP (q := 65) hB dX7_lay_62 fl_RX7_19 rfl ga25 rfl ?_
        refine ct_iload_3 (q := 66) dX7_lay_65 rfl ?_
        obtain ⟨x26, gx26, h⟩ := ob h
        refine ct_iald (q := 67) hB dX7_lay_66 gx26 rfl ?_
        refine ct_if_ge (q := 70) (tgt := 74) dX7_lay_67 (by decide) rfl (fun z27 => ?_) (fun z27 => ?_)
        · replace h := it_t h z27
          exact ct_lessK (vX7_lay_b74 hB  a0 x1 x2 x3 r21.2 r h) (And.intro rfl (And.intro rfl (And.intro rfl (And.intro rfl (trivial)))))
        · replace h := it_f h z27
          refine ct_ldcw (q := 73) dX7_lay_70 wd_1225 rfl ?_
          exact ct_iret dX7_lay_73 rfl ⟨Nat.le_refl 0, Nat.le_refl 0⟩ (poI_of h)
    · replace h := it_t h z23
      refine ct_ldc (q := 55) dX7_lay_53 wd_919 rfl ?_
      exact ct_iret dX7_lay_55 rfl ⟨Nat.le_refl 0, Nat.le_refl 0⟩ (poI_of h)

def fX7_lay_b34 (a0 : Nat) (x1 : Int32) (x2 : Int32) (x3 : Int32) (M : ctM) : Option (Int32 × ctM) :=
  fX7_lay_b39 a0 x1 x2 x3 1 M

set_option maxHeartbeats 4000000 in
set_option maxRecDepth 20000 in
theorem vX7_lay_b34 {B : ctB} {n : Nat} (hB : ctOk B kdM lnM n) : ∀ (a0 : Nat) (x1 : Int32) (x2 : Int32) (x3 : Int32) (M : ctM) (r : Int32 × ctM), fX7_lay_b34 a0 x1 x2 x3 M = some r → ctV B mX7_lay (3, 0, 0) (poI r n) 34 [some (.ref a0), some (.int x1), some (.int x2), some (.int x3), none, none, none] [] (0, 0) n M := by
  intro a0 x1 x2 x3 M r h
  unfold fX7_lay_b34 at h
  refine ct_iconst (v := 1) (q := 35) dX7_lay_34 (by decide) rfl ?_
  refine ct_goto (q := 39) dX7_lay_35 (by decide) ?_
  exact ct_lessK (vX7_lay_b39 hB  a0 x1 x2 x3 1 M r h) (And.intro rfl (And.intro rfl (And.intro rfl (And.intro rfl (trivial)))))

def fX7_lay_b38 (a0 : Nat) (x1 : Int32) (x2 : Int32) (x3 : Int32) (M : ctM) : Option (Int32 × ctM) :=
  fX7_lay_b39 a0 x1 x2 x3 0 M

set_option maxHeartbeats 4000000 in
set_option maxRecDepth 20000 in
theorem vX7_lay_b38 {B : ctB} {n : Nat} (hB : ctOk B kdM lnM n) : ∀ (a0 : Nat) (x1 : Int32) (x2 : Int32) (x3 : Int32) (M : ctM) (r : Int32 × ctM), fX7_lay_b38 a0 x1 x2 x3 M = some r → ctV B mX7_lay (3, 0, 0) (poI r n) 38 [some (.ref a0), some (.int x1), some (.int x2), some (.int x3), none, none, none] [] (0, 0) n M := by
  intro a0 x1 x2 x3 M r h
  unfold fX7_lay_b38 at h
  refine ct_iconst (v := 0) (q := 39) dX7_lay_38 (by decide) rfl ?_
  exact ct_lessK (vX7_lay_b39 hB  a0 x1 x2 x3 0 M r h) (And.intro rfl (And.intro rfl (And.intro rfl (And.intro rfl (trivial)))))

def fX7_lay_b22 (a0 : Nat) (x1 : Int32) (x2 : Int32) (x3 : Int32) (M : ctM) : Option (Int32 × ctM) :=
  if x2 = 2 then
    (fX7_isSheet x3 M).bind fun r22 =>
    if r22.1 = 0 then
      fX7_lay_b38 a0 x1 x2 x3 r22.2
    else
      fX7_lay_b34 a0 x1 x2 x3 r22.2
  else
    fX7_lay_b38 a0 x1 x2 x3 M

set_option maxHeartbeats 4000000 in
set_option maxRecDepth 20000 in
theorem vX7_lay_b22 {B : ctB} {n : Nat} (hB : ctOk B kdM lnM n) : ∀ (a0 : Nat) (x1 : Int32) (x2 : Int32) (x3 : Int32) (M : ctM) (r : Int32 × ctM), fX7_lay_b22 a0 x1 x2 x3 M = some r → ctV B mX7_lay (3, 0, 0) (poI r n) 22 [some (.ref a0), some (.int x1), some (.int x2), some (.int x3), none, none, none] [] (0, 0) n M := by
  intro a0 x1 x2 x3 M r h
  unfold fX7_lay_b22 at h
  refine ct_iload_2 (q := 23) dX7_lay_22 rfl ?_
  refine ct_iconst (v := 2) (q := 24) dX7_lay_23 (by decide) rfl ?_
  refine ct_icmp_ne (q := 27) (tgt := 38) dX7_lay_24 (by decide) rfl (fun z21 => ?_) (fun z21 => ?_)
  · replace h := it_f h z21
    exact ct_lessK (vX7_lay_b38 hB  a0 x1 x2 x3 M r h) (And.intro rfl (And.intro rfl (And.intro rfl (And.intro rfl (trivial)))))
  · replace h := it_t h z21
    refine ct_iload_3 (q := 28) dX7_lay_27 rfl ?_
    obtain ⟨r22, gr22, h⟩ := ob h
    refine ct_cSi1 (q := 31) dX7_lay_28 lk_RX7_309 (by decide) (ctX7_isSheet hB gr22) (Nat.le_of_ble_eq_true rfl) rfl ?_
    refine ct_if_eq (q := 34) (tgt := 38) dX7_lay_31 (by decide) rfl (fun z23 => ?_) (fun z23 => ?_)
    · replace h := it_t h z23
      exact ct_lessK (vX7_lay_b38 hB  a0 x1 x2 x3 r22.2 r h) (And.intro rfl (And.intro rfl (And.intro rfl (And.intro rfl (trivial)))))
    · replace h := it_f h z23
      exact ct_lessK (vX7_lay_b34 hB  a0 x1 x2 x3 r22.2 r h) (And.intro rfl (And.intro rfl (And.intro rfl (And.intro rfl (trivial)))))

def fX7_lay (a0 : Nat) (x1 : Int32) (x2 : Int32) (x3 : Int32) (M : ctM) : Option (Int32 × ctM) :=
  if x2 = 0 then
    fX7_lay_b34 a0 x1 x2 x3 M
  else
    if x2 = 3 then
      fX7_lay_b34 a0 x1 x2 x3 M
    else
      if x2 = 1 then
        (cV kdM 7 a0 (fX7_isFlame a0 x3 M)).bind fun r24 =>
        if r24.1 = 0 then
          fX7_lay_b22 a0 x1 x2 x3 r24.2
        else
          fX7_lay_b34 a0 x1 x2 x3 r24.2
      else
        fX7_lay_b22 a0 x1 x2 x3 M

set_option maxHeartbeats 4000000 in
set_option maxRecDepth 20000 in
theorem ctX7_lay {B : ctB} {n : Nat} (hB : ctOk B kdM lnM n) {a0 : Nat} {x1 : Int32} {x2 : Int32} {x3 : Int32} {M : ctM} {r : Int32 × ctM} (h : fX7_lay a0 x1 x2 x3 M = some r) : ctC B mX7_lay (3, 0, 0) [.ref a0, .int x1, .int x2, .int x3] n M (poI r n) := by
  refine ctC_of (by decide) (Nat.le_of_ble_eq_true rfl) ?_
  show ctV B mX7_lay (3, 0, 0) (poI r n) 0 [some (.ref a0), some (.int x1), some (.int x2), some (.int x3), none, none, none] [] (0, 0) n M
  unfold fX7_lay at h
  refine ct_iload_2 (q := 1) dX7_lay_0 rfl ?_
  refine ct_if_eq (q := 4) (tgt := 34) dX7_lay_1 (by decide) rfl (fun z21 => ?_) (fun z21 => ?_)
  · replace h := it_t h z21
    exact ct_lessK (vX7_lay_b34 hB  a0 x1 x2 x3 M r h) (And.intro rfl (And.intro rfl (And.intro rfl (And.intro rfl (trivial)))))
  · replace h := it_f h z21
    refine ct_iload_2 (q := 5) dX7_lay_4 rfl ?_
    refine ct_iconst (v := 3) (q := 6) dX7_lay_5 (by decide) rfl ?_
    refine ct_icmp_eq (q := 9) (tgt := 34) dX7_lay_6 (by decide) rfl (fun z22 => ?_) (fun z22 => ?_)
    · replace h := it_t h z22
      exact ct_lessK (vX7_lay_b34 hB  a0 x1 x2 x3 M r h) (And.intro rfl (And.intro rfl (And.intro rfl (And.intro rfl (trivial)))))
    · replace h := it_f h z22
      refine ct_iload_2 (q := 10) dX7_lay_9 rfl ?_
      refine ct_iconst (v := 1) (q := 11) dX7_lay_10 (by decide) rfl ?_
      refine ct_icmp_ne (q := 14) (tgt := 22) dX7_lay_11 (by decide) rfl (fun z23 => ?_) (fun z23 => ?_)
      · replace h := it_f h z23
        exact ct_lessK (vX7_lay_b22 hB  a0 x1 x2 x3 M r h) (And.intro rfl (And.intro rfl (And.intro rfl (And.intro rfl (trivial)))))
      · replace h := it_t h z23
        refine ct_aload_0 (q := 15) dX7_lay_14 rfl ?_
        refine ct_iload_3 (q := 16) dX7_lay_15 rfl ?_
        obtain ⟨r24, gr24, h⟩ := ob h
        obtain ⟨er24, gr24⟩ := cV_spec gr24
        refine ct_cVi1 (q := 19) hB dX7_lay_16 lk_RX7_121 (by decide) (ctX7_isFlame hB gr24) er24 (by decide) rfl (Nat.le_of_ble_eq_true rfl) rfl ?_
        refine ct_if_ne (q := 22) (tgt := 34) dX7_lay_19 (by decide) rfl (fun z25 => ?_) (fun z25 => ?_)
        · replace h := it_f h z25
          exact ct_lessK (vX7_lay_b34 hB  a0 x1 x2 x3 r24.2 r h) (And.intro rfl (And.intro rfl (And.intro rfl (And.intro rfl (trivial)))))
        · replace h := it_t h z25
          exact ct_lessK (vX7_lay_b22 hB  a0 x1 x2 x3 r24.2 r h) (And.intro rfl (And.intro rfl (And.intro rfl (And.intro rfl (trivial)))))

def fX7_ask (a0 : Nat) (x1 : Int32) (x2 : Int32) (M : ctM) : Option (Int32 × ctM) :=
  (fX7_isSlot x1 M).bind fun r21 =>
  if r21.1 = 0 then
    some ((-1000000001), r21.2)
  else
    (fX7_isIn ((x2 : Int32).toInt64) 0 5 r21.2).bind fun r23 =>
    if r23.1 = 0 then
      some ((-1000000001), r23.2)
    else
      (gP kdM 7 7 a0 r23.2).bind fun a25 =>
      (aI kdM lnM 9 a25 x1 r23.2).bind fun x26 =>
      if x26 = 0 then
        some ((-1000000011), r23.2)
      else
        (gP kdM 7 7 a0 r23.2).bind fun a28 =>
        (aI kdM lnM 9 a28 x1 r23.2).bind fun x29 =>
        if x29 = 1 then
          (gP kdM 7 8 a0 r23.2).bind fun a31 =>
          (aI kdM lnM 9 a31 x1 r23.2).bind fun x32 =>
          (fX7_isOf x32 x2 r23.2).bind fun r33 =>
          if r33.1 = 0 then
            some ((-1000000012), r33.2)
          else
            (gP kdM 7 9 a0 r33.2).bind fun a35 =>
            (aI kdM lnM 9 a35 x1 r33.2).bind fun x36 =>
            some (x36, r33.2)
        else
          some ((-1000000012), r23.2)

set_option maxHeartbeats 4000000 in
set_option maxRecDepth 20000 in
theorem ctX7_ask {B : ctB} {n : Nat} (hB : ctOk B kdM lnM n) {a0 : Nat} {x1 : Int32} {x2 : Int32} {M : ctM} {r : Int32 × ctM} (h : fX7_ask a0 x1 x2 M = some r) : ctC B mX7_ask (2, 0, 0) [.ref a0, .int x1, .int x2] n M (poI r n) := by
  refine ctC_of (by decide) (Nat.le_of_ble_eq_true rfl) ?_
  show ctV B mX7_ask (2, 0, 0) (poI r n) 0 [some (.ref a0), some (.int x1), some (.int x2)] [] (0, 0) n M
  unfold fX7_ask at h
  refine ct_iload_1 (q := 1) dX7_ask_0 rfl ?_
  obtain ⟨r21, gr21, h⟩ := ob h
  refine ct_cSi1 (q := 4) dX7_ask_1 lk_RX7_321 (by decide) (ctX7_isSlot hB gr21) (Nat.le_of_ble_eq_true rfl) rfl ?_
  refine ct_if_eq (q := 7) (tgt := 19) dX7_ask_4 (by decide) rfl (fun z22 => ?_) (fun z22 => ?_)
  · replace h := it_t h z22
    refine ct_ldc (q := 21) dX7_ask_19 wd_919 rfl ?_
    exact ct_iret dX7_ask_21 rfl ⟨Nat.le_refl 0, Nat.le_refl 0⟩ (poI_of h)
  · replace h := it_f h z22
    refine ct_iload_2 (q := 8) dX7_ask_7 rfl ?_
    refine ct_i2l (q := 9) dX7_ask_8 rfl ?_
    refine ct_lconst (v := 0) (q := 10) dX7_ask_9 (by decide) rfl ?_
    refine ct_ldc2 (q := 13) dX7_ask_10 wd_911 rfl ?_
    obtain ⟨r23, gr23, h⟩ := ob h
    refine ct_cSi3 (q := 16) dX7_ask_13 lk_RX7_76 (by decide) (ctX7_isIn hB gr23) (Nat.le_of_ble_eq_true rfl) rfl ?_
    refine ct_if_ne (q := 19) (tgt := 22) dX7_ask_16 (by decide) rfl (fun z24 => ?_) (fun z24 => ?_)
    · replace h := it_f h z24
      refine ct_aload_0 (q := 23) dX7_ask_22 rfl ?_
      obtain ⟨a25, ga25, h⟩ := ob h
      refine ct_getP (q := 26) hB dX7_ask_23 fl_RX7_28 rfl ga25 rfl ?_
      refine ct_iload_1 (q := 27) dX7_ask_26 rfl ?_
      obtain ⟨x26, gx26, h⟩ := ob h
      refine ct_iald (q := 28) hB dX7_ask_27 gx26 rfl ?_
      refine ct_if_ne (q := 31) (tgt := 35) dX7_ask_28 (by decide) rfl (fun z27 => ?_) (fun z27 => ?_)
      · replace h := it_f h z27
        refine ct_aload_0 (q := 36) dX7_ask_35 rfl ?_
        obtain ⟨a28, ga28, h⟩ := ob h
        refine ct_getP (q := 39) hB dX7_ask_36 fl_RX7_28 rfl ga28 rfl ?_
        refine ct_iload_1 (q := 40) dX7_ask_39 rfl ?_
        obtain ⟨x29, gx29, h⟩ := ob h
        refine ct_iald (q := 41) hB dX7_ask_40 gx29 rfl ?_
        refine ct_iconst (v := 1) (q := 42) dX7_ask_41 (by decide) rfl ?_
        refine ct_icmp_ne (q := 45) (tgt := 67) dX7_ask_42 (by decide) rfl (fun z30 => ?_) (fun z30 => ?_)
        · replace h := it_f h z30
          refine ct_ldc (q := 69) dX7_ask_67 wd_993 rfl ?_
          exact ct_iret dX7_ask_69 rfl ⟨Nat.le_refl 0, Nat.le_refl 0⟩ (poI_of h)
        · replace h := it_t h z30
          refine ct_aload_0 (q := 46) dX7_ask_45 rfl ?_
          obtain ⟨a31, ga31, h⟩ := ob h
          refine ct_getP (q := 49) hB dX7_ask_46 fl_RX7_31 rfl ga31 rfl ?_
          refine ct_iload_1 (q := 50) dX7_ask_49 rfl ?_
          obtain ⟨x32, gx32, h⟩ := ob h
          refine ct_iald (q := 51) hB dX7_ask_50 gx32 rfl ?_
          refine ct_iload_2 (q := 52) dX7_ask_51 rfl ?_
          obtain ⟨r33, gr33, h⟩ := ob h
          refine ct_cSi2 (q := 55) dX7_ask_52 lk_RX7_135 (by decide) (ctX7_isOf hB gr33) (Nat.le_of_ble_eq_true rfl) rfl ?_
          refine ct_if_eq (q := 58) (tgt := 67) dX7_ask_55 (by decide) rfl (fun z34 => ?_) (fun z34 => ?_)
          · replace h := it_t h z34
            refine ct_ldc (q := 69) dX7_ask_67 wd_993 rfl ?_
            exact ct_iret dX7_ask_69 rfl ⟨Nat.le_refl 0, Nat.le_refl 0⟩ (poI_of h)
          · replace h := it_f h z34
            refine ct_aload_0 (q := 59) dX7_ask_58 rfl ?_
            obtain ⟨a35, ga35, h⟩ := ob h
            refine ct_getP (q := 62) hB dX7_ask_59 fl_RX7_34 rfl ga35 rfl ?_
            refine ct_iload_1 (q := 63) dX7_ask_62 rfl ?_
            obtain ⟨x36, gx36, h⟩ := ob h
            refine ct_iald (q := 64) hB dX7_ask_63 gx36 rfl ?_
            refine ct_goto (q := 69) dX7_ask_64 (by decide) ?_
            exact ct_iret dX7_ask_69 rfl ⟨Nat.le_refl 0, Nat.le_refl 0⟩ (poI_of h)
      · replace h := it_t h z27
        refine ct_ldcw (q := 34) dX7_ask_31 wd_1225 rfl ?_
        exact ct_iret dX7_ask_34 rfl ⟨Nat.le_refl 0, Nat.le_refl 0⟩ (poI_of h)
    · replace h := it_t h z24
      refine ct_ldc (q := 21) dX7_ask_19 wd_919 rfl ?_
      exact ct_iret dX7_ask_21 rfl ⟨Nat.le_refl 0, Nat.le_refl 0⟩ (poI_of h)

def fX7_item (a0 : Nat) (x1 : Int32) (x2 : Int32) (M : ctM) : Option (Int32 × ctM) :=
  (fX7_isSlot x1 M).bind fun r21 =>
  if r21.1 = 0 then
    some ((-1000000001), r21.2)
  else
    (gP kdM 7 7 a0 r21.2).bind fun a23 =>
    (aI kdM lnM 9 a23 x1 r21.2).bind fun x24 =>
    if x24 = 2 then
      (gP kdM 7 10 a0 r21.2).bind fun a26 =>
      (aI kdM lnM 9 a26 x1 r21.2).bind fun x27 =>
      (fX7_isIn ((x2 : Int32).toInt64) 0 (((x27 - 1) : Int32).toInt64) r21.2).bind fun r28 =>
      if r28.1 = 0 then
        some ((-1000000013), r28.2)
      else
        (gP kdM 7 11 a0 r28.2).bind fun a30 =>
        (aI kdM lnM 9 a30 ((24 * x1) + x2) r28.2).bind fun x31 =>
        if x31 = (-1000000005) then
          some ((-1000000012), r28.2)
        else
          some (x31, r28.2)
    else
      (gP kdM 7 7 a0 r21.2).bind fun a33 =>
      (aI kdM lnM 9 a33 x1 r21.2).bind fun x34 =>
      if x34 = 0 then
        some ((-1000000011), r21.2)
      else
        some ((-1000000012), r21.2)

set_option maxHeartbeats 4000000 in
set_option maxRecDepth 20000 in
theorem ctX7_item {B : ctB} {n : Nat} (hB : ctOk B kdM lnM n) {a0 : Nat} {x1 : Int32} {x2 : Int32} {M : ctM} {r : Int32 × ctM} (h : fX7_item a0 x1 x2 M = some r) : ctC B mX7_item (2, 0, 0) [.ref a0, .int x1, .int x2] n M (poI r n) := by
  refine ctC_of (by decide) (Nat.le_of_ble_eq_true rfl) ?_
  show ctV B mX7_item (2, 0, 0) (poI r n) 0 [some (.ref a0), some (.int x1), some (.int x2), none] [] (0, 0) n M
  unfold fX7_item at h
  refine ct_iload_1 (q := 1) dX7_item_0 rfl ?_
  obtain ⟨r21, gr21, h⟩ := ob h
  refine ct_cSi1 (q := 4) dX7_item_1 lk_RX7_321 (by decide) (ctX7_isSlot hB gr21) (Nat.le_of_ble_eq_true rfl) rfl ?_
  refine ct_if_ne (q := 7) (tgt := 10) dX7_item_4 (by decide) rfl (fun z22 => ?_) (fun z22 => ?_)
  · replace h := it_f h z22
    refine ct_aload_0 (q := 11) dX7_item_10 rfl ?_
    obtain ⟨a23, ga23, h⟩ := ob h
    refine ct_getP (q := 14) hB dX7_item_11 fl_RX7_28 rfl ga23 rfl ?_
    refine ct_iload_1 (q := 15) dX7_item_14 rfl ?_
    obtain ⟨x24, gx24, h⟩ := ob h
    refine ct_iald (q := 16) hB dX7_item_15 gx24 rfl ?_
    refine ct_iconst (v := 2) (q := 17) dX7_item_16 (by decide) rfl ?_
    refine ct_icmp_eq (q := 20) (tgt := 38) dX7_item_17 (by decide) rfl (fun z25 => ?_) (fun z25 => ?_)
    · replace h := it_t h z25
      refine ct_iload_2 (q := 39) dX7_item_38 rfl ?_
      refine ct_i2l (q := 40) dX7_item_39 rfl ?_
      refine ct_lconst (v := 0) (q := 41) dX7_item_40 (by decide) rfl ?_
      refine ct_aload_0 (q := 42) dX7_item_41 rfl ?_
      obtain ⟨a26, ga26, h⟩ := ob h
      refine ct_getP (q := 45) hB dX7_item_42 fl_RX7_37 rfl ga26 rfl ?_
      refine ct_iload_1 (q := 46) dX7_item_45 rfl ?_
      obtain ⟨x27, gx27, h⟩ := ob h
      refine ct_iald (q := 47) hB dX7_item_46 gx27 rfl ?_
      refine ct_iconst (v := 1) (q := 48) dX7_item_47 (by decide) rfl ?_
      refine ct_isub (q := 49) dX7_item_48 rfl ?_
      refine ct_i2l (q := 50) dX7_item_49 rfl ?_
      obtain ⟨r28, gr28, h⟩ := ob h
      refine ct_cSi3 (q := 53) dX7_item_50 lk_RX7_76 (by decide) (ctX7_isIn hB gr28) (Nat.le_of_ble_eq_true rfl) rfl ?_
      refine ct_if_ne (q := 56) (tgt := 60) dX7_item_53 (by decide) rfl (fun z29 => ?_) (fun z29 => ?_)
      · replace h := it_f h z29
        refine ct_aload_0 (q := 61) dX7_item_60 rfl ?_
        obtain ⟨a30, ga30, h⟩ := ob h
        refine ct_getP (q := 64) hB dX7_item_61 fl_RX7_40 rfl ga30 rfl ?_
        refine ct_bipush (v := 24) (q := 66) dX7_item_64 (by decide) rfl ?_
        refine ct_iload_1 (q := 67) dX7_item_66 rfl ?_
        refine ct_imul (q := 68) dX7_item_67 rfl ?_
        refine ct_iload_2 (q := 69) dX7_item_68 rfl ?_
        refine ct_iadd (q := 70) dX7_item_69 rfl ?_
        obtain ⟨x31, gx31, h⟩ := ob h
        refine ct_iald (q := 71) hB dX7_item_70 gx31 rfl ?_
        refine ct_istore_3 (q := 72) dX7_item_71 (by decide) rfl rfl ?_
        refine ct_iload_3 (q := 73) dX7_item_72 rfl ?_
        refine ct_ldc (q := 75) dX7_item_73 wd_1073 rfl ?_
        refine ct_icmp_ne (q := 78) (tgt := 83) dX7_item_75 (by decide) rfl (fun z32 => ?_) (fun z32 => ?_)
        · replace h := it_f h z32
          refine ct_iload_3 (q := 84) dX7_item_83 rfl ?_
          exact ct_iret dX7_item_84 rfl ⟨Nat.le_refl 0, Nat.le_refl 0⟩ (poI_of h)
        · replace h := it_t h z32
          refine ct_ldc (q := 80) dX7_item_78 wd_993 rfl ?_
          refine ct_goto (q := 84) dX7_item_80 (by decide) ?_
          exact ct_iret dX7_item_84 rfl ⟨Nat.le_refl 0, Nat.le_refl 0⟩ (poI_of h)
      · replace h := it_t h z29
        refine ct_ldcw (q := 59) dX7_item_56 wd_1226 rfl ?_
        exact ct_iret dX7_item_59 rfl ⟨Nat.le_refl 0, Nat.le_refl 0⟩ (poI_of h)
    · replace h := it_f h z25
      refine ct_aload_0 (q := 21) dX7_item_20 rfl ?_
      obtain ⟨a33, ga33, h⟩ := ob h
      refine ct_getP (q := 24) hB dX7_item_21 fl_RX7_28 rfl ga33 rfl ?_
      refine ct_iload_1 (q := 25) dX7_item_24 rfl ?_
      obtain ⟨x34, gx34, h⟩ := ob h
      refine ct_iald (q := 26) hB dX7_item_25 gx34 rfl ?_
      refine ct_if_ne (q := 29) (tgt := 35) dX7_item_26 (by decide) rfl (fun z35 => ?_) (fun z35 => ?_)
      · replace h := it_f h z35
        refine ct_ldc (q := 37) dX7_item_35 wd_993 rfl ?_
        exact ct_iret dX7_item_37 rfl ⟨Nat.le_refl 0, Nat.le_refl 0⟩ (poI_of h)
      · replace h := it_t h z35
        refine ct_ldcw (q := 32) dX7_item_29 wd_1225 rfl ?_
        refine ct_goto (q := 37) dX7_item_32 (by decide) ?_
        exact ct_iret dX7_item_37 rfl ⟨Nat.le_refl 0, Nat.le_refl 0⟩ (poI_of h)
  · replace h := it_t h z22
    refine ct_ldc (q := 9) dX7_item_7 wd_919 rfl ?_
    exact ct_iret dX7_item_9 rfl ⟨Nat.le_refl 0, Nat.le_refl 0⟩ (poI_of h)

def fX7_rest (a0 : Nat) (x1 : Int32) (x2 : Int32) (M : ctM) : Option (Int32 × ctM) :=
  (fX7_isSlot x1 M).bind fun r21 =>
  if r21.1 = 0 then
    some ((-1000000001), r21.2)
  else
    (gP kdM 7 7 a0 r21.2).bind fun a23 =>
    (aI kdM lnM 9 a23 x1 r21.2).bind fun x24 =>
    if x24 = 3 then
      if x2 = 0 then
        some ((-1000000002), r21.2)
      else
        (gP kdM 7 8 a0 r21.2).bind fun a27 =>
        (aI kdM lnM 9 a27 x1 r21.2).bind fun x28 =>
        if x2 = 0 then none else
        some ((x28 % x2), r21.2)
    else
      (gP kdM 7 7 a0 r21.2).bind fun a30 =>
      (aI kdM lnM 9 a30 x1 r21.2).bind fun x31 =>
      if x31 = 0 then
        some ((-1000000011), r21.2)
      else
        some ((-1000000012), r21.2)

set_option maxHeartbeats 4000000 in
set_option maxRecDepth 20000 in
theorem ctX7_rest {B : ctB} {n : Nat} (hB : ctOk B kdM lnM n) {a0 : Nat} {x1 : Int32} {x2 : Int32} {M : ctM} {r : Int32 × ctM} (h : fX7_rest a0 x1 x2 M = some r) : ctC B mX7_rest (2, 0, 0) [.ref a0, .int x1, .int x2] n M (poI r n) := by
  refine ctC_of (by decide) (Nat.le_of_ble_eq_true rfl) ?_
  show ctV B mX7_rest (2, 0, 0) (poI r n) 0 [some (.ref a0), some (.int x1), some (.int x2)] [] (0, 0) n M
  unfold fX7_rest at h
  refine ct_iload_1 (q := 1) dX7_rest_0 rfl ?_
  obtain ⟨r21, gr21, h⟩ := ob h
  refine ct_cSi1 (q := 4) dX7_rest_1 lk_RX7_321 (by decide) (ctX7_isSlot hB gr21) (Nat.le_of_ble_eq_true rfl) rfl ?_
  refine ct_if_ne (q := 7) (tgt := 10) dX7_rest_4 (by decide) rfl (fun z22 => ?_) (fun z22 => ?_)
  · replace h := it_f h z22
    refine ct_aload_0 (q := 11) dX7_rest_10 rfl ?_
    obtain ⟨a23, ga23, h⟩ := ob h
    refine ct_getP (q := 14) hB dX7_rest_11 fl_RX7_28 rfl ga23 rfl ?_
    refine ct_iload_1 (q := 15) dX7_rest_14 rfl ?_
    obtain ⟨x24, gx24, h⟩ := ob h
    refine ct_iald (q := 16) hB dX7_rest_15 gx24 rfl ?_
    refine ct_iconst (v := 3) (q := 17) dX7_rest_16 (by decide) rfl ?_
    refine ct_icmp_eq (q := 20) (tgt := 38) dX7_rest_17 (by decide) rfl (fun z25 => ?_) (fun z25 => ?_)
    · replace h := it_t h z25
      refine ct_iload_2 (q := 39) dX7_rest_38 rfl ?_
      refine ct_if_ne (q := 42) (tgt := 47) dX7_rest_39 (by decide) rfl (fun z26 => ?_) (fun z26 => ?_)
      · replace h := it_f h z26
        refine ct_aload_0 (q := 48) dX7_rest_47 rfl ?_
        obtain ⟨a27, ga27, h⟩ := ob h
        refine ct_getP (q := 51) hB dX7_rest_48 fl_RX7_31 rfl ga27 rfl ?_
        refine ct_iload_1 (q := 52) dX7_rest_51 rfl ?_
        obtain ⟨x28, gx28, h⟩ := ob h
        refine ct_iald (q := 53) hB dX7_rest_52 gx28 rfl ?_
        refine ct_iload_2 (q := 54) dX7_rest_53 rfl ?_
        by_cases z29 : x2 = 0
        · exact absurd (it_t h z29) (by simp)
        replace h := it_f h z29
        refine ct_irem (q := 55) dX7_rest_54 z29 rfl ?_
        exact ct_iret dX7_rest_55 rfl ⟨Nat.le_refl 0, Nat.le_refl 0⟩ (poI_of h)
      · replace h := it_t h z26
        refine ct_ldc (q := 44) dX7_rest_42 wd_1117 rfl ?_
        refine ct_goto (q := 55) dX7_rest_44 (by decide) ?_
        exact ct_iret dX7_rest_55 rfl ⟨Nat.le_refl 0, Nat.le_refl 0⟩ (poI_of h)
    · replace h := it_f h z25
      refine ct_aload_0 (q := 21) dX7_rest_20 rfl ?_
      obtain ⟨a30, ga30, h⟩ := ob h
      refine ct_getP (q := 24) hB dX7_rest_21 fl_RX7_28 rfl ga30 rfl ?_
      refine ct_iload_1 (q := 25) dX7_rest_24 rfl ?_
      obtain ⟨x31, gx31, h⟩ := ob h
      refine ct_iald (q := 26) hB dX7_rest_25 gx31 rfl ?_
      refine ct_if_ne (q := 29) (tgt := 35) dX7_rest_26 (by decide) rfl (fun z32 => ?_) (fun z32 => ?_)
      · replace h := it_f h z32
        refine ct_ldc (q := 37) dX7_rest_35 wd_993 rfl ?_
        exact ct_iret dX7_rest_37 rfl ⟨Nat.le_refl 0, Nat.le_refl 0⟩ (poI_of h)
      · replace h := it_t h z32
        refine ct_ldcw (q := 32) dX7_rest_29 wd_1225 rfl ?_
        refine ct_goto (q := 37) dX7_rest_32 (by decide) ?_
        exact ct_iret dX7_rest_37 rfl ⟨Nat.le_refl 0, Nat.le_refl 0⟩ (poI_of h)
  · replace h := it_t h z22
    refine ct_ldc (q := 9) dX7_rest_7 wd_919 rfl ?_
    exact ct_iret dX7_rest_9 rfl ⟨Nat.le_refl 0, Nat.le_refl 0⟩ (poI_of h)

def fX7_tell (a0 : Nat) (x1 : Int32) (M : ctM) : Option (Int32 × ctM) :=
  (gI kdM 7 33 a0 M).bind fun x21 =>
  if x21 = 60 then
    some ((-1000000003), M)
  else
    (gP kdM 7 32 a0 M).bind fun a23 =>
    (gI kdM 7 33 a0 M).bind fun x24 =>
    (sI kdM lnM 9 a23 x24 x1 M).bind fun M25 =>
    (gI kdM 7 33 a0 M25).bind fun x26 =>
    (pI kdM 7 33 a0 (x26 + 1) M25).bind fun M27 =>
    (gI kdM 7 33 a0 M27).bind fun x28 =>
    some (x28, M27)

set_option maxHeartbeats 4000000 in
set_option maxRecDepth 20000 in
theorem ctX7_tell {B : ctB} {n : Nat} (hB : ctOk B kdM lnM n) {a0 : Nat} {x1 : Int32} {M : ctM} {r : Int32 × ctM} (h : fX7_tell a0 x1 M = some r) : ctC B mX7_tell (0, 0, 0) [.ref a0, .int x1] n M (poI r n) := by
  refine ctC_of (by decide) (Nat.le_of_ble_eq_true rfl) ?_
  show ctV B mX7_tell (0, 0, 0) (poI r n) 0 [some (.ref a0), some (.int x1)] [] (0, 0) n M
  unfold fX7_tell at h
  refine ct_aload_0 (q := 1) dX7_tell_0 rfl ?_
  obtain ⟨x21, gx21, h⟩ := ob h
  refine ct_getI (q := 4) hB dX7_tell_1 fl_RX7_324 rfl gx21 rfl ?_
  refine ct_bipush (v := 60) (q := 6) dX7_tell_4 (by decide) rfl ?_
  refine ct_icmp_ne (q := 9) (tgt := 12) dX7_tell_6 (by decide) rfl (fun z22 => ?_) (fun z22 => ?_)
  · replace h := it_f h z22
    refine ct_aload_0 (q := 13) dX7_tell_12 rfl ?_
    obtain ⟨a23, ga23, h⟩ := ob h
    refine ct_getP (q := 16) hB dX7_tell_13 fl_RX7_65 rfl ga23 rfl ?_
    refine ct_aload_0 (q := 17) dX7_tell_16 rfl ?_
    obtain ⟨x24, gx24, h⟩ := ob h
    refine ct_getI (q := 20) hB dX7_tell_17 fl_RX7_324 rfl gx24 rfl ?_
    refine ct_iload_1 (q := 21) dX7_tell_20 rfl ?_
    obtain ⟨M25, gM25, h⟩ := ob h
    refine ct_iast (q := 22) hB dX7_tell_21 gM25 rfl ?_
    refine ct_aload_0 (q := 23) dX7_tell_22 rfl ?_
    refine ct_dup (q := 24) dX7_tell_23 rfl rfl ?_
    obtain ⟨x26, gx26, h⟩ := ob h
    refine ct_getI (q := 27) hB dX7_tell_24 fl_RX7_324 rfl gx26 rfl ?_
    refine ct_iconst (v := 1) (q := 28) dX7_tell_27 (by decide) rfl ?_
    refine ct_iadd (q := 29) dX7_tell_28 rfl ?_
    obtain ⟨M27, gM27, h⟩ := ob h
    refine ct_putI (q := 32) hB dX7_tell_29 fl_RX7_324 rfl rfl (Or.inl rfl) gM27 rfl ?_
    refine ct_aload_0 (q := 33) dX7_tell_32 rfl ?_
    obtain ⟨x28, gx28, h⟩ := ob h
    refine ct_getI (q := 36) hB dX7_tell_33 fl_RX7_324 rfl gx28 rfl ?_
    exact ct_iret dX7_tell_36 rfl ⟨Nat.le_refl 0, Nat.le_refl 0⟩ (poI_of h)
  · replace h := it_t h z22
    refine ct_ldc (q := 11) dX7_tell_9 wd_920 rfl ?_
    exact ct_iret dX7_tell_11 rfl ⟨Nat.le_refl 0, Nat.le_refl 0⟩ (poI_of h)

def fX7_setAside_h2 : Nat → Nat → Nat → Int32 → ctM → Option (ctM)
  | 0, _, _, _, _ => none
  | N + 1, a1, a2, x3, M =>
    if 2870 ≤ x3 then
      some M
    else
      (aI kdM lnM 9 a1 x3 M).bind fun x22 =>
      (sI kdM lnM 9 a2 x3 x22 M).bind fun M23 =>
      fX7_setAside_h2 N a1 a2 (x3 + 1) M23

set_option maxHeartbeats 4000000 in
set_option maxRecDepth 20000 in
theorem vX7_setAside_h2 {B : ctB} {n : Nat} (hB : ctOk B kdM lnM n) : ∀ (N : Nat) (a1 : Nat) (a2 : Nat) (x3 : Int32) (M : ctM) (r : ctM), fX7_setAside_h2 N a1 a2 x3 M = some r → ctV B mX7_setAside (0, 0, 0) (poV r n) 2 [none, some (.ref a1), some (.ref a2), some (.int x3)] [] (0, 0) n M := by
  intro N
  induction N with
  | zero => intro a1 a2 x3 M r h; exact absurd h (by simp [fX7_setAside_h2])
  | succ N ih =>
    intro a1 a2 x3 M r h
    rw [fX7_setAside_h2] at h
    refine ct_iload_3 (q := 3) dX7_setAside_2 rfl ?_
    refine ct_sipush (v := 2870) (q := 6) dX7_setAside_3 (by decide) rfl ?_
    refine ct_icmp_ge (q := 9) (tgt := 21) dX7_setAside_6 (by decide) rfl (fun z21 => ?_) (fun z21 => ?_)
    · replace h := it_t h z21
      exact ct_vret dX7_setAside_21 rfl ⟨Nat.le_refl 0, Nat.le_refl 0⟩ (poV_of h)
    · replace h := it_f h z21
      refine ct_aload_2 (q := 10) dX7_setAside_9 rfl ?_
      refine ct_iload_3 (q := 11) dX7_setAside_10 rfl ?_
      refine ct_aload_1 (q := 12) dX7_setAside_11 rfl ?_
      refine ct_iload_3 (q := 13) dX7_setAside_12 rfl ?_
      obtain ⟨x22, gx22, h⟩ := ob h
      refine ct_iald (q := 14) hB dX7_setAside_13 gx22 rfl ?_
      obtain ⟨M23, gM23, h⟩ := ob h
      refine ct_iast (q := 15) hB dX7_setAside_14 gM23 rfl ?_
      refine ct_iinc_3 (q := 18) (v := x3 + 1) dX7_setAside_15 (by first | rfl | decide) (by decide) rfl rfl ?_
      refine ct_goto (q := 2) dX7_setAside_18 (by decide) ?_
      exact ct_lessK (ih a1 a2 (x3 + 1) M23 r h) (And.intro rfl (And.intro rfl (And.intro rfl (trivial))))

def fX7_setAside (a0 : Nat) (a1 : Nat) (a2 : Nat) (M : ctM) : Option (ctM) :=
  fX7_setAside_h2 4000 a1 a2 0 M

set_option maxHeartbeats 4000000 in
set_option maxRecDepth 20000 in
theorem ctX7_setAside {B : ctB} {n : Nat} (hB : ctOk B kdM lnM n) {a0 : Nat} {a1 : Nat} {a2 : Nat} {M : ctM} {r : ctM} (h : fX7_setAside a0 a1 a2 M = some r) : ctC B mX7_setAside (0, 0, 0) [.ref a0, .ref a1, .ref a2] n M (poV r n) := by
  refine ctC_of (by decide) (Nat.le_of_ble_eq_true rfl) ?_
  show ctV B mX7_setAside (0, 0, 0) (poV r n) 0 [some (.ref a0), some (.ref a1), some (.ref a2), none] [] (0, 0) n M
  unfold fX7_setAside at h
  refine ct_iconst (v := 0) (q := 1) dX7_setAside_0 (by decide) rfl ?_
  refine ct_istore_3 (q := 2) dX7_setAside_1 (by decide) rfl rfl ?_
  exact ct_lessK (vX7_setAside_h2 hB  4000 a1 a2 0 M r h) (And.intro rfl (And.intro rfl (And.intro rfl (trivial))))

def fX7_check_b161 (x3 : Int32) (M : ctM) : Option (Int32 × ctM) :=
  some ((1 + x3), M)

set_option maxHeartbeats 4000000 in
set_option maxRecDepth 20000 in
theorem vX7_check_b161 {B : ctB} {n : Nat} (hB : ctOk B kdM lnM n) : ∀ (x3 : Int32) (M : ctM) (r : Int32 × ctM), fX7_check_b161 x3 M = some r → ctV B mX7_check (7, 0, 0) (poI r n) 161 [none, none, none, some (.int x3)] [] (0, 0) n M := by
  intro x3 M r h
  unfold fX7_check_b161 at h
  refine ct_iconst (v := 1) (q := 162) dX7_check_161 (by decide) rfl ?_
  refine ct_iload_3 (q := 163) dX7_check_162 rfl ?_
  refine ct_iadd (q := 164) dX7_check_163 rfl ?_
  exact ct_iret dX7_check_164 rfl ⟨Nat.le_refl 0, Nat.le_refl 0⟩ (poI_of h)

def fX7_check_b145 (x1 : Int32) (x2 : Int32) (x3 : Int32) (M : ctM) : Option (Int32 × ctM) :=
  if x3 = x2 then
    if x3 = (2 * x1) then
      some (0, M)
    else
      fX7_check_b161 x3 M
  else
    fX7_check_b161 x3 M

set_option maxHeartbeats 4000000 in
set_option maxRecDepth 20000 in
theorem vX7_check_b145 {B : ctB} {n : Nat} (hB : ctOk B kdM lnM n) : ∀ (x1 : Int32) (x2 : Int32) (x3 : Int32) (M : ctM) (r : Int32 × ctM), fX7_check_b145 x1 x2 x3 M = some r → ctV B mX7_check (7, 0, 0) (poI r n) 145 [none, some (.int x1), some (.int x2), some (.int x3)] [] (0, 0) n M := by
  intro x1 x2 x3 M r h
  unfold fX7_check_b145 at h
  refine ct_iload_3 (q := 146) dX7_check_145 rfl ?_
  refine ct_iload_2 (q := 147) dX7_check_146 rfl ?_
  refine ct_icmp_ne (q := 150) (tgt := 161) dX7_check_147 (by decide) rfl (fun z21 => ?_) (fun z21 => ?_)
  · replace h := it_f h z21
    exact ct_lessK (vX7_check_b161 hB  x3 M r h) (And.intro rfl (trivial))
  · replace h := it_t h z21
    refine ct_iload_3 (q := 151) dX7_check_150 rfl ?_
    refine ct_iconst (v := 2) (q := 152) dX7_check_151 (by decide) rfl ?_
    refine ct_iload_1 (q := 153) dX7_check_152 rfl ?_
    refine ct_imul (q := 154) dX7_check_153 rfl ?_
    refine ct_icmp_ne (q := 157) (tgt := 161) dX7_check_154 (by decide) rfl (fun z22 => ?_) (fun z22 => ?_)
    · replace h := it_f h z22
      exact ct_lessK (vX7_check_b161 hB  x3 M r h) (And.intro rfl (trivial))
    · replace h := it_t h z22
      refine ct_iconst (v := 0) (q := 158) dX7_check_157 (by decide) rfl ?_
      refine ct_goto (q := 164) dX7_check_158 (by decide) ?_
      exact ct_iret dX7_check_164 rfl ⟨Nat.le_refl 0, Nat.le_refl 0⟩ (poI_of h)

def fX7_check_h112 : Nat → Nat → Int32 → Int32 → Int32 → ctM → Option (Int32 × ctM)
  | 0, _, _, _, _, _ => none
  | N + 1, a0, x1, x2, x3, M =>
    if x2 ≤ x3 then
      fX7_check_b145 x1 x2 x3 M
    else
      if (2 * x1) ≤ x3 then
        fX7_check_b145 x1 x2 x3 M
      else
        (gP kdM 7 32 a0 M).bind fun a23 =>
        (aI kdM lnM 9 a23 x3 M).bind fun x24 =>
        (gP kdM 7 34 a0 M).bind fun a25 =>
        (aI kdM lnM 9 a25 x3 M).bind fun x26 =>
        if x24 = x26 then
          fX7_check_h112 N a0 x1 x2 (x3 + 1) M
        else
          fX7_check_b145 x1 x2 x3 M

set_option maxHeartbeats 4000000 in
set_option maxRecDepth 20000 in
theorem vX7_check_h112 {B : ctB} {n : Nat} (hB : ctOk B kdM lnM n) : ∀ (N : Nat) (a0 : Nat) (x1 : Int32) (x2 : Int32) (x3 : Int32) (M : ctM) (r : Int32 × ctM), fX7_check_h112 N a0 x1 x2 x3 M = some r → ctV B mX7_check (7, 0, 0) (poI r n) 112 [some (.ref a0), some (.int x1), some (.int x2), some (.int x3)] [] (0, 0) n M := by
  intro N
  induction N with
  | zero => intro a0 x1 x2 x3 M r h; exact absurd h (by simp [fX7_check_h112])
  | succ N ih =>
    intro a0 x1 x2 x3 M r h
    rw [fX7_check_h112] at h
    refine ct_iload_3 (q := 113) dX7_check_112 rfl ?_
    refine ct_iload_2 (q := 114) dX7_check_113 rfl ?_
    refine ct_icmp_ge (q := 117) (tgt := 145) dX7_check_114 (by decide) rfl (fun z21 => ?_) (fun z21 => ?_)
    · replace h := it_t h z21
      exact ct_lessK (vX7_check_b145 hB  x1 x2 x3 M r h) (And.intro rfl (And.intro rfl (And.intro rfl (trivial))))
    · replace h := it_f h z21
      refine ct_iload_3 (q := 118) dX7_check_117 rfl ?_
      refine ct_iconst (v := 2) (q := 119) dX7_check_118 (by decide) rfl ?_
      refine ct_iload_1 (q := 120) dX7_check_119 rfl ?_
      refine ct_imul (q := 121) dX7_check_120 rfl ?_
      refine ct_icmp_ge (q := 124) (tgt := 145) dX7_check_121 (by decide) rfl (fun z22 => ?_) (fun z22 => ?_)
      · replace h := it_t h z22
        exact ct_lessK (vX7_check_b145 hB  x1 x2 x3 M r h) (And.intro rfl (And.intro rfl (And.intro rfl (trivial))))
      · replace h := it_f h z22
        refine ct_aload_0 (q := 125) dX7_check_124 rfl ?_
        obtain ⟨a23, ga23, h⟩ := ob h
        refine ct_getP (q := 128) hB dX7_check_125 fl_RX7_65 rfl ga23 rfl ?_
        refine ct_iload_3 (q := 129) dX7_check_128 rfl ?_
        obtain ⟨x24, gx24, h⟩ := ob h
        refine ct_iald (q := 130) hB dX7_check_129 gx24 rfl ?_
        refine ct_aload_0 (q := 131) dX7_check_130 rfl ?_
        obtain ⟨a25, ga25, h⟩ := ob h
        refine ct_getP (q := 134) hB dX7_check_131 fl_RX7_68 rfl ga25 rfl ?_
        refine ct_iload_3 (q := 135) dX7_check_134 rfl ?_
        obtain ⟨x26, gx26, h⟩ := ob h
        refine ct_iald (q := 136) hB dX7_check_135 gx26 rfl ?_
        refine ct_icmp_ne (q := 139) (tgt := 145) dX7_check_136 (by decide) rfl (fun z27 => ?_) (fun z27 => ?_)
        · replace h := it_f h z27
          exact ct_lessK (vX7_check_b145 hB  x1 x2 x3 M r h) (And.intro rfl (And.intro rfl (And.intro rfl (trivial))))
        · replace h := it_t h z27
          refine ct_iinc_3 (q := 142) (v := x3 + 1) dX7_check_139 (by first | rfl | decide) (by decide) rfl rfl ?_
          refine ct_goto (q := 112) dX7_check_142 (by decide) ?_
          exact ct_lessK (ih a0 x1 x2 (x3 + 1) M r h) (And.intro rfl (And.intro rfl (And.intro rfl (And.intro rfl (trivial)))))

def fX7_check_h61 : Nat → Nat → Int32 → Int32 → Int32 → ctM → Option (Int32 × ctM)
  | 0, _, _, _, _, _ => none
  | N + 1, a0, x1, x2, x3, M =>
    if x1 ≤ x3 then
      (gP kdM 7 2 a0 M).bind fun a22 =>
      (gP kdM 7 0 a0 M).bind fun a23 =>
      (cV kdM 7 a0 (fX7_setAside a0 a22 a23 M)).bind fun r24 =>
      fX7_check_h112 4000 a0 x1 x2 0 r24
    else
      (gP kdM 7 34 a0 M).bind fun a25 =>
      (cV kdM 7 a0 (fX7_ticks a0 M)).bind fun r26 =>
      (sI kdM lnM 9 a25 ((2 * x3) + 1) r26.1 r26.2).bind fun M27 =>
      (gP kdM 7 34 a0 M27).bind fun a28 =>
      (cV kdM 7 a0 (fX7_spread a0 M27)).bind fun r29 =>
      (sI kdM lnM 9 a28 (2 * x3) r29.1 r29.2).bind fun M30 =>
      fX7_check_h61 N a0 x1 x2 (x3 + 1) M30

set_option maxHeartbeats 4000000 in
set_option maxRecDepth 20000 in
theorem vX7_check_h61 {B : ctB} {n : Nat} (hB : ctOk B kdM lnM n) : ∀ (N : Nat) (a0 : Nat) (x1 : Int32) (x2 : Int32) (x3 : Int32) (M : ctM) (r : Int32 × ctM), fX7_check_h61 N a0 x1 x2 x3 M = some r → ctV B mX7_check (7, 0, 0) (poI r n) 61 [some (.ref a0), some (.int x1), some (.int x2), some (.int x3)] [] (0, 0) n M := by
  intro N
  induction N with
  | zero => intro a0 x1 x2 x3 M r h; exact absurd h (by simp [fX7_check_h61])
  | succ N ih =>
    intro a0 x1 x2 x3 M r h
    rw [fX7_check_h61] at h
    refine ct_iload_3 (q := 62) dX7_check_61 rfl ?_
    refine ct_iload_1 (q := 63) dX7_check_62 rfl ?_
    refine ct_icmp_ge (q := 66) (tgt := 98) dX7_check_63 (by decide) rfl (fun z21 => ?_) (fun z21 => ?_)
    · replace h := it_t h z21
      refine ct_aload_0 (q := 99) dX7_check_98 rfl ?_
      refine ct_aload_0 (q := 100) dX7_check_99 rfl ?_
      obtain ⟨a22, ga22, h⟩ := ob h
      refine ct_getP (q := 103) hB dX7_check_100 fl_RX7_16 rfl ga22 rfl ?_
      refine ct_aload_0 (q := 104) dX7_check_103 rfl ?_
      obtain ⟨a23, ga23, h⟩ := ob h
      refine ct_getP (q := 107) hB dX7_check_104 fl_RX7_7 rfl ga23 rfl ?_
      obtain ⟨r24, gr24, h⟩ := ob h
      obtain ⟨er24, gr24⟩ := cV_spec gr24
      refine ct_cVv2 (q := 110) hB dX7_check_107 lk_RX7_333 (by decide) (ctX7_setAside hB gr24) er24 (by decide) rfl (Nat.le_of_ble_eq_true rfl) rfl ?_
      refine ct_iconst (v := 0) (q := 111) dX7_check_110 (by decide) rfl ?_
      refine ct_istore_3 (q := 112) dX7_check_111 (by decide) rfl rfl ?_
      exact ct_lessK (vX7_check_h112 hB  4000 a0 x1 x2 0 r24 r h) (And.intro rfl (And.intro rfl (And.intro rfl (And.intro rfl (trivial)))))
    · replace h := it_f h z21
      refine ct_aload_0 (q := 67) dX7_check_66 rfl ?_
      obtain ⟨a25, ga25, h⟩ := ob h
      refine ct_getP (q := 70) hB dX7_check_67 fl_RX7_68 rfl ga25 rfl ?_
      refine ct_iconst (v := 2) (q := 71) dX7_check_70 (by decide) rfl ?_
      refine ct_iload_3 (q := 72) dX7_check_71 rfl ?_
      refine ct_imul (q := 73) dX7_check_72 rfl ?_
      refine ct_iconst (v := 1) (q := 74) dX7_check_73 (by decide) rfl ?_
      refine ct_iadd (q := 75) dX7_check_74 rfl ?_
      refine ct_aload_0 (q := 76) dX7_check_75 rfl ?_
      obtain ⟨r26, gr26, h⟩ := ob h
      obtain ⟨er26, gr26⟩ := cV_spec gr26
      refine ct_cVi0 (q := 79) hB dX7_check_76 lk_RX7_167 (by decide) (ctX7_ticks hB gr26) er26 (by decide) rfl (Nat.le_of_ble_eq_true rfl) rfl ?_
      obtain ⟨M27, gM27, h⟩ := ob h
      refine ct_iast (q := 80) hB dX7_check_79 gM27 rfl ?_
      refine ct_aload_0 (q := 81) dX7_check_80 rfl ?_
      obtain ⟨a28, ga28, h⟩ := ob h
      refine ct_getP (q := 84) hB dX7_check_81 fl_RX7_68 rfl ga28 rfl ?_
      refine ct_iconst (v := 2) (q := 85) dX7_check_84 (by decide) rfl ?_
      refine ct_iload_3 (q := 86) dX7_check_85 rfl ?_
      refine ct_imul (q := 87) dX7_check_86 rfl ?_
      refine ct_aload_0 (q := 88) dX7_check_87 rfl ?_
      obtain ⟨r29, gr29, h⟩ := ob h
      obtain ⟨er29, gr29⟩ := cV_spec gr29
      refine ct_cVi0 (q := 91) hB dX7_check_88 lk_RX7_337 (by decide) (ctX7_spread hB gr29) er29 (by decide) rfl (Nat.le_of_ble_eq_true rfl) rfl ?_
      obtain ⟨M30, gM30, h⟩ := ob h
      refine ct_iast (q := 92) hB dX7_check_91 gM30 rfl ?_
      refine ct_iinc_3 (q := 95) (v := x3 + 1) dX7_check_92 (by first | rfl | decide) (by decide) rfl rfl ?_
      refine ct_goto (q := 61) dX7_check_95 (by decide) ?_
      exact ct_lessK (ih a0 x1 x2 (x3 + 1) M30 r h) (And.intro rfl (And.intro rfl (And.intro rfl (And.intro rfl (trivial)))))

def fX7_check (a0 : Nat) (x1 : Int32) (M : ctM) : Option (Int32 × ctM) :=
  (gI kdM 7 33 a0 M).bind fun x21 =>
  (pI kdM 7 33 a0 0 M).bind fun M22 =>
  (fX7_isIn ((x1 : Int32).toInt64) 1 30 M22).bind fun r23 =>
  if r23.1 = 0 then
    some ((-1000000001), r23.2)
  else
    (gI kdM 7 3 a0 r23.2).bind fun x25 =>
    if x25 = 0 then
      some ((-1000000002), r23.2)
    else
      (gP kdM 7 0 a0 r23.2).bind fun a27 =>
      (gP kdM 7 2 a0 r23.2).bind fun a28 =>
      (cV kdM 7 a0 (fX7_setAside a0 a27 a28 r23.2)).bind fun r29 =>
      (gP kdM 7 1 a0 r29).bind fun a30 =>
      (gP kdM 7 0 a0 r29).bind fun a31 =>
      (cV kdM 7 a0 (fX7_setAside a0 a30 a31 r29)).bind fun r32 =>
      fX7_check_h61 4000 a0 x1 x21 0 r32

set_option maxHeartbeats 4000000 in
set_option maxRecDepth 20000 in
theorem ctX7_check {B : ctB} {n : Nat} (hB : ctOk B kdM lnM n) {a0 : Nat} {x1 : Int32} {M : ctM} {r : Int32 × ctM} (h : fX7_check a0 x1 M = some r) : ctC B mX7_check (7, 0, 0) [.ref a0, .int x1] n M (poI r n) := by
  refine ctC_of (by decide) (Nat.le_of_ble_eq_true rfl) ?_
  show ctV B mX7_check (7, 0, 0) (poI r n) 0 [some (.ref a0), some (.int x1), none, none] [] (0, 0) n M
  unfold fX7_check at h
  refine ct_aload_0 (q := 1) dX7_check_0 rfl ?_
  obtain ⟨x21, gx21, h⟩ := ob h
  refine ct_getI (q := 4) hB dX7_check_1 fl_RX7_324 rfl gx21 rfl ?_
  refine ct_istore_2 (q := 5) dX7_check_4 (by decide) rfl rfl ?_
  refine ct_aload_0 (q := 6) dX7_check_5 rfl ?_
  refine ct_iconst (v := 0) (q := 7) dX7_check_6 (by decide) rfl ?_
  obtain ⟨M22, gM22, h⟩ := ob h
  refine ct_putI (q := 10) hB dX7_check_7 fl_RX7_324 rfl rfl (Or.inl rfl) gM22 rfl ?_
  refine ct_iload_1 (q := 11) dX7_check_10 rfl ?_
  refine ct_i2l (q := 12) dX7_check_11 rfl ?_
  refine ct_lconst (v := 1) (q := 13) dX7_check_12 (by decide) rfl ?_
  refine ct_ldc2 (q := 16) dX7_check_13 wd_1272 rfl ?_
  obtain ⟨r23, gr23, h⟩ := ob h
  refine ct_cSi3 (q := 19) dX7_check_16 lk_RX7_76 (by decide) (ctX7_isIn hB gr23) (Nat.le_of_ble_eq_true rfl) rfl ?_
  refine ct_if_ne (q := 22) (tgt := 25) dX7_check_19 (by decide) rfl (fun z24 => ?_) (fun z24 => ?_)
  · replace h := it_f h z24
    refine ct_aload_0 (q := 26) dX7_check_25 rfl ?_
    obtain ⟨x25, gx25, h⟩ := ob h
    refine ct_getI (q := 29) hB dX7_check_26 fl_RX7_329 rfl gx25 rfl ?_
    refine ct_if_ne (q := 32) (tgt := 35) dX7_check_29 (by decide) rfl (fun z26 => ?_) (fun z26 => ?_)
    · replace h := it_f h z26
      refine ct_aload_0 (q := 36) dX7_check_35 rfl ?_
      refine ct_aload_0 (q := 37) dX7_check_36 rfl ?_
      obtain ⟨a27, ga27, h⟩ := ob h
      refine ct_getP (q := 40) hB dX7_check_37 fl_RX7_7 rfl ga27 rfl ?_
      refine ct_aload_0 (q := 41) dX7_check_40 rfl ?_
      obtain ⟨a28, ga28, h⟩ := ob h
      refine ct_getP (q := 44) hB dX7_check_41 fl_RX7_16 rfl ga28 rfl ?_
      obtain ⟨r29, gr29, h⟩ := ob h
      obtain ⟨er29, gr29⟩ := cV_spec gr29
      refine ct_cVv2 (q := 47) hB dX7_check_44 lk_RX7_333 (by decide) (ctX7_setAside hB gr29) er29 (by decide) rfl (Nat.le_of_ble_eq_true rfl) rfl ?_
      refine ct_aload_0 (q := 48) dX7_check_47 rfl ?_
      refine ct_aload_0 (q := 49) dX7_check_48 rfl ?_
      obtain ⟨a30, ga30, h⟩ := ob h
      refine ct_getP (q := 52) hB dX7_check_49 fl_RX7_13 rfl ga30 rfl ?_
      refine ct_aload_0 (q := 53) dX7_check_52 rfl ?_
      obtain ⟨a31, ga31, h⟩ := ob h
      refine ct_getP (q := 56) hB dX7_check_53 fl_RX7_7 rfl ga31 rfl ?_
      obtain ⟨r32, gr32, h⟩ := ob h
      obtain ⟨er32, gr32⟩ := cV_spec gr32
      refine ct_cVv2 (q := 59) hB dX7_check_56 lk_RX7_333 (by decide) (ctX7_setAside hB gr32) er32 (by decide) rfl (Nat.le_of_ble_eq_true rfl) rfl ?_
      refine ct_iconst (v := 0) (q := 60) dX7_check_59 (by decide) rfl ?_
      refine ct_istore_3 (q := 61) dX7_check_60 (by decide) rfl rfl ?_
      exact ct_lessK (vX7_check_h61 hB  4000 a0 x1 x21 0 r32 r h) (And.intro rfl (And.intro rfl (And.intro rfl (And.intro rfl (trivial)))))
    · replace h := it_t h z26
      refine ct_ldc (q := 34) dX7_check_32 wd_1117 rfl ?_
      exact ct_iret dX7_check_34 rfl ⟨Nat.le_refl 0, Nat.le_refl 0⟩ (poI_of h)
  · replace h := it_t h z24
    refine ct_ldc (q := 24) dX7_check_22 wd_919 rfl ?_
    exact ct_iret dX7_check_24 rfl ⟨Nat.le_refl 0, Nat.le_refl 0⟩ (poI_of h)

def fX7_keep (a0 : Nat) (M : ctM) : Option (Int32 × ctM) :=
  (pI kdM 7 3 a0 1 M).bind fun M21 =>
  (gP kdM 7 0 a0 M21).bind fun a22 =>
  (gP kdM 7 1 a0 M21).bind fun a23 =>
  (cV kdM 7 a0 (fX7_setAside a0 a22 a23 M21)).bind fun r24 =>
  (gP kdM 7 0 a0 r24).bind fun a25 =>
  (aI kdM lnM 9 a25 0 r24).bind fun x26 =>
  some (x26, r24)

set_option maxHeartbeats 4000000 in
set_option maxRecDepth 20000 in
theorem ctX7_keep {B : ctB} {n : Nat} (hB : ctOk B kdM lnM n) {a0 : Nat} {M : ctM} {r : Int32 × ctM} (h : fX7_keep a0 M = some r) : ctC B mX7_keep (1, 0, 0) [.ref a0] n M (poI r n) := by
  refine ctC_of (by decide) (Nat.le_of_ble_eq_true rfl) ?_
  show ctV B mX7_keep (1, 0, 0) (poI r n) 0 [some (.ref a0)] [] (0, 0) n M
  unfold fX7_keep at h
  refine ct_aload_0 (q := 1) dX7_keep_0 rfl ?_
  refine ct_iconst (v := 1) (q := 2) dX7_keep_1 (by decide) rfl ?_
  obtain ⟨M21, gM21, h⟩ := ob h
  refine ct_putI (q := 5) hB dX7_keep_2 fl_RX7_329 rfl rfl (Or.inr ⟨rfl, by decide⟩) gM21 rfl ?_
  refine ct_aload_0 (q := 6) dX7_keep_5 rfl ?_
  refine ct_aload_0 (q := 7) dX7_keep_6 rfl ?_
  obtain ⟨a22, ga22, h⟩ := ob h
  refine ct_getP (q := 10) hB dX7_keep_7 fl_RX7_7 rfl ga22 rfl ?_
  refine ct_aload_0 (q := 11) dX7_keep_10 rfl ?_
  obtain ⟨a23, ga23, h⟩ := ob h
  refine ct_getP (q := 14) hB dX7_keep_11 fl_RX7_13 rfl ga23 rfl ?_
  obtain ⟨r24, gr24, h⟩ := ob h
  obtain ⟨er24, gr24⟩ := cV_spec gr24
  refine ct_cVv2 (q := 17) hB dX7_keep_14 lk_RX7_333 (by decide) (ctX7_setAside hB gr24) er24 (by decide) rfl (Nat.le_of_ble_eq_true rfl) rfl ?_
  refine ct_aload_0 (q := 18) dX7_keep_17 rfl ?_
  obtain ⟨a25, ga25, h⟩ := ob h
  refine ct_getP (q := 21) hB dX7_keep_18 fl_RX7_7 rfl ga25 rfl ?_
  refine ct_iconst (v := 0) (q := 22) dX7_keep_21 (by decide) rfl ?_
  obtain ⟨x26, gx26, h⟩ := ob h
  refine ct_iald (q := 23) hB dX7_keep_22 gx26 rfl ?_
  exact ct_iret dX7_keep_23 rfl ⟨Nat.le_refl 0, Nat.le_refl 0⟩ (poI_of h)

def fX7_back (a0 : Nat) (M : ctM) : Option (Int32 × ctM) :=
  (gI kdM 7 3 a0 M).bind fun x21 =>
  if x21 = 0 then
    some ((-1000000002), M)
  else
    (gP kdM 7 1 a0 M).bind fun a23 =>
    (gP kdM 7 0 a0 M).bind fun a24 =>
    (cV kdM 7 a0 (fX7_setAside a0 a23 a24 M)).bind fun r25 =>
    (gP kdM 7 0 a0 r25).bind fun a26 =>
    (aI kdM lnM 9 a26 0 r25).bind fun x27 =>
    some (x27, r25)

set_option maxHeartbeats 4000000 in
set_option maxRecDepth 20000 in
theorem ctX7_back {B : ctB} {n : Nat} (hB : ctOk B kdM lnM n) {a0 : Nat} {M : ctM} {r : Int32 × ctM} (h : fX7_back a0 M = some r) : ctC B mX7_back (1, 0, 0) [.ref a0] n M (poI r n) := by
  refine ctC_of (by decide) (Nat.le_of_ble_eq_true rfl) ?_
  show ctV B mX7_back (1, 0, 0) (poI r n) 0 [some (.ref a0)] [] (0, 0) n M
  unfold fX7_back at h
  refine ct_aload_0 (q := 1) dX7_back_0 rfl ?_
  obtain ⟨x21, gx21, h⟩ := ob h
  refine ct_getI (q := 4) hB dX7_back_1 fl_RX7_329 rfl gx21 rfl ?_
  refine ct_if_ne (q := 7) (tgt := 10) dX7_back_4 (by decide) rfl (fun z22 => ?_) (fun z22 => ?_)
  · replace h := it_f h z22
    refine ct_aload_0 (q := 11) dX7_back_10 rfl ?_
    refine ct_aload_0 (q := 12) dX7_back_11 rfl ?_
    obtain ⟨a23, ga23, h⟩ := ob h
    refine ct_getP (q := 15) hB dX7_back_12 fl_RX7_13 rfl ga23 rfl ?_
    refine ct_aload_0 (q := 16) dX7_back_15 rfl ?_
    obtain ⟨a24, ga24, h⟩ := ob h
    refine ct_getP (q := 19) hB dX7_back_16 fl_RX7_7 rfl ga24 rfl ?_
    obtain ⟨r25, gr25, h⟩ := ob h
    obtain ⟨er25, gr25⟩ := cV_spec gr25
    refine ct_cVv2 (q := 22) hB dX7_back_19 lk_RX7_333 (by decide) (ctX7_setAside hB gr25) er25 (by decide) rfl (Nat.le_of_ble_eq_true rfl) rfl ?_
    refine ct_aload_0 (q := 23) dX7_back_22 rfl ?_
    obtain ⟨a26, ga26, h⟩ := ob h
    refine ct_getP (q := 26) hB dX7_back_23 fl_RX7_7 rfl ga26 rfl ?_
    refine ct_iconst (v := 0) (q := 27) dX7_back_26 (by decide) rfl ?_
    obtain ⟨x27, gx27, h⟩ := ob h
    refine ct_iald (q := 28) hB dX7_back_27 gx27 rfl ?_
    exact ct_iret dX7_back_28 rfl ⟨Nat.le_refl 0, Nat.le_refl 0⟩ (poI_of h)
  · replace h := it_t h z22
    refine ct_ldc (q := 9) dX7_back_7 wd_1117 rfl ?_
    exact ct_iret dX7_back_9 rfl ⟨Nat.le_refl 0, Nat.le_refl 0⟩ (poI_of h)

def fX7_litMany_b28 (k4 : Nat → Int32 → Int32 → ctM → Option (Int32 × ctM)) (a0 : Nat) (x2 : Int32) (xs0 : Int32) (xs1 : Int32) (M : ctM) : Option (Int32 × ctM) :=
  k4 a0 (xs0 + xs1) (x2 + 1) M

set_option maxHeartbeats 4000000 in
set_option maxRecDepth 20000 in
theorem vX7_litMany_b28 {B : ctB} {n : Nat} (hB : ctOk B kdM lnM n) {k4 : Nat → Int32 → Int32 → ctM → Option (Int32 × ctM)} (hk4 : ∀ (a0 : Nat) (x1 : Int32) (x2 : Int32) (M : ctM) (r : Int32 × ctM), k4 a0 x1 x2 M = some r → ctV B mX7_litMany (3, 0, 0) (poI r n) 4 [some (.ref a0), some (.int x1), some (.int x2)] [] (0, 0) n M) : ∀ (a0 : Nat) (x2 : Int32) (xs0 : Int32) (xs1 : Int32) (M : ctM) (r : Int32 × ctM), fX7_litMany_b28 k4 a0 x2 xs0 xs1 M = some r → ctV B mX7_litMany (3, 0, 0) (poI r n) 28 [some (.ref a0), none, some (.int x2)] [.int xs1, .int xs0] (0, 0) n M := by
  intro a0 x2 xs0 xs1 M r h
  unfold fX7_litMany_b28 at h
  refine ct_iadd (q := 29) dX7_litMany_28 rfl ?_
  refine ct_istore_1 (q := 30) dX7_litMany_29 (by decide) rfl rfl ?_
  refine ct_iinc_2 (q := 33) (v := x2 + 1) dX7_litMany_30 (by first | rfl | decide) (by decide) rfl rfl ?_
  refine ct_goto (q := 4) dX7_litMany_33 (by decide) ?_
  exact ct_lessK (hk4 a0 (xs0 + xs1) (x2 + 1) M r h) (And.intro rfl (And.intro rfl (And.intro rfl (trivial))))

def fX7_litMany_h4 : Nat → Nat → Int32 → Int32 → ctM → Option (Int32 × ctM)
  | 0, _, _, _, _ => none
  | N + 1, a0, x1, x2, M =>
    (gP kdM 7 0 a0 M).bind fun a21 =>
    (aI kdM lnM 9 a21 0 M).bind fun x22 =>
    if x22 ≤ x2 then
      some (x1, M)
    else
      (cV kdM 7 a0 (fX7_isLit a0 x2 M)).bind fun r24 =>
      if r24.1 = 0 then
        fX7_litMany_b28 (fX7_litMany_h4 N) a0 x2 x1 0 r24.2
      else
        fX7_litMany_b28 (fX7_litMany_h4 N) a0 x2 x1 1 r24.2

set_option maxHeartbeats 4000000 in
set_option maxRecDepth 20000 in
theorem vX7_litMany_h4 {B : ctB} {n : Nat} (hB : ctOk B kdM lnM n) : ∀ (N : Nat) (a0 : Nat) (x1 : Int32) (x2 : Int32) (M : ctM) (r : Int32 × ctM), fX7_litMany_h4 N a0 x1 x2 M = some r → ctV B mX7_litMany (3, 0, 0) (poI r n) 4 [some (.ref a0), some (.int x1), some (.int x2)] [] (0, 0) n M := by
  intro N
  induction N with
  | zero => intro a0 x1 x2 M r h; exact absurd h (by simp [fX7_litMany_h4])
  | succ N ih =>
    intro a0 x1 x2 M r h
    rw [fX7_litMany_h4] at h
    refine ct_iload_2 (q := 5) dX7_litMany_4 rfl ?_
    refine ct_aload_0 (q := 6) dX7_litMany_5 rfl ?_
    obtain ⟨a21, ga21, h⟩ := ob h
    refine ct_getP (q := 9) hB dX7_litMany_6 fl_RX7_7 rfl ga21 rfl ?_
    refine ct_iconst (v := 0) (q := 10) dX7_litMany_9 (by decide) rfl ?_
    obtain ⟨x22, gx22, h⟩ := ob h
    refine ct_iald (q := 11) hB dX7_litMany_10 gx22 rfl ?_
    refine ct_icmp_ge (q := 14) (tgt := 36) dX7_litMany_11 (by decide) rfl (fun z23 => ?_) (fun z23 => ?_)
    · replace h := it_t h z23
      refine ct_iload_1 (q := 37) dX7_litMany_36 rfl ?_
      exact ct_iret dX7_litMany_37 rfl ⟨Nat.le_refl 0, Nat.le_refl 0⟩ (poI_of h)
    · replace h := it_f h z23
      refine ct_iload_1 (q := 15) dX7_litMany_14 rfl ?_
      refine ct_aload_0 (q := 16) dX7_litMany_15 rfl ?_
      refine ct_iload_2 (q := 17) dX7_litMany_16 rfl ?_
      obtain ⟨r24, gr24, h⟩ := ob h
      obtain ⟨er24, gr24⟩ := cV_spec gr24
      refine ct_cVi1 (q := 20) hB dX7_litMany_17 lk_RX7_109 (by decide) (ctX7_isLit hB gr24) er24 (by decide) rfl (Nat.le_of_ble_eq_true rfl) rfl ?_
      refine ct_if_eq (q := 23) (tgt := 27) dX7_litMany_20 (by decide) rfl (fun z25 => ?_) (fun z25 => ?_)
      · replace h := it_t h z25
        refine ct_iconst (v := 0) (q := 28) dX7_litMany_27 (by decide) rfl ?_
        exact ct_lessK (vX7_litMany_b28 hB ih a0 x2 x1 0 r24.2 r h) (And.intro rfl (And.intro rfl (trivial)))
      · replace h := it_f h z25
        refine ct_iconst (v := 1) (q := 24) dX7_litMany_23 (by decide) rfl ?_
        refine ct_goto (q := 28) dX7_litMany_24 (by decide) ?_
        exact ct_lessK (vX7_litMany_b28 hB ih a0 x2 x1 1 r24.2 r h) (And.intro rfl (And.intro rfl (trivial)))

def fX7_litMany (a0 : Nat) (M : ctM) : Option (Int32 × ctM) :=
  fX7_litMany_h4 4000 a0 0 0 M

set_option maxHeartbeats 4000000 in
set_option maxRecDepth 20000 in
theorem ctX7_litMany {B : ctB} {n : Nat} (hB : ctOk B kdM lnM n) {a0 : Nat} {M : ctM} {r : Int32 × ctM} (h : fX7_litMany a0 M = some r) : ctC B mX7_litMany (3, 0, 0) [.ref a0] n M (poI r n) := by
  refine ctC_of (by decide) (Nat.le_of_ble_eq_true rfl) ?_
  show ctV B mX7_litMany (3, 0, 0) (poI r n) 0 [some (.ref a0), none, none] [] (0, 0) n M
  unfold fX7_litMany at h
  refine ct_iconst (v := 0) (q := 1) dX7_litMany_0 (by decide) rfl ?_
  refine ct_istore_1 (q := 2) dX7_litMany_1 (by decide) rfl rfl ?_
  refine ct_iconst (v := 0) (q := 3) dX7_litMany_2 (by decide) rfl ?_
  refine ct_istore_2 (q := 4) dX7_litMany_3 (by decide) rfl rfl ?_
  exact ct_lessK (vX7_litMany_h4 hB  4000 a0 0 0 M r h) (And.intro rfl (And.intro rfl (And.intro rfl (trivial))))

def fX7_count (a0 : Nat) (x1 : Int32) (M : ctM) : Option (Int32 × ctM) :=
  if x1 = 0 then
    (gP kdM 7 0 a0 M).bind fun a22 =>
    (aI kdM lnM 9 a22 0 M).bind fun x23 =>
    some (x23, M)
  else
  if x1 = 1 then
    (cV kdM 7 a0 (fX7_litMany a0 M)).bind fun r25 =>
    some (r25.1, r25.2)
  else
  if x1 = 2 then
    (gP kdM 7 0 a0 M).bind fun a27 =>
    (aI kdM lnM 9 a27 2 M).bind fun x28 =>
    some (x28, M)
  else
  if x1 = 3 then
    (gP kdM 7 0 a0 M).bind fun a30 =>
    (aI kdM lnM 9 a30 3 M).bind fun x31 =>
    some (x31, M)
  else
  if x1 = 4 then
    (gP kdM 7 0 a0 M).bind fun a33 =>
    (aI kdM lnM 9 a33 4 M).bind fun x34 =>
    some (x34, M)
  else
  if x1 = 5 then
    (gP kdM 7 0 a0 M).bind fun a36 =>
    (aI kdM lnM 9 a36 1 M).bind fun x37 =>
    some (x37, M)
  else
  if x1 = 6 then
    (gI kdM 7 33 a0 M).bind fun x39 =>
    some (x39, M)
  else
  if x1 = 7 then
    (gI kdM 7 18 a0 M).bind fun x41 =>
    some (x41, M)
  else
  if x1 = 8 then
    (gP kdM 7 0 a0 M).bind fun a43 =>
    (aI kdM lnM 9 a43 5 M).bind fun x44 =>
    some (x44, M)
  else
    some ((-1000000001), M)

set_option maxHeartbeats 4000000 in
set_option maxRecDepth 20000 in
theorem ctX7_count {B : ctB} {n : Nat} (hB : ctOk B kdM lnM n) {a0 : Nat} {x1 : Int32} {M : ctM} {r : Int32 × ctM} (h : fX7_count a0 x1 M = some r) : ctC B mX7_count (4, 0, 0) [.ref a0, .int x1] n M (poI r n) := by
  refine ctC_of (by decide) (Nat.le_of_ble_eq_true rfl) ?_
  show ctV B mX7_count (4, 0, 0) (poI r n) 0 [some (.ref a0), some (.int x1)] [] (0, 0) n M
  unfold fX7_count at h
  refine ct_iload_1 (q := 1) dX7_count_0 rfl ?_
  by_cases z21 : x1 = 0
  · replace h := it_t h z21
    refine ct_tsw (q := 52) 0 z21 dX7_count_1 (by decide) (by decide) rfl (by decide) ?_
    refine ct_aload_0 (q := 53) dX7_count_52 rfl ?_
    obtain ⟨a22, ga22, h⟩ := ob h
    refine ct_getP (q := 56) hB dX7_count_53 fl_RX7_7 rfl ga22 rfl ?_
    refine ct_iconst (v := 0) (q := 57) dX7_count_56 (by decide) rfl ?_
    obtain ⟨x23, gx23, h⟩ := ob h
    refine ct_iald (q := 58) hB dX7_count_57 gx23 rfl ?_
    exact ct_iret dX7_count_58 rfl ⟨Nat.le_refl 0, Nat.le_refl 0⟩ (poI_of h)
  replace h := it_f h z21
  by_cases z24 : x1 = 1
  · replace h := it_t h z24
    refine ct_tsw (q := 59) 1 z24 dX7_count_1 (by decide) (by decide) rfl (by decide) ?_
    refine ct_aload_0 (q := 60) dX7_count_59 rfl ?_
    obtain ⟨r25, gr25, h⟩ := ob h
    obtain ⟨er25, gr25⟩ := cV_spec gr25
    refine ct_cVi0 (q := 63) hB dX7_count_60 lk_RX7_340 (by decide) (ctX7_litMany hB gr25) er25 (by decide) rfl (Nat.le_of_ble_eq_true rfl) rfl ?_
    exact ct_iret dX7_count_63 rfl ⟨Nat.le_refl 0, Nat.le_refl 0⟩ (poI_of h)
  replace h := it_f h z24
  by_cases z26 : x1 = 2
  · replace h := it_t h z26
    refine ct_tsw (q := 64) 2 z26 dX7_count_1 (by decide) (by decide) rfl (by decide) ?_
    refine ct_aload_0 (q := 65) dX7_count_64 rfl ?_
    obtain ⟨a27, ga27, h⟩ := ob h
    refine ct_getP (q := 68) hB dX7_count_65 fl_RX7_7 rfl ga27 rfl ?_
    refine ct_iconst (v := 2) (q := 69) dX7_count_68 (by decide) rfl ?_
    obtain ⟨x28, gx28, h⟩ := ob h
    refine ct_iald (q := 70) hB dX7_count_69 gx28 rfl ?_
    exact ct_iret dX7_count_70 rfl ⟨Nat.le_refl 0, Nat.le_refl 0⟩ (poI_of h)
  replace h := it_f h z26
  by_cases z29 : x1 = 3
  · replace h := it_t h z29
    refine ct_tsw (q := 71) 3 z29 dX7_count_1 (by decide) (by decide) rfl (by decide) ?_
    refine ct_aload_0 (q := 72) dX7_count_71 rfl ?_
    obtain ⟨a30, ga30, h⟩ := ob h
    refine ct_getP (q := 75) hB dX7_count_72 fl_RX7_7 rfl ga30 rfl ?_
    refine ct_iconst (v := 3) (q := 76) dX7_count_75 (by decide) rfl ?_
    obtain ⟨x31, gx31, h⟩ := ob h
    refine ct_iald (q := 77) hB dX7_count_76 gx31 rfl ?_
    exact ct_iret dX7_count_77 rfl ⟨Nat.le_refl 0, Nat.le_refl 0⟩ (poI_of h)
  replace h := it_f h z29
  by_cases z32 : x1 = 4
  · replace h := it_t h z32
    refine ct_tsw (q := 78) 4 z32 dX7_count_1 (by decide) (by decide) rfl (by decide) ?_
    refine ct_aload_0 (q := 79) dX7_count_78 rfl ?_
    obtain ⟨a33, ga33, h⟩ := ob h
    refine ct_getP (q := 82) hB dX7_count_79 fl_RX7_7 rfl ga33 rfl ?_
    refine ct_iconst (v := 4) (q := 83) dX7_count_82 (by decide) rfl ?_
    obtain ⟨x34, gx34, h⟩ := ob h
    refine ct_iald (q := 84) hB dX7_count_83 gx34 rfl ?_
    exact ct_iret dX7_count_84 rfl ⟨Nat.le_refl 0, Nat.le_refl 0⟩ (poI_of h)
  replace h := it_f h z32
  by_cases z35 : x1 = 5
  · replace h := it_t h z35
    refine ct_tsw (q := 85) 5 z35 dX7_count_1 (by decide) (by decide) rfl (by decide) ?_
    refine ct_aload_0 (q := 86) dX7_count_85 rfl ?_
    obtain ⟨a36, ga36, h⟩ := ob h
    refine ct_getP (q := 89) hB dX7_count_86 fl_RX7_7 rfl ga36 rfl ?_
    refine ct_iconst (v := 1) (q := 90) dX7_count_89 (by decide) rfl ?_
    obtain ⟨x37, gx37, h⟩ := ob h
    refine ct_iald (q := 91) hB dX7_count_90 gx37 rfl ?_
    exact ct_iret dX7_count_91 rfl ⟨Nat.le_refl 0, Nat.le_refl 0⟩ (poI_of h)
  replace h := it_f h z35
  by_cases z38 : x1 = 6
  · replace h := it_t h z38
    refine ct_tsw (q := 92) 6 z38 dX7_count_1 (by decide) (by decide) rfl (by decide) ?_
    refine ct_aload_0 (q := 93) dX7_count_92 rfl ?_
    obtain ⟨x39, gx39, h⟩ := ob h
    refine ct_getI (q := 96) hB dX7_count_93 fl_RX7_324 rfl gx39 rfl ?_
    exact ct_iret dX7_count_96 rfl ⟨Nat.le_refl 0, Nat.le_refl 0⟩ (poI_of h)
  replace h := it_f h z38
  by_cases z40 : x1 = 7
  · replace h := it_t h z40
    refine ct_tsw (q := 97) 7 z40 dX7_count_1 (by decide) (by decide) rfl (by decide) ?_
    refine ct_aload_0 (q := 98) dX7_count_97 rfl ?_
    obtain ⟨x41, gx41, h⟩ := ob h
    refine ct_getI (q := 101) hB dX7_count_98 fl_RX7_209 rfl gx41 rfl ?_
    exact ct_iret dX7_count_101 rfl ⟨Nat.le_refl 0, Nat.le_refl 0⟩ (poI_of h)
  replace h := it_f h z40
  by_cases z42 : x1 = 8
  · replace h := it_t h z42
    refine ct_tsw (q := 102) 8 z42 dX7_count_1 (by decide) (by decide) rfl (by decide) ?_
    refine ct_aload_0 (q := 103) dX7_count_102 rfl ?_
    obtain ⟨a43, ga43, h⟩ := ob h
    refine ct_getP (q := 106) hB dX7_count_103 fl_RX7_7 rfl ga43 rfl ?_
    refine ct_iconst (v := 5) (q := 107) dX7_count_106 (by decide) rfl ?_
    obtain ⟨x44, gx44, h⟩ := ob h
    refine ct_iald (q := 108) hB dX7_count_107 gx44 rfl ?_
    exact ct_iret dX7_count_108 rfl ⟨Nat.le_refl 0, Nat.le_refl 0⟩ (poI_of h)
  replace h := it_f h z42
  refine ct_tswD (q := 109) dX7_count_1 (by have := And.intro (lv_neT z21 (show Int32.toInt (0) = 0 by decide)) trivial; have y0 := lv_neT z21 (show Int32.toInt (0) = 0 by decide); have y1 := lv_neT z24 (show Int32.toInt (1) = 1 by decide); have y2 := lv_neT z26 (show Int32.toInt (2) = 2 by decide); have y3 := lv_neT z29 (show Int32.toInt (3) = 3 by decide); have y4 := lv_neT z32 (show Int32.toInt (4) = 4 by decide); have y5 := lv_neT z35 (show Int32.toInt (5) = 5 by decide); have y6 := lv_neT z38 (show Int32.toInt (6) = 6 by decide); have y7 := lv_neT z40 (show Int32.toInt (7) = 7 by decide); have y8 := lv_neT z42 (show Int32.toInt (8) = 8 by decide); omega) (by decide) ?_
  refine ct_ldc (q := 111) dX7_count_109 wd_919 rfl ?_
  exact ct_iret dX7_count_111 rfl ⟨Nat.le_refl 0, Nat.le_refl 0⟩ (poI_of h)

