def fX7_isLetter (a0 : Nat) (x1 : Int32) (M : ctM) : Option (Int32 × ctM) :=
  (gI kdM 7 18 a0 M).bind fun x21 =>
  if x21 ≤ x1 then
    some (0, M)
  else
    (gP kdM 7 17 a0 M).bind fun a23 =>
    (aI kdM lnM 9 a23 x1 M).bind fun x24 =>
    (fX7_isIn ((x24 : Int32).toInt64) 97 122 M).bind fun r25 =>
    if r25.1 = 0 then
      some (0, r25.2)
    else
      some (1, r25.2)

set_option maxHeartbeats 4000000 in
set_option maxRecDepth 20000 in
theorem ctX7_isLetter {B : ctB} {n : Nat} (hB : ctOk B kdM lnM n) {a0 : Nat} {x1 : Int32} {M : ctM} {r : Int32 × ctM} (h : fX7_isLetter a0 x1 M = some r) : ctC B mX7_isLetter (1, 0, 0) [.ref a0, .int x1] n M (poI r n) := by
  refine ctC_of (by decide) (Nat.le_of_ble_eq_true rfl) ?_
  show ctV B mX7_isLetter (1, 0, 0) (poI r n) 0 [some (.ref a0), some (.int x1)] [] (0, 0) n M
  unfold fX7_isLetter at h
  refine ct_iload_1 (q := 1) dX7_isLetter_0 rfl ?_
  refine ct_aload_0 (q := 2) dX7_isLetter_1 rfl ?_
  obtain ⟨x21, gx21, h⟩ := ob h
  refine ct_getI (q := 5) hB dX7_isLetter_2 fl_RX7_209 rfl gx21 rfl ?_
  refine ct_icmp_ge (q := 8) (tgt := 31) dX7_isLetter_5 (by decide) rfl (fun z22 => ?_) (fun z22 => ?_)
  · replace h := it_t h z22
    refine ct_iconst (v := 0) (q := 32) dX7_isLetter_31 (by decide) rfl ?_
    exact ct_zret dX7_isLetter_32 rfl (by decide) ⟨Nat.le_refl 0, Nat.le_refl 0⟩ (poI_of h)
  · replace h := it_f h z22
    refine ct_aload_0 (q := 9) dX7_isLetter_8 rfl ?_
    obtain ⟨a23, ga23, h⟩ := ob h
    refine ct_getP (q := 12) hB dX7_isLetter_9 fl_RX7_53 rfl ga23 rfl ?_
    refine ct_iload_1 (q := 13) dX7_isLetter_12 rfl ?_
    obtain ⟨x24, gx24, h⟩ := ob h
    refine ct_iald (q := 14) hB dX7_isLetter_13 gx24 rfl ?_
    refine ct_i2l (q := 15) dX7_isLetter_14 rfl ?_
    refine ct_ldc2 (q := 18) dX7_isLetter_15 wd_1147 rfl ?_
    refine ct_ldc2 (q := 21) dX7_isLetter_18 wd_1148 rfl ?_
    obtain ⟨r25, gr25, h⟩ := ob h
    refine ct_cSi3 (q := 24) dX7_isLetter_21 lk_RX7_76 (by decide) (ctX7_isIn hB gr25) (Nat.le_of_ble_eq_true rfl) rfl ?_
    refine ct_if_eq (q := 27) (tgt := 31) dX7_isLetter_24 (by decide) rfl (fun z26 => ?_) (fun z26 => ?_)
    · replace h := it_t h z26
      refine ct_iconst (v := 0) (q := 32) dX7_isLetter_31 (by decide) rfl ?_
      exact ct_zret dX7_isLetter_32 rfl (by decide) ⟨Nat.le_refl 0, Nat.le_refl 0⟩ (poI_of h)
    · replace h := it_f h z26
      refine ct_iconst (v := 1) (q := 28) dX7_isLetter_27 (by decide) rfl ?_
      refine ct_goto (q := 32) dX7_isLetter_28 (by decide) ?_
      exact ct_zret dX7_isLetter_32 rfl (by decide) ⟨Nat.le_refl 0, Nat.le_refl 0⟩ (poI_of h)

def fX7_isDigit (a0 : Nat) (x1 : Int32) (M : ctM) : Option (Int32 × ctM) :=
  (gI kdM 7 18 a0 M).bind fun x21 =>
  if x21 ≤ x1 then
    some (0, M)
  else
    (gP kdM 7 17 a0 M).bind fun a23 =>
    (aI kdM lnM 9 a23 x1 M).bind fun x24 =>
    (fX7_isIn ((x24 : Int32).toInt64) 48 57 M).bind fun r25 =>
    if r25.1 = 0 then
      some (0, r25.2)
    else
      some (1, r25.2)

set_option maxHeartbeats 4000000 in
set_option maxRecDepth 20000 in
theorem ctX7_isDigit {B : ctB} {n : Nat} (hB : ctOk B kdM lnM n) {a0 : Nat} {x1 : Int32} {M : ctM} {r : Int32 × ctM} (h : fX7_isDigit a0 x1 M = some r) : ctC B mX7_isDigit (1, 0, 0) [.ref a0, .int x1] n M (poI r n) := by
  refine ctC_of (by decide) (Nat.le_of_ble_eq_true rfl) ?_
  show ctV B mX7_isDigit (1, 0, 0) (poI r n) 0 [some (.ref a0), some (.int x1)] [] (0, 0) n M
  unfold fX7_isDigit at h
  refine ct_iload_1 (q := 1) dX7_isDigit_0 rfl ?_
  refine ct_aload_0 (q := 2) dX7_isDigit_1 rfl ?_
  obtain ⟨x21, gx21, h⟩ := ob h
  refine ct_getI (q := 5) hB dX7_isDigit_2 fl_RX7_209 rfl gx21 rfl ?_
  refine ct_icmp_ge (q := 8) (tgt := 31) dX7_isDigit_5 (by decide) rfl (fun z22 => ?_) (fun z22 => ?_)
  · replace h := it_t h z22
    refine ct_iconst (v := 0) (q := 32) dX7_isDigit_31 (by decide) rfl ?_
    exact ct_zret dX7_isDigit_32 rfl (by decide) ⟨Nat.le_refl 0, Nat.le_refl 0⟩ (poI_of h)
  · replace h := it_f h z22
    refine ct_aload_0 (q := 9) dX7_isDigit_8 rfl ?_
    obtain ⟨a23, ga23, h⟩ := ob h
    refine ct_getP (q := 12) hB dX7_isDigit_9 fl_RX7_53 rfl ga23 rfl ?_
    refine ct_iload_1 (q := 13) dX7_isDigit_12 rfl ?_
    obtain ⟨x24, gx24, h⟩ := ob h
    refine ct_iald (q := 14) hB dX7_isDigit_13 gx24 rfl ?_
    refine ct_i2l (q := 15) dX7_isDigit_14 rfl ?_
    refine ct_ldc2 (q := 18) dX7_isDigit_15 wd_1153 rfl ?_
    refine ct_ldc2 (q := 21) dX7_isDigit_18 wd_1154 rfl ?_
    obtain ⟨r25, gr25, h⟩ := ob h
    refine ct_cSi3 (q := 24) dX7_isDigit_21 lk_RX7_76 (by decide) (ctX7_isIn hB gr25) (Nat.le_of_ble_eq_true rfl) rfl ?_
    refine ct_if_eq (q := 27) (tgt := 31) dX7_isDigit_24 (by decide) rfl (fun z26 => ?_) (fun z26 => ?_)
    · replace h := it_t h z26
      refine ct_iconst (v := 0) (q := 32) dX7_isDigit_31 (by decide) rfl ?_
      exact ct_zret dX7_isDigit_32 rfl (by decide) ⟨Nat.le_refl 0, Nat.le_refl 0⟩ (poI_of h)
    · replace h := it_f h z26
      refine ct_iconst (v := 1) (q := 28) dX7_isDigit_27 (by decide) rfl ?_
      refine ct_goto (q := 32) dX7_isDigit_28 (by decide) ?_
      exact ct_zret dX7_isDigit_32 rfl (by decide) ⟨Nat.le_refl 0, Nat.le_refl 0⟩ (poI_of h)

def fX7_nextToken_b305 (as0 : Nat) (xs1 : Int32) (M : ctM) : Option (ctM) :=
  (pI kdM 7 21 as0 xs1 M).bind fun M21 =>
  some M21

set_option maxHeartbeats 4000000 in
set_option maxRecDepth 20000 in
theorem vX7_nextToken_b305 {B : ctB} {n : Nat} (hB : ctOk B kdM lnM n) : ∀ (as0 : Nat) (xs1 : Int32) (M : ctM) (r : ctM), fX7_nextToken_b305 as0 xs1 M = some r → ctV B mX7_nextToken (2, 0, 0) (poV r n) 305 [none, none, none] [.int xs1, .ref as0] (0, 0) n M := by
  intro as0 xs1 M r h
  unfold fX7_nextToken_b305 at h
  obtain ⟨M21, gM21, h⟩ := ob h
  refine ct_putI (q := 308) hB dX7_nextToken_305 fl_RX7_223 rfl rfl (Or.inl rfl) gM21 rfl ?_
  refine ct_goto (q := 339) dX7_nextToken_308 (by decide) ?_
  exact ct_vret dX7_nextToken_339 rfl ⟨Nat.le_refl 0, Nat.le_refl 0⟩ (poV_of h)

def fX7_nextToken_b300 (as0 : Nat) (M : ctM) : Option (ctM) :=
  fX7_nextToken_b305 as0 4 M

set_option maxHeartbeats 4000000 in
set_option maxRecDepth 20000 in
theorem vX7_nextToken_b300 {B : ctB} {n : Nat} (hB : ctOk B kdM lnM n) : ∀ (as0 : Nat) (M : ctM) (r : ctM), fX7_nextToken_b300 as0 M = some r → ctV B mX7_nextToken (2, 0, 0) (poV r n) 300 [none, none, none] [.ref as0] (0, 0) n M := by
  intro as0 M r h
  unfold fX7_nextToken_b300 at h
  refine ct_iconst (v := 4) (q := 301) dX7_nextToken_300 (by decide) rfl ?_
  refine ct_goto (q := 305) dX7_nextToken_301 (by decide) ?_
  exact ct_lessK (vX7_nextToken_b305 hB  as0 4 M r h) (trivial)

def fX7_nextToken_b266 (k214 : Nat → Int32 → ctM → Option (ctM)) (a0 : Nat) (x1 : Int32) (as0 : Nat) (xs1 : Int32) (M : ctM) : Option (ctM) :=
  (pI kdM 7 22 as0 xs1 M).bind fun M21 =>
  (gI kdM 7 20 a0 M21).bind fun x22 =>
  (pI kdM 7 20 a0 (x22 + 1) M21).bind fun M23 =>
  k214 a0 x1 M23

set_option maxHeartbeats 4000000 in
set_option maxRecDepth 20000 in
theorem vX7_nextToken_b266 {B : ctB} {n : Nat} (hB : ctOk B kdM lnM n) {k214 : Nat → Int32 → ctM → Option (ctM)} (hk214 : ∀ (a0 : Nat) (x1 : Int32) (M : ctM) (r : ctM), k214 a0 x1 M = some r → ctV B mX7_nextToken (2, 0, 0) (poV r n) 214 [some (.ref a0), some (.int x1), none] [] (0, 0) n M) : ∀ (a0 : Nat) (x1 : Int32) (as0 : Nat) (xs1 : Int32) (M : ctM) (r : ctM), fX7_nextToken_b266 k214 a0 x1 as0 xs1 M = some r → ctV B mX7_nextToken (2, 0, 0) (poV r n) 266 [some (.ref a0), some (.int x1), none] [.int xs1, .ref as0] (0, 0) n M := by
  intro a0 x1 as0 xs1 M r h
  unfold fX7_nextToken_b266 at h
  obtain ⟨M21, gM21, h⟩ := ob h
  refine ct_putI (q := 269) hB dX7_nextToken_266 fl_RX7_238 rfl rfl (Or.inl rfl) gM21 rfl ?_
  refine ct_aload_0 (q := 270) dX7_nextToken_269 rfl ?_
  refine ct_dup (q := 271) dX7_nextToken_270 rfl rfl ?_
  obtain ⟨x22, gx22, h⟩ := ob h
  refine ct_getI (q := 274) hB dX7_nextToken_271 fl_RX7_220 rfl gx22 rfl ?_
  refine ct_iconst (v := 1) (q := 275) dX7_nextToken_274 (by decide) rfl ?_
  refine ct_iadd (q := 276) dX7_nextToken_275 rfl ?_
  obtain ⟨M23, gM23, h⟩ := ob h
  refine ct_putI (q := 279) hB dX7_nextToken_276 fl_RX7_220 rfl rfl (Or.inl rfl) gM23 rfl ?_
  refine ct_goto (q := 214) dX7_nextToken_279 (by decide) ?_
  exact ct_lessK (hk214 a0 x1 M23 r h) (And.intro rfl (And.intro rfl (trivial)))

def fX7_nextToken_h214 : Nat → Nat → Int32 → ctM → Option (ctM)
  | 0, _, _, _ => none
  | N + 1, a0, x1, M =>
    (gI kdM 7 20 a0 M).bind fun x21 =>
    (cV kdM 7 a0 (fX7_isDigit a0 x21 M)).bind fun r22 =>
    if r22.1 = 0 then
      if x1 = 0 then
        (gI kdM 7 20 a0 r22.2).bind fun x25 =>
        (gI kdM 7 19 a0 r22.2).bind fun x26 =>
        if (x25 - x26) ≤ 4 then
          fX7_nextToken_b305 a0 2 r22.2
        else
          fX7_nextToken_b300 a0 r22.2
      else
        fX7_nextToken_b300 a0 r22.2
    else
      (gI kdM 7 20 a0 r22.2).bind fun x28 =>
      (gI kdM 7 19 a0 r22.2).bind fun x29 =>
      if 4 ≤ (x28 - x29) then
        (gI kdM 7 22 a0 r22.2).bind fun x31 =>
        fX7_nextToken_b266 (fX7_nextToken_h214 N) a0 x1 a0 x31 r22.2
      else
        (gI kdM 7 22 a0 r22.2).bind fun x32 =>
        (gP kdM 7 17 a0 r22.2).bind fun a33 =>
        (gI kdM 7 20 a0 r22.2).bind fun x34 =>
        (aI kdM lnM 9 a33 x34 r22.2).bind fun x35 =>
        fX7_nextToken_b266 (fX7_nextToken_h214 N) a0 x1 a0 (((10 * x32) + x35) - 48) r22.2

set_option maxHeartbeats 4000000 in
set_option maxRecDepth 20000 in
theorem vX7_nextToken_h214 {B : ctB} {n : Nat} (hB : ctOk B kdM lnM n) : ∀ (N : Nat) (a0 : Nat) (x1 : Int32) (M : ctM) (r : ctM), fX7_nextToken_h214 N a0 x1 M = some r → ctV B mX7_nextToken (2, 0, 0) (poV r n) 214 [some (.ref a0), some (.int x1), none] [] (0, 0) n M := by
  intro N
  induction N with
  | zero => intro a0 x1 M r h; exact absurd h (by simp [fX7_nextToken_h214])
  | succ N ih =>
    intro a0 x1 M r h
    rw [fX7_nextToken_h214] at h
    refine ct_aload_0 (q := 215) dX7_nextToken_214 rfl ?_
    refine ct_aload_0 (q := 216) dX7_nextToken_215 rfl ?_
    obtain ⟨x21, gx21, h⟩ := ob h
    refine ct_getI (q := 219) hB dX7_nextToken_216 fl_RX7_220 rfl gx21 rfl ?_
    obtain ⟨r22, gr22, h⟩ := ob h
    obtain ⟨er22, gr22⟩ := cV_spec gr22
    refine ct_cVi1 (q := 222) hB dX7_nextToken_219 lk_RX7_235 (by decide) (ctX7_isDigit hB gr22) er22 (by decide) rfl (Nat.le_of_ble_eq_true rfl) rfl ?_
    refine ct_if_eq (q := 225) (tgt := 282) dX7_nextToken_222 (by decide) rfl (fun z23 => ?_) (fun z23 => ?_)
    · replace h := it_t h z23
      refine ct_aload_0 (q := 283) dX7_nextToken_282 rfl ?_
      refine ct_iload_1 (q := 284) dX7_nextToken_283 rfl ?_
      refine ct_if_ne (q := 287) (tgt := 300) dX7_nextToken_284 (by decide) rfl (fun z24 => ?_) (fun z24 => ?_)
      · replace h := it_f h z24
        exact ct_lessK (vX7_nextToken_b300 hB  a0 r22.2 r h) (trivial)
      · replace h := it_t h z24
        refine ct_aload_0 (q := 288) dX7_nextToken_287 rfl ?_
        obtain ⟨x25, gx25, h⟩ := ob h
        refine ct_getI (q := 291) hB dX7_nextToken_288 fl_RX7_220 rfl gx25 rfl ?_
        refine ct_aload_0 (q := 292) dX7_nextToken_291 rfl ?_
        obtain ⟨x26, gx26, h⟩ := ob h
        refine ct_getI (q := 295) hB dX7_nextToken_292 fl_RX7_226 rfl gx26 rfl ?_
        refine ct_isub (q := 296) dX7_nextToken_295 rfl ?_
        refine ct_iconst (v := 4) (q := 297) dX7_nextToken_296 (by decide) rfl ?_
        refine ct_icmp_le (q := 300) (tgt := 304) dX7_nextToken_297 (by decide) rfl (fun z27 => ?_) (fun z27 => ?_)
        · replace h := it_t h z27
          refine ct_iconst (v := 2) (q := 305) dX7_nextToken_304 (by decide) rfl ?_
          exact ct_lessK (vX7_nextToken_b305 hB  a0 2 r22.2 r h) (trivial)
        · replace h := it_f h z27
          exact ct_lessK (vX7_nextToken_b300 hB  a0 r22.2 r h) (trivial)
    · replace h := it_f h z23
      refine ct_aload_0 (q := 226) dX7_nextToken_225 rfl ?_
      refine ct_aload_0 (q := 227) dX7_nextToken_226 rfl ?_
      obtain ⟨x28, gx28, h⟩ := ob h
      refine ct_getI (q := 230) hB dX7_nextToken_227 fl_RX7_220 rfl gx28 rfl ?_
      refine ct_aload_0 (q := 231) dX7_nextToken_230 rfl ?_
      obtain ⟨x29, gx29, h⟩ := ob h
      refine ct_getI (q := 234) hB dX7_nextToken_231 fl_RX7_226 rfl gx29 rfl ?_
      refine ct_isub (q := 235) dX7_nextToken_234 rfl ?_
      refine ct_iconst (v := 4) (q := 236) dX7_nextToken_235 (by decide) rfl ?_
      refine ct_icmp_ge (q := 239) (tgt := 262) dX7_nextToken_236 (by decide) rfl (fun z30 => ?_) (fun z30 => ?_)
      · replace h := it_t h z30
        refine ct_aload_0 (q := 263) dX7_nextToken_262 rfl ?_
        obtain ⟨x31, gx31, h⟩ := ob h
        refine ct_getI (q := 266) hB dX7_nextToken_263 fl_RX7_238 rfl gx31 rfl ?_
        exact ct_lessK (vX7_nextToken_b266 hB ih a0 x1 a0 x31 r22.2 r h) (And.intro rfl (And.intro rfl (trivial)))
      · replace h := it_f h z30
        refine ct_bipush (v := 10) (q := 241) dX7_nextToken_239 (by decide) rfl ?_
        refine ct_aload_0 (q := 242) dX7_nextToken_241 rfl ?_
        obtain ⟨x32, gx32, h⟩ := ob h
        refine ct_getI (q := 245) hB dX7_nextToken_242 fl_RX7_238 rfl gx32 rfl ?_
        refine ct_imul (q := 246) dX7_nextToken_245 rfl ?_
        refine ct_aload_0 (q := 247) dX7_nextToken_246 rfl ?_
        obtain ⟨a33, ga33, h⟩ := ob h
        refine ct_getP (q := 250) hB dX7_nextToken_247 fl_RX7_53 rfl ga33 rfl ?_
        refine ct_aload_0 (q := 251) dX7_nextToken_250 rfl ?_
        obtain ⟨x34, gx34, h⟩ := ob h
        refine ct_getI (q := 254) hB dX7_nextToken_251 fl_RX7_220 rfl gx34 rfl ?_
        obtain ⟨x35, gx35, h⟩ := ob h
        refine ct_iald (q := 255) hB dX7_nextToken_254 gx35 rfl ?_
        refine ct_iadd (q := 256) dX7_nextToken_255 rfl ?_
        refine ct_bipush (v := 48) (q := 258) dX7_nextToken_256 (by decide) rfl ?_
        refine ct_isub (q := 259) dX7_nextToken_258 rfl ?_
        refine ct_goto (q := 266) dX7_nextToken_259 (by decide) ?_
        exact ct_lessK (vX7_nextToken_b266 hB ih a0 x1 a0 (((10 * x32) + x35) - 48) r22.2 r h) (And.intro rfl (And.intro rfl (trivial)))

def fX7_nextToken_b192 (as0 : Nat) (xs1 : Int32) (M : ctM) : Option (ctM) :=
  (pI kdM 7 23 as0 xs1 M).bind fun M21 =>
  some M21

set_option maxHeartbeats 4000000 in
set_option maxRecDepth 20000 in
theorem vX7_nextToken_b192 {B : ctB} {n : Nat} (hB : ctOk B kdM lnM n) : ∀ (as0 : Nat) (xs1 : Int32) (M : ctM) (r : ctM), fX7_nextToken_b192 as0 xs1 M = some r → ctV B mX7_nextToken (2, 0, 0) (poV r n) 192 [none, none, none] [.int xs1, .ref as0] (0, 0) n M := by
  intro as0 xs1 M r h
  unfold fX7_nextToken_b192 at h
  obtain ⟨M21, gM21, h⟩ := ob h
  refine ct_putI (q := 195) hB dX7_nextToken_192 fl_RX7_232 rfl rfl (Or.inl rfl) gM21 rfl ?_
  refine ct_goto (q := 339) dX7_nextToken_195 (by decide) ?_
  exact ct_vret dX7_nextToken_339 rfl ⟨Nat.le_refl 0, Nat.le_refl 0⟩ (poV_of h)

def fX7_nextToken_b162 (a0 : Nat) (as0 : Nat) (xs1 : Int32) (M : ctM) : Option (ctM) :=
  (pI kdM 7 21 as0 xs1 M).bind fun M21 =>
  (gI kdM 7 20 a0 M21).bind fun x22 =>
  (gI kdM 7 19 a0 M21).bind fun x23 =>
  if (x22 - x23) = 1 then
    (gP kdM 7 17 a0 M21).bind fun a25 =>
    (gI kdM 7 19 a0 M21).bind fun x26 =>
    (aI kdM lnM 9 a25 x26 M21).bind fun x27 =>
    fX7_nextToken_b192 a0 x27 M21
  else
    fX7_nextToken_b192 a0 0 M21

set_option maxHeartbeats 4000000 in
set_option maxRecDepth 20000 in
theorem vX7_nextToken_b162 {B : ctB} {n : Nat} (hB : ctOk B kdM lnM n) : ∀ (a0 : Nat) (as0 : Nat) (xs1 : Int32) (M : ctM) (r : ctM), fX7_nextToken_b162 a0 as0 xs1 M = some r → ctV B mX7_nextToken (2, 0, 0) (poV r n) 162 [some (.ref a0), none, none] [.int xs1, .ref as0] (0, 0) n M := by
  intro a0 as0 xs1 M r h
  unfold fX7_nextToken_b162 at h
  obtain ⟨M21, gM21, h⟩ := ob h
  refine ct_putI (q := 165) hB dX7_nextToken_162 fl_RX7_223 rfl rfl (Or.inl rfl) gM21 rfl ?_
  refine ct_aload_0 (q := 166) dX7_nextToken_165 rfl ?_
  refine ct_aload_0 (q := 167) dX7_nextToken_166 rfl ?_
  obtain ⟨x22, gx22, h⟩ := ob h
  refine ct_getI (q := 170) hB dX7_nextToken_167 fl_RX7_220 rfl gx22 rfl ?_
  refine ct_aload_0 (q := 171) dX7_nextToken_170 rfl ?_
  obtain ⟨x23, gx23, h⟩ := ob h
  refine ct_getI (q := 174) hB dX7_nextToken_171 fl_RX7_226 rfl gx23 rfl ?_
  refine ct_isub (q := 175) dX7_nextToken_174 rfl ?_
  refine ct_iconst (v := 1) (q := 176) dX7_nextToken_175 (by decide) rfl ?_
  refine ct_icmp_ne (q := 179) (tgt := 191) dX7_nextToken_176 (by decide) rfl (fun z24 => ?_) (fun z24 => ?_)
  · replace h := it_f h z24
    refine ct_iconst (v := 0) (q := 192) dX7_nextToken_191 (by decide) rfl ?_
    exact ct_lessK (vX7_nextToken_b192 hB  a0 0 M21 r h) (trivial)
  · replace h := it_t h z24
    refine ct_aload_0 (q := 180) dX7_nextToken_179 rfl ?_
    obtain ⟨a25, ga25, h⟩ := ob h
    refine ct_getP (q := 183) hB dX7_nextToken_180 fl_RX7_53 rfl ga25 rfl ?_
    refine ct_aload_0 (q := 184) dX7_nextToken_183 rfl ?_
    obtain ⟨x26, gx26, h⟩ := ob h
    refine ct_getI (q := 187) hB dX7_nextToken_184 fl_RX7_226 rfl gx26 rfl ?_
    obtain ⟨x27, gx27, h⟩ := ob h
    refine ct_iald (q := 188) hB dX7_nextToken_187 gx27 rfl ?_
    refine ct_goto (q := 192) dX7_nextToken_188 (by decide) ?_
    exact ct_lessK (vX7_nextToken_b192 hB  a0 x27 M21 r h) (trivial)

def fX7_nextToken_h128 : Nat → Nat → Int32 → ctM → Option (ctM)
  | 0, _, _, _ => none
  | N + 1, a0, x1, M =>
    (gI kdM 7 20 a0 M).bind fun x21 =>
    (cV kdM 7 a0 (fX7_isLetter a0 x21 M)).bind fun r22 =>
    if r22.1 = 0 then
      if x1 = 0 then
        fX7_nextToken_b162 a0 a0 1 r22.2
      else
        fX7_nextToken_b162 a0 a0 4 r22.2
    else
      (gI kdM 7 20 a0 r22.2).bind fun x25 =>
      (pI kdM 7 20 a0 (x25 + 1) r22.2).bind fun M26 =>
      fX7_nextToken_h128 N a0 x1 M26

set_option maxHeartbeats 4000000 in
set_option maxRecDepth 20000 in
theorem vX7_nextToken_h128 {B : ctB} {n : Nat} (hB : ctOk B kdM lnM n) : ∀ (N : Nat) (a0 : Nat) (x1 : Int32) (M : ctM) (r : ctM), fX7_nextToken_h128 N a0 x1 M = some r → ctV B mX7_nextToken (2, 0, 0) (poV r n) 128 [some (.ref a0), some (.int x1), none] [] (0, 0) n M := by
  intro N
  induction N with
  | zero => intro a0 x1 M r h; exact absurd h (by simp [fX7_nextToken_h128])
  | succ N ih =>
    intro a0 x1 M r h
    rw [fX7_nextToken_h128] at h
    refine ct_aload_0 (q := 129) dX7_nextToken_128 rfl ?_
    refine ct_aload_0 (q := 130) dX7_nextToken_129 rfl ?_
    obtain ⟨x21, gx21, h⟩ := ob h
    refine ct_getI (q := 133) hB dX7_nextToken_130 fl_RX7_220 rfl gx21 rfl ?_
    obtain ⟨r22, gr22, h⟩ := ob h
    obtain ⟨er22, gr22⟩ := cV_spec gr22
    refine ct_cVi1 (q := 136) hB dX7_nextToken_133 lk_RX7_229 (by decide) (ctX7_isLetter hB gr22) er22 (by decide) rfl (Nat.le_of_ble_eq_true rfl) rfl ?_
    refine ct_if_eq (q := 139) (tgt := 152) dX7_nextToken_136 (by decide) rfl (fun z23 => ?_) (fun z23 => ?_)
    · replace h := it_t h z23
      refine ct_aload_0 (q := 153) dX7_nextToken_152 rfl ?_
      refine ct_iload_1 (q := 154) dX7_nextToken_153 rfl ?_
      refine ct_if_eq (q := 157) (tgt := 161) dX7_nextToken_154 (by decide) rfl (fun z24 => ?_) (fun z24 => ?_)
      · replace h := it_t h z24
        refine ct_iconst (v := 1) (q := 162) dX7_nextToken_161 (by decide) rfl ?_
        exact ct_lessK (vX7_nextToken_b162 hB  a0 a0 1 r22.2 r h) (And.intro rfl (trivial))
      · replace h := it_f h z24
        refine ct_iconst (v := 4) (q := 158) dX7_nextToken_157 (by decide) rfl ?_
        refine ct_goto (q := 162) dX7_nextToken_158 (by decide) ?_
        exact ct_lessK (vX7_nextToken_b162 hB  a0 a0 4 r22.2 r h) (And.intro rfl (trivial))
    · replace h := it_f h z23
      refine ct_aload_0 (q := 140) dX7_nextToken_139 rfl ?_
      refine ct_dup (q := 141) dX7_nextToken_140 rfl rfl ?_
      obtain ⟨x25, gx25, h⟩ := ob h
      refine ct_getI (q := 144) hB dX7_nextToken_141 fl_RX7_220 rfl gx25 rfl ?_
      refine ct_iconst (v := 1) (q := 145) dX7_nextToken_144 (by decide) rfl ?_
      refine ct_iadd (q := 146) dX7_nextToken_145 rfl ?_
      obtain ⟨M26, gM26, h⟩ := ob h
      refine ct_putI (q := 149) hB dX7_nextToken_146 fl_RX7_220 rfl rfl (Or.inl rfl) gM26 rfl ?_
      refine ct_goto (q := 128) dX7_nextToken_149 (by decide) ?_
      exact ct_lessK (ih a0 x1 M26 r h) (And.intro rfl (And.intro rfl (trivial)))

def fX7_nextToken_b89 (a0 : Nat) (xs0 : Int32) (M : ctM) : Option (ctM) :=
  (gI kdM 7 20 a0 M).bind fun x21 =>
  (pI kdM 7 19 a0 x21 M).bind fun M22 =>
  (gI kdM 7 19 a0 M22).bind fun x23 =>
  (gI kdM 7 18 a0 M22).bind fun x24 =>
  if x23 = x24 then
    (pI kdM 7 21 a0 0 M22).bind fun M40 =>
    some M40
  else
    (gI kdM 7 19 a0 M22).bind fun x26 =>
    (cV kdM 7 a0 (fX7_isLetter a0 x26 M22)).bind fun r27 =>
    if r27.1 = 0 then
      (gI kdM 7 19 a0 r27.2).bind fun x29 =>
      (cV kdM 7 a0 (fX7_isDigit a0 x29 r27.2)).bind fun r30 =>
      if r30.1 = 0 then
        (pI kdM 7 21 a0 3 r30.2).bind fun M32 =>
        (gP kdM 7 17 a0 M32).bind fun a33 =>
        (gI kdM 7 19 a0 M32).bind fun x34 =>
        (aI kdM lnM 9 a33 x34 M32).bind fun x35 =>
        (pI kdM 7 23 a0 x35 M32).bind fun M36 =>
        (gI kdM 7 20 a0 M36).bind fun x37 =>
        (pI kdM 7 20 a0 (x37 + 1) M36).bind fun M38 =>
        some M38
      else
        (pI kdM 7 22 a0 0 r30.2).bind fun M39 =>
        fX7_nextToken_h214 4000 a0 xs0 M39
    else
      fX7_nextToken_h128 4000 a0 xs0 r27.2

set_option maxHeartbeats 4000000 in
set_option maxRecDepth 20000 in
theorem vX7_nextToken_b89 {B : ctB} {n : Nat} (hB : ctOk B kdM lnM n) : ∀ (a0 : Nat) (xs0 : Int32) (M : ctM) (r : ctM), fX7_nextToken_b89 a0 xs0 M = some r → ctV B mX7_nextToken (2, 0, 0) (poV r n) 89 [some (.ref a0), none, none] [.int xs0] (0, 0) n M := by
  intro a0 xs0 M r h
  unfold fX7_nextToken_b89 at h
  refine ct_istore_1 (q := 90) dX7_nextToken_89 (by decide) rfl rfl ?_
  refine ct_aload_0 (q := 91) dX7_nextToken_90 rfl ?_
  refine ct_aload_0 (q := 92) dX7_nextToken_91 rfl ?_
  obtain ⟨x21, gx21, h⟩ := ob h
  refine ct_getI (q := 95) hB dX7_nextToken_92 fl_RX7_220 rfl gx21 rfl ?_
  obtain ⟨M22, gM22, h⟩ := ob h
  refine ct_putI (q := 98) hB dX7_nextToken_95 fl_RX7_226 rfl rfl (Or.inl rfl) gM22 rfl ?_
  refine ct_aload_0 (q := 99) dX7_nextToken_98 rfl ?_
  obtain ⟨x23, gx23, h⟩ := ob h
  refine ct_getI (q := 102) hB dX7_nextToken_99 fl_RX7_226 rfl gx23 rfl ?_
  refine ct_aload_0 (q := 103) dX7_nextToken_102 rfl ?_
  obtain ⟨x24, gx24, h⟩ := ob h
  refine ct_getI (q := 106) hB dX7_nextToken_103 fl_RX7_209 rfl gx24 rfl ?_
  refine ct_icmp_ne (q := 109) (tgt := 117) dX7_nextToken_106 (by decide) rfl (fun z25 => ?_) (fun z25 => ?_)
  · replace h := it_f h z25
    refine ct_aload_0 (q := 118) dX7_nextToken_117 rfl ?_
    refine ct_aload_0 (q := 119) dX7_nextToken_118 rfl ?_
    obtain ⟨x26, gx26, h⟩ := ob h
    refine ct_getI (q := 122) hB dX7_nextToken_119 fl_RX7_226 rfl gx26 rfl ?_
    obtain ⟨r27, gr27, h⟩ := ob h
    obtain ⟨er27, gr27⟩ := cV_spec gr27
    refine ct_cVi1 (q := 125) hB dX7_nextToken_122 lk_RX7_229 (by decide) (ctX7_isLetter hB gr27) er27 (by decide) rfl (Nat.le_of_ble_eq_true rfl) rfl ?_
    refine ct_if_eq (q := 128) (tgt := 198) dX7_nextToken_125 (by decide) rfl (fun z28 => ?_) (fun z28 => ?_)
    · replace h := it_t h z28
      refine ct_aload_0 (q := 199) dX7_nextToken_198 rfl ?_
      refine ct_aload_0 (q := 200) dX7_nextToken_199 rfl ?_
      obtain ⟨x29, gx29, h⟩ := ob h
      refine ct_getI (q := 203) hB dX7_nextToken_200 fl_RX7_226 rfl gx29 rfl ?_
      obtain ⟨r30, gr30, h⟩ := ob h
      obtain ⟨er30, gr30⟩ := cV_spec gr30
      refine ct_cVi1 (q := 206) hB dX7_nextToken_203 lk_RX7_235 (by decide) (ctX7_isDigit hB gr30) er30 (by decide) rfl (Nat.le_of_ble_eq_true rfl) rfl ?_
      refine ct_if_eq (q := 209) (tgt := 311) dX7_nextToken_206 (by decide) rfl (fun z31 => ?_) (fun z31 => ?_)
      · replace h := it_t h z31
        refine ct_aload_0 (q := 312) dX7_nextToken_311 rfl ?_
        refine ct_iconst (v := 3) (q := 313) dX7_nextToken_312 (by decide) rfl ?_
        obtain ⟨M32, gM32, h⟩ := ob h
        refine ct_putI (q := 316) hB dX7_nextToken_313 fl_RX7_223 rfl rfl (Or.inl rfl) gM32 rfl ?_
        refine ct_aload_0 (q := 317) dX7_nextToken_316 rfl ?_
        refine ct_aload_0 (q := 318) dX7_nextToken_317 rfl ?_
        obtain ⟨a33, ga33, h⟩ := ob h
        refine ct_getP (q := 321) hB dX7_nextToken_318 fl_RX7_53 rfl ga33 rfl ?_
        refine ct_aload_0 (q := 322) dX7_nextToken_321 rfl ?_
        obtain ⟨x34, gx34, h⟩ := ob h
        refine ct_getI (q := 325) hB dX7_nextToken_322 fl_RX7_226 rfl gx34 rfl ?_
        obtain ⟨x35, gx35, h⟩ := ob h
        refine ct_iald (q := 326) hB dX7_nextToken_325 gx35 rfl ?_
        obtain ⟨M36, gM36, h⟩ := ob h
        refine ct_putI (q := 329) hB dX7_nextToken_326 fl_RX7_232 rfl rfl (Or.inl rfl) gM36 rfl ?_
        refine ct_aload_0 (q := 330) dX7_nextToken_329 rfl ?_
        refine ct_dup (q := 331) dX7_nextToken_330 rfl rfl ?_
        obtain ⟨x37, gx37, h⟩ := ob h
        refine ct_getI (q := 334) hB dX7_nextToken_331 fl_RX7_220 rfl gx37 rfl ?_
        refine ct_iconst (v := 1) (q := 335) dX7_nextToken_334 (by decide) rfl ?_
        refine ct_iadd (q := 336) dX7_nextToken_335 rfl ?_
        obtain ⟨M38, gM38, h⟩ := ob h
        refine ct_putI (q := 339) hB dX7_nextToken_336 fl_RX7_220 rfl rfl (Or.inl rfl) gM38 rfl ?_
        exact ct_vret dX7_nextToken_339 rfl ⟨Nat.le_refl 0, Nat.le_refl 0⟩ (poV_of h)
      · replace h := it_f h z31
        refine ct_aload_0 (q := 210) dX7_nextToken_209 rfl ?_
        refine ct_iconst (v := 0) (q := 211) dX7_nextToken_210 (by decide) rfl ?_
        obtain ⟨M39, gM39, h⟩ := ob h
        refine ct_putI (q := 214) hB dX7_nextToken_211 fl_RX7_238 rfl rfl (Or.inl rfl) gM39 rfl ?_
        exact ct_lessK (vX7_nextToken_h214 hB  4000 a0 xs0 M39 r h) (And.intro rfl (And.intro rfl (trivial)))
    · replace h := it_f h z28
      exact ct_lessK (vX7_nextToken_h128 hB  4000 a0 xs0 r27.2 r h) (And.intro rfl (And.intro rfl (trivial)))
  · replace h := it_t h z25
    refine ct_aload_0 (q := 110) dX7_nextToken_109 rfl ?_
    refine ct_iconst (v := 0) (q := 111) dX7_nextToken_110 (by decide) rfl ?_
    obtain ⟨M40, gM40, h⟩ := ob h
    refine ct_putI (q := 114) hB dX7_nextToken_111 fl_RX7_223 rfl rfl (Or.inl rfl) gM40 rfl ?_
    refine ct_goto (q := 339) dX7_nextToken_114 (by decide) ?_
    exact ct_vret dX7_nextToken_339 rfl ⟨Nat.le_refl 0, Nat.le_refl 0⟩ (poV_of h)

def fX7_nextToken_b88 (a0 : Nat) (M : ctM) : Option (ctM) :=
  fX7_nextToken_b89 a0 0 M

set_option maxHeartbeats 4000000 in
set_option maxRecDepth 20000 in
theorem vX7_nextToken_b88 {B : ctB} {n : Nat} (hB : ctOk B kdM lnM n) : ∀ (a0 : Nat) (M : ctM) (r : ctM), fX7_nextToken_b88 a0 M = some r → ctV B mX7_nextToken (2, 0, 0) (poV r n) 88 [some (.ref a0), none, none] [] (0, 0) n M := by
  intro a0 M r h
  unfold fX7_nextToken_b88 at h
  refine ct_iconst (v := 0) (q := 89) dX7_nextToken_88 (by decide) rfl ?_
  exact ct_lessK (vX7_nextToken_b89 hB  a0 0 M r h) (And.intro rfl (trivial))

def fX7_nextToken_b72 (a0 : Nat) (x1 : Int32) (x2 : Int32) (M : ctM) : Option (ctM) :=
  if x1 = 0 then
    fX7_nextToken_b88 a0 M
  else
    (gI kdM 7 20 a0 M).bind fun x22 =>
    if x2 = x22 then
      fX7_nextToken_b89 a0 1 M
    else
      fX7_nextToken_b88 a0 M

set_option maxHeartbeats 4000000 in
set_option maxRecDepth 20000 in
theorem vX7_nextToken_b72 {B : ctB} {n : Nat} (hB : ctOk B kdM lnM n) : ∀ (a0 : Nat) (x1 : Int32) (x2 : Int32) (M : ctM) (r : ctM), fX7_nextToken_b72 a0 x1 x2 M = some r → ctV B mX7_nextToken (2, 0, 0) (poV r n) 72 [some (.ref a0), some (.int x1), some (.int x2)] [] (0, 0) n M := by
  intro a0 x1 x2 M r h
  unfold fX7_nextToken_b72 at h
  refine ct_iload_1 (q := 73) dX7_nextToken_72 rfl ?_
  refine ct_if_eq (q := 76) (tgt := 88) dX7_nextToken_73 (by decide) rfl (fun z21 => ?_) (fun z21 => ?_)
  · replace h := it_t h z21
    exact ct_lessK (vX7_nextToken_b88 hB  a0 M r h) (And.intro rfl (trivial))
  · replace h := it_f h z21
    refine ct_iload_2 (q := 77) dX7_nextToken_76 rfl ?_
    refine ct_aload_0 (q := 78) dX7_nextToken_77 rfl ?_
    obtain ⟨x22, gx22, h⟩ := ob h
    refine ct_getI (q := 81) hB dX7_nextToken_78 fl_RX7_220 rfl gx22 rfl ?_
    refine ct_icmp_ne (q := 84) (tgt := 88) dX7_nextToken_81 (by decide) rfl (fun z23 => ?_) (fun z23 => ?_)
    · replace h := it_f h z23
      exact ct_lessK (vX7_nextToken_b88 hB  a0 M r h) (And.intro rfl (trivial))
    · replace h := it_t h z23
      refine ct_iconst (v := 1) (q := 85) dX7_nextToken_84 (by decide) rfl ?_
      refine ct_goto (q := 89) dX7_nextToken_85 (by decide) ?_
      exact ct_lessK (vX7_nextToken_b89 hB  a0 1 M r h) (And.intro rfl (trivial))

def fX7_nextToken_h34 : Nat → Nat → Int32 → Int32 → ctM → Option (ctM)
  | 0, _, _, _, _ => none
  | N + 1, a0, x1, x2, M =>
    (gI kdM 7 20 a0 M).bind fun x21 =>
    (gI kdM 7 18 a0 M).bind fun x22 =>
    if x22 ≤ x21 then
      fX7_nextToken_b72 a0 x1 x2 M
    else
      (gP kdM 7 17 a0 M).bind fun a24 =>
      (gI kdM 7 20 a0 M).bind fun x25 =>
      (aI kdM lnM 9 a24 x25 M).bind fun x26 =>
      if x26 = 32 then
        (gI kdM 7 20 a0 M).bind fun x28 =>
        (pI kdM 7 20 a0 (x28 + 1) M).bind fun M29 =>
        fX7_nextToken_h34 N a0 x1 x2 M29
      else
        fX7_nextToken_b72 a0 x1 x2 M

set_option maxHeartbeats 4000000 in
set_option maxRecDepth 20000 in
theorem vX7_nextToken_h34 {B : ctB} {n : Nat} (hB : ctOk B kdM lnM n) : ∀ (N : Nat) (a0 : Nat) (x1 : Int32) (x2 : Int32) (M : ctM) (r : ctM), fX7_nextToken_h34 N a0 x1 x2 M = some r → ctV B mX7_nextToken (2, 0, 0) (poV r n) 34 [some (.ref a0), some (.int x1), some (.int x2)] [] (0, 0) n M := by
  intro N
  induction N with
  | zero => intro a0 x1 x2 M r h; exact absurd h (by simp [fX7_nextToken_h34])
  | succ N ih =>
    intro a0 x1 x2 M r h
    rw [fX7_nextToken_h34] at h
    refine ct_aload_0 (q := 35) dX7_nextToken_34 rfl ?_
    obtain ⟨x21, gx21, h⟩ := ob h
    refine ct_getI (q := 38) hB dX7_nextToken_35 fl_RX7_220 rfl gx21 rfl ?_
    refine ct_aload_0 (q := 39) dX7_nextToken_38 rfl ?_
    obtain ⟨x22, gx22, h⟩ := ob h
    refine ct_getI (q := 42) hB dX7_nextToken_39 fl_RX7_209 rfl gx22 rfl ?_
    refine ct_icmp_ge (q := 45) (tgt := 72) dX7_nextToken_42 (by decide) rfl (fun z23 => ?_) (fun z23 => ?_)
    · replace h := it_t h z23
      exact ct_lessK (vX7_nextToken_b72 hB  a0 x1 x2 M r h) (And.intro rfl (And.intro rfl (And.intro rfl (trivial))))
    · replace h := it_f h z23
      refine ct_aload_0 (q := 46) dX7_nextToken_45 rfl ?_
      obtain ⟨a24, ga24, h⟩ := ob h
      refine ct_getP (q := 49) hB dX7_nextToken_46 fl_RX7_53 rfl ga24 rfl ?_
      refine ct_aload_0 (q := 50) dX7_nextToken_49 rfl ?_
      obtain ⟨x25, gx25, h⟩ := ob h
      refine ct_getI (q := 53) hB dX7_nextToken_50 fl_RX7_220 rfl gx25 rfl ?_
      obtain ⟨x26, gx26, h⟩ := ob h
      refine ct_iald (q := 54) hB dX7_nextToken_53 gx26 rfl ?_
      refine ct_bipush (v := 32) (q := 56) dX7_nextToken_54 (by decide) rfl ?_
      refine ct_icmp_ne (q := 59) (tgt := 72) dX7_nextToken_56 (by decide) rfl (fun z27 => ?_) (fun z27 => ?_)
      · replace h := it_f h z27
        exact ct_lessK (vX7_nextToken_b72 hB  a0 x1 x2 M r h) (And.intro rfl (And.intro rfl (And.intro rfl (trivial))))
      · replace h := it_t h z27
        refine ct_aload_0 (q := 60) dX7_nextToken_59 rfl ?_
        refine ct_dup (q := 61) dX7_nextToken_60 rfl rfl ?_
        obtain ⟨x28, gx28, h⟩ := ob h
        refine ct_getI (q := 64) hB dX7_nextToken_61 fl_RX7_220 rfl gx28 rfl ?_
        refine ct_iconst (v := 1) (q := 65) dX7_nextToken_64 (by decide) rfl ?_
        refine ct_iadd (q := 66) dX7_nextToken_65 rfl ?_
        obtain ⟨M29, gM29, h⟩ := ob h
        refine ct_putI (q := 69) hB dX7_nextToken_66 fl_RX7_220 rfl rfl (Or.inl rfl) gM29 rfl ?_
        refine ct_goto (q := 34) dX7_nextToken_69 (by decide) ?_
        exact ct_lessK (ih a0 x1 x2 M29 r h) (And.intro rfl (And.intro rfl (And.intro rfl (trivial))))

def fX7_nextToken_b28 (a0 : Nat) (xs0 : Int32) (M : ctM) : Option (ctM) :=
  (gI kdM 7 20 a0 M).bind fun x21 =>
  fX7_nextToken_h34 4000 a0 xs0 x21 M

set_option maxHeartbeats 4000000 in
set_option maxRecDepth 20000 in
theorem vX7_nextToken_b28 {B : ctB} {n : Nat} (hB : ctOk B kdM lnM n) : ∀ (a0 : Nat) (xs0 : Int32) (M : ctM) (r : ctM), fX7_nextToken_b28 a0 xs0 M = some r → ctV B mX7_nextToken (2, 0, 0) (poV r n) 28 [some (.ref a0), none, none] [.int xs0] (0, 0) n M := by
  intro a0 xs0 M r h
  unfold fX7_nextToken_b28 at h
  refine ct_istore_1 (q := 29) dX7_nextToken_28 (by decide) rfl rfl ?_
  refine ct_aload_0 (q := 30) dX7_nextToken_29 rfl ?_
  obtain ⟨x21, gx21, h⟩ := ob h
  refine ct_getI (q := 33) hB dX7_nextToken_30 fl_RX7_220 rfl gx21 rfl ?_
  refine ct_istore_2 (q := 34) dX7_nextToken_33 (by decide) rfl rfl ?_
  exact ct_lessK (vX7_nextToken_h34 hB  4000 a0 xs0 x21 M r h) (And.intro rfl (And.intro rfl (And.intro rfl (trivial))))

def fX7_nextToken_b27 (a0 : Nat) (M : ctM) : Option (ctM) :=
  fX7_nextToken_b28 a0 0 M

set_option maxHeartbeats 4000000 in
set_option maxRecDepth 20000 in
theorem vX7_nextToken_b27 {B : ctB} {n : Nat} (hB : ctOk B kdM lnM n) : ∀ (a0 : Nat) (M : ctM) (r : ctM), fX7_nextToken_b27 a0 M = some r → ctV B mX7_nextToken (2, 0, 0) (poV r n) 27 [some (.ref a0), none, none] [] (0, 0) n M := by
  intro a0 M r h
  unfold fX7_nextToken_b27 at h
  refine ct_iconst (v := 0) (q := 28) dX7_nextToken_27 (by decide) rfl ?_
  exact ct_lessK (vX7_nextToken_b28 hB  a0 0 M r h) (And.intro rfl (trivial))

def fX7_nextToken_b23 (a0 : Nat) (M : ctM) : Option (ctM) :=
  fX7_nextToken_b28 a0 1 M

set_option maxHeartbeats 4000000 in
set_option maxRecDepth 20000 in
theorem vX7_nextToken_b23 {B : ctB} {n : Nat} (hB : ctOk B kdM lnM n) : ∀ (a0 : Nat) (M : ctM) (r : ctM), fX7_nextToken_b23 a0 M = some r → ctV B mX7_nextToken (2, 0, 0) (poV r n) 23 [some (.ref a0), none, none] [] (0, 0) n M := by
  intro a0 M r h
  unfold fX7_nextToken_b23 at h
  refine ct_iconst (v := 1) (q := 24) dX7_nextToken_23 (by decide) rfl ?_
  refine ct_goto (q := 28) dX7_nextToken_24 (by decide) ?_
  exact ct_lessK (vX7_nextToken_b28 hB  a0 1 M r h) (And.intro rfl (trivial))

def fX7_nextToken (a0 : Nat) (M : ctM) : Option (ctM) :=
  (gI kdM 7 20 a0 M).bind fun x21 =>
  if x21 ≤ 0 then
    fX7_nextToken_b27 a0 M
  else
    (gI kdM 7 21 a0 M).bind fun x23 =>
    if x23 = 1 then
      fX7_nextToken_b23 a0 M
    else
      (gI kdM 7 21 a0 M).bind fun x25 =>
      if x25 = 2 then
        fX7_nextToken_b23 a0 M
      else
        fX7_nextToken_b27 a0 M

set_option maxHeartbeats 4000000 in
set_option maxRecDepth 20000 in
theorem ctX7_nextToken {B : ctB} {n : Nat} (hB : ctOk B kdM lnM n) {a0 : Nat} {M : ctM} {r : ctM} (h : fX7_nextToken a0 M = some r) : ctC B mX7_nextToken (2, 0, 0) [.ref a0] n M (poV r n) := by
  refine ctC_of (by decide) (Nat.le_of_ble_eq_true rfl) ?_
  show ctV B mX7_nextToken (2, 0, 0) (poV r n) 0 [some (.ref a0), none, none] [] (0, 0) n M
  unfold fX7_nextToken at h
  refine ct_aload_0 (q := 1) dX7_nextToken_0 rfl ?_
  obtain ⟨x21, gx21, h⟩ := ob h
  refine ct_getI (q := 4) hB dX7_nextToken_1 fl_RX7_220 rfl gx21 rfl ?_
  refine ct_if_le (q := 7) (tgt := 27) dX7_nextToken_4 (by decide) rfl (fun z22 => ?_) (fun z22 => ?_)
  · replace h := it_t h z22
    exact ct_lessK (vX7_nextToken_b27 hB  a0 M r h) (And.intro rfl (trivial))
  · replace h := it_f h z22
    refine ct_aload_0 (q := 8) dX7_nextToken_7 rfl ?_
    obtain ⟨x23, gx23, h⟩ := ob h
    refine ct_getI (q := 11) hB dX7_nextToken_8 fl_RX7_223 rfl gx23 rfl ?_
    refine ct_iconst (v := 1) (q := 12) dX7_nextToken_11 (by decide) rfl ?_
    refine ct_icmp_eq (q := 15) (tgt := 23) dX7_nextToken_12 (by decide) rfl (fun z24 => ?_) (fun z24 => ?_)
    · replace h := it_t h z24
      exact ct_lessK (vX7_nextToken_b23 hB  a0 M r h) (And.intro rfl (trivial))
    · replace h := it_f h z24
      refine ct_aload_0 (q := 16) dX7_nextToken_15 rfl ?_
      obtain ⟨x25, gx25, h⟩ := ob h
      refine ct_getI (q := 19) hB dX7_nextToken_16 fl_RX7_223 rfl gx25 rfl ?_
      refine ct_iconst (v := 2) (q := 20) dX7_nextToken_19 (by decide) rfl ?_
      refine ct_icmp_ne (q := 23) (tgt := 27) dX7_nextToken_20 (by decide) rfl (fun z26 => ?_) (fun z26 => ?_)
      · replace h := it_f h z26
        exact ct_lessK (vX7_nextToken_b27 hB  a0 M r h) (And.intro rfl (trivial))
      · replace h := it_t h z26
        exact ct_lessK (vX7_nextToken_b23 hB  a0 M r h) (And.intro rfl (trivial))

def fX7_isSign (a0 : Nat) (x1 : Int32) (M : ctM) : Option (Int32 × ctM) :=
  (gI kdM 7 21 a0 M).bind fun x21 =>
  if x21 = 3 then
    (gI kdM 7 23 a0 M).bind fun x23 =>
    if x23 = x1 then
      some (1, M)
    else
      some (0, M)
  else
    some (0, M)

set_option maxHeartbeats 4000000 in
set_option maxRecDepth 20000 in
theorem ctX7_isSign {B : ctB} {n : Nat} (hB : ctOk B kdM lnM n) {a0 : Nat} {x1 : Int32} {M : ctM} {r : Int32 × ctM} (h : fX7_isSign a0 x1 M = some r) : ctC B mX7_isSign (0, 0, 0) [.ref a0, .int x1] n M (poI r n) := by
  refine ctC_of (by decide) (Nat.le_of_ble_eq_true rfl) ?_
  show ctV B mX7_isSign (0, 0, 0) (poI r n) 0 [some (.ref a0), some (.int x1)] [] (0, 0) n M
  unfold fX7_isSign at h
  refine ct_aload_0 (q := 1) dX7_isSign_0 rfl ?_
  obtain ⟨x21, gx21, h⟩ := ob h
  refine ct_getI (q := 4) hB dX7_isSign_1 fl_RX7_223 rfl gx21 rfl ?_
  refine ct_iconst (v := 3) (q := 5) dX7_isSign_4 (by decide) rfl ?_
  refine ct_icmp_ne (q := 8) (tgt := 20) dX7_isSign_5 (by decide) rfl (fun z22 => ?_) (fun z22 => ?_)
  · replace h := it_f h z22
    refine ct_iconst (v := 0) (q := 21) dX7_isSign_20 (by decide) rfl ?_
    exact ct_zret dX7_isSign_21 rfl (by decide) ⟨Nat.le_refl 0, Nat.le_refl 0⟩ (poI_of h)
  · replace h := it_t h z22
    refine ct_aload_0 (q := 9) dX7_isSign_8 rfl ?_
    obtain ⟨x23, gx23, h⟩ := ob h
    refine ct_getI (q := 12) hB dX7_isSign_9 fl_RX7_232 rfl gx23 rfl ?_
    refine ct_iload_1 (q := 13) dX7_isSign_12 rfl ?_
    refine ct_icmp_ne (q := 16) (tgt := 20) dX7_isSign_13 (by decide) rfl (fun z24 => ?_) (fun z24 => ?_)
    · replace h := it_f h z24
      refine ct_iconst (v := 0) (q := 21) dX7_isSign_20 (by decide) rfl ?_
      exact ct_zret dX7_isSign_21 rfl (by decide) ⟨Nat.le_refl 0, Nat.le_refl 0⟩ (poI_of h)
    · replace h := it_t h z24
      refine ct_iconst (v := 1) (q := 17) dX7_isSign_16 (by decide) rfl ?_
      refine ct_goto (q := 21) dX7_isSign_17 (by decide) ?_
      exact ct_zret dX7_isSign_21 rfl (by decide) ⟨Nat.le_refl 0, Nat.le_refl 0⟩ (poI_of h)

def fX7_isWordAt_b98 (M : ctM) : Option (Int32 × ctM) :=
  some (1, M)

set_option maxHeartbeats 4000000 in
set_option maxRecDepth 20000 in
theorem vX7_isWordAt_b98 {B : ctB} {n : Nat} (hB : ctOk B kdM lnM n) : ∀  (M : ctM) (r : Int32 × ctM), fX7_isWordAt_b98  M = some r → ctV B mX7_isWordAt (0, 0, 0) (poI r n) 98 [none, none, none, none, none, none] [] (0, 0) n M := by
  intro  M r h
  unfold fX7_isWordAt_b98 at h
  refine ct_iconst (v := 1) (q := 99) dX7_isWordAt_98 (by decide) rfl ?_
  refine ct_goto (q := 103) dX7_isWordAt_99 (by decide) ?_
  exact ct_zret dX7_isWordAt_103 rfl (by decide) ⟨Nat.le_refl 0, Nat.le_refl 0⟩ (poI_of h)

def fX7_isWordAt_b10 (a0 : Nat) (x1 : Int32) (x2 : Int32) (x3 : Int32) (x4 : Int32) (xs0 : Int32) (M : ctM) : Option (Int32 × ctM) :=
  (gI kdM 7 21 a0 M).bind fun x21 =>
  if x21 = 1 then
    (gI kdM 7 20 a0 M).bind fun x23 =>
    (gI kdM 7 19 a0 M).bind fun x24 =>
    if (x23 - x24) = xs0 then
      (gP kdM 7 17 a0 M).bind fun a26 =>
      (gI kdM 7 19 a0 M).bind fun x27 =>
      (aI kdM lnM 9 a26 x27 M).bind fun x28 =>
      if x28 = x1 then
        (gP kdM 7 17 a0 M).bind fun a30 =>
        (gI kdM 7 19 a0 M).bind fun x31 =>
        (aI kdM lnM 9 a30 (x31 + 1) M).bind fun x32 =>
        if x32 = x2 then
          (gP kdM 7 17 a0 M).bind fun a34 =>
          (gI kdM 7 19 a0 M).bind fun x35 =>
          (aI kdM lnM 9 a34 (x35 + 2) M).bind fun x36 =>
          if x36 = x3 then
            if x4 = 0 then
              fX7_isWordAt_b98 M
            else
              (gP kdM 7 17 a0 M).bind fun a39 =>
              (gI kdM 7 19 a0 M).bind fun x40 =>
              (aI kdM lnM 9 a39 (x40 + 3) M).bind fun x41 =>
              if x41 = x4 then
                fX7_isWordAt_b98 M
              else
                some (0, M)
          else
            some (0, M)
        else
          some (0, M)
      else
        some (0, M)
    else
      some (0, M)
  else
    some (0, M)

set_option maxHeartbeats 4000000 in
set_option maxRecDepth 20000 in
theorem vX7_isWordAt_b10 {B : ctB} {n : Nat} (hB : ctOk B kdM lnM n) : ∀ (a0 : Nat) (x1 : Int32) (x2 : Int32) (x3 : Int32) (x4 : Int32) (xs0 : Int32) (M : ctM) (r : Int32 × ctM), fX7_isWordAt_b10 a0 x1 x2 x3 x4 xs0 M = some r → ctV B mX7_isWordAt (0, 0, 0) (poI r n) 10 [some (.ref a0), some (.int x1), some (.int x2), some (.int x3), some (.int x4), none] [.int xs0] (0, 0) n M := by
  intro a0 x1 x2 x3 x4 xs0 M r h
  unfold fX7_isWordAt_b10 at h
  refine ct_istore_5 (q := 12) dX7_isWordAt_10 (by decide) rfl rfl ?_
  refine ct_aload_0 (q := 13) dX7_isWordAt_12 rfl ?_
  obtain ⟨x21, gx21, h⟩ := ob h
  refine ct_getI (q := 16) hB dX7_isWordAt_13 fl_RX7_223 rfl gx21 rfl ?_
  refine ct_iconst (v := 1) (q := 17) dX7_isWordAt_16 (by decide) rfl ?_
  refine ct_icmp_ne (q := 20) (tgt := 102) dX7_isWordAt_17 (by decide) rfl (fun z22 => ?_) (fun z22 => ?_)
  · replace h := it_f h z22
    refine ct_iconst (v := 0) (q := 103) dX7_isWordAt_102 (by decide) rfl ?_
    exact ct_zret dX7_isWordAt_103 rfl (by decide) ⟨Nat.le_refl 0, Nat.le_refl 0⟩ (poI_of h)
  · replace h := it_t h z22
    refine ct_aload_0 (q := 21) dX7_isWordAt_20 rfl ?_
    obtain ⟨x23, gx23, h⟩ := ob h
    refine ct_getI (q := 24) hB dX7_isWordAt_21 fl_RX7_220 rfl gx23 rfl ?_
    refine ct_aload_0 (q := 25) dX7_isWordAt_24 rfl ?_
    obtain ⟨x24, gx24, h⟩ := ob h
    refine ct_getI (q := 28) hB dX7_isWordAt_25 fl_RX7_226 rfl gx24 rfl ?_
    refine ct_isub (q := 29) dX7_isWordAt_28 rfl ?_
    refine ct_iload_5 (q := 31) dX7_isWordAt_29 rfl ?_
    refine ct_icmp_ne (q := 34) (tgt := 102) dX7_isWordAt_31 (by decide) rfl (fun z25 => ?_) (fun z25 => ?_)
    · replace h := it_f h z25
      refine ct_iconst (v := 0) (q := 103) dX7_isWordAt_102 (by decide) rfl ?_
      exact ct_zret dX7_isWordAt_103 rfl (by decide) ⟨Nat.le_refl 0, Nat.le_refl 0⟩ (poI_of h)
    · replace h := it_t h z25
      refine ct_aload_0 (q := 35) dX7_isWordAt_34 rfl ?_
      obtain ⟨a26, ga26, h⟩ := ob h
      refine ct_getP (q := 38) hB dX7_isWordAt_35 fl_RX7_53 rfl ga26 rfl ?_
      refine ct_aload_0 (q := 39) dX7_isWordAt_38 rfl ?_
      obtain ⟨x27, gx27, h⟩ := ob h
      refine ct_getI (q := 42) hB dX7_isWordAt_39 fl_RX7_226 rfl gx27 rfl ?_
      obtain ⟨x28, gx28, h⟩ := ob h
      refine ct_iald (q := 43) hB dX7_isWordAt_42 gx28 rfl ?_
      refine ct_iload_1 (q := 44) dX7_isWordAt_43 rfl ?_
      refine ct_icmp_ne (q := 47) (tgt := 102) dX7_isWordAt_44 (by decide) rfl (fun z29 => ?_) (fun z29 => ?_)
      · replace h := it_f h z29
        refine ct_iconst (v := 0) (q := 103) dX7_isWordAt_102 (by decide) rfl ?_
        exact ct_zret dX7_isWordAt_103 rfl (by decide) ⟨Nat.le_refl 0, Nat.le_refl 0⟩ (poI_of h)
      · replace h := it_t h z29
        refine ct_aload_0 (q := 48) dX7_isWordAt_47 rfl ?_
        obtain ⟨a30, ga30, h⟩ := ob h
        refine ct_getP (q := 51) hB dX7_isWordAt_48 fl_RX7_53 rfl ga30 rfl ?_
        refine ct_aload_0 (q := 52) dX7_isWordAt_51 rfl ?_
        obtain ⟨x31, gx31, h⟩ := ob h
        refine ct_getI (q := 55) hB dX7_isWordAt_52 fl_RX7_226 rfl gx31 rfl ?_
        refine ct_iconst (v := 1) (q := 56) dX7_isWordAt_55 (by decide) rfl ?_
        refine ct_iadd (q := 57) dX7_isWordAt_56 rfl ?_
        obtain ⟨x32, gx32, h⟩ := ob h
        refine ct_iald (q := 58) hB dX7_isWordAt_57 gx32 rfl ?_
        refine ct_iload_2 (q := 59) dX7_isWordAt_58 rfl ?_
        refine ct_icmp_ne (q := 62) (tgt := 102) dX7_isWordAt_59 (by decide) rfl (fun z33 => ?_) (fun z33 => ?_)
        · replace h := it_f h z33
          refine ct_iconst (v := 0) (q := 103) dX7_isWordAt_102 (by decide) rfl ?_
          exact ct_zret dX7_isWordAt_103 rfl (by decide) ⟨Nat.le_refl 0, Nat.le_refl 0⟩ (poI_of h)
        · replace h := it_t h z33
          refine ct_aload_0 (q := 63) dX7_isWordAt_62 rfl ?_
          obtain ⟨a34, ga34, h⟩ := ob h
          refine ct_getP (q := 66) hB dX7_isWordAt_63 fl_RX7_53 rfl ga34 rfl ?_
          refine ct_aload_0 (q := 67) dX7_isWordAt_66 rfl ?_
          obtain ⟨x35, gx35, h⟩ := ob h
          refine ct_getI (q := 70) hB dX7_isWordAt_67 fl_RX7_226 rfl gx35 rfl ?_
          refine ct_iconst (v := 2) (q := 71) dX7_isWordAt_70 (by decide) rfl ?_
          refine ct_iadd (q := 72) dX7_isWordAt_71 rfl ?_
          obtain ⟨x36, gx36, h⟩ := ob h
          refine ct_iald (q := 73) hB dX7_isWordAt_72 gx36 rfl ?_
          refine ct_iload_3 (q := 74) dX7_isWordAt_73 rfl ?_
          refine ct_icmp_ne (q := 77) (tgt := 102) dX7_isWordAt_74 (by decide) rfl (fun z37 => ?_) (fun z37 => ?_)
          · replace h := it_f h z37
            refine ct_iconst (v := 0) (q := 103) dX7_isWordAt_102 (by decide) rfl ?_
            exact ct_zret dX7_isWordAt_103 rfl (by decide) ⟨Nat.le_refl 0, Nat.le_refl 0⟩ (poI_of h)
          · replace h := it_t h z37
            refine ct_iload_4 (q := 79) dX7_isWordAt_77 rfl ?_
            refine ct_if_eq (q := 82) (tgt := 98) dX7_isWordAt_79 (by decide) rfl (fun z38 => ?_) (fun z38 => ?_)
            · replace h := it_t h z38
              exact ct_lessK (vX7_isWordAt_b98 hB   M r h) (trivial)
            · replace h := it_f h z38
              refine ct_aload_0 (q := 83) dX7_isWordAt_82 rfl ?_
              obtain ⟨a39, ga39, h⟩ := ob h
              refine ct_getP (q := 86) hB dX7_isWordAt_83 fl_RX7_53 rfl ga39 rfl ?_
              refine ct_aload_0 (q := 87) dX7_isWordAt_86 rfl ?_
              obtain ⟨x40, gx40, h⟩ := ob h
              refine ct_getI (q := 90) hB dX7_isWordAt_87 fl_RX7_226 rfl gx40 rfl ?_
              refine ct_iconst (v := 3) (q := 91) dX7_isWordAt_90 (by decide) rfl ?_
              refine ct_iadd (q := 92) dX7_isWordAt_91 rfl ?_
              obtain ⟨x41, gx41, h⟩ := ob h
              refine ct_iald (q := 93) hB dX7_isWordAt_92 gx41 rfl ?_
              refine ct_iload_4 (q := 95) dX7_isWordAt_93 rfl ?_
              refine ct_icmp_ne (q := 98) (tgt := 102) dX7_isWordAt_95 (by decide) rfl (fun z42 => ?_) (fun z42 => ?_)
              · replace h := it_f h z42
                refine ct_iconst (v := 0) (q := 103) dX7_isWordAt_102 (by decide) rfl ?_
                exact ct_zret dX7_isWordAt_103 rfl (by decide) ⟨Nat.le_refl 0, Nat.le_refl 0⟩ (poI_of h)
              · replace h := it_t h z42
                exact ct_lessK (vX7_isWordAt_b98 hB   M r h) (trivial)

def fX7_isWordAt (a0 : Nat) (x1 : Int32) (x2 : Int32) (x3 : Int32) (x4 : Int32) (M : ctM) : Option (Int32 × ctM) :=
  if x4 = 0 then
    fX7_isWordAt_b10 a0 x1 x2 x3 x4 3 M
  else
    fX7_isWordAt_b10 a0 x1 x2 x3 x4 4 M

set_option maxHeartbeats 4000000 in
set_option maxRecDepth 20000 in
theorem ctX7_isWordAt {B : ctB} {n : Nat} (hB : ctOk B kdM lnM n) {a0 : Nat} {x1 : Int32} {x2 : Int32} {x3 : Int32} {x4 : Int32} {M : ctM} {r : Int32 × ctM} (h : fX7_isWordAt a0 x1 x2 x3 x4 M = some r) : ctC B mX7_isWordAt (0, 0, 0) [.ref a0, .int x1, .int x2, .int x3, .int x4] n M (poI r n) := by
  refine ctC_of (by decide) (Nat.le_of_ble_eq_true rfl) ?_
  show ctV B mX7_isWordAt (0, 0, 0) (poI r n) 0 [some (.ref a0), some (.int x1), some (.int x2), some (.int x3), some (.int x4), none] [] (0, 0) n M
  unfold fX7_isWordAt at h
  refine ct_iload_4 (q := 2) dX7_isWordAt_0 rfl ?_
  refine ct_if_ne (q := 5) (tgt := 9) dX7_isWordAt_2 (by decide) rfl (fun z21 => ?_) (fun z21 => ?_)
  · replace h := it_f h z21
    refine ct_iconst (v := 4) (q := 10) dX7_isWordAt_9 (by decide) rfl ?_
    exact ct_lessK (vX7_isWordAt_b10 hB  a0 x1 x2 x3 x4 4 M r h) (And.intro rfl (And.intro rfl (And.intro rfl (And.intro rfl (And.intro rfl (trivial))))))
  · replace h := it_t h z21
    refine ct_iconst (v := 3) (q := 6) dX7_isWordAt_5 (by decide) rfl ?_
    refine ct_goto (q := 10) dX7_isWordAt_6 (by decide) ?_
    exact ct_lessK (vX7_isWordAt_b10 hB  a0 x1 x2 x3 x4 3 M r h) (And.intro rfl (And.intro rfl (And.intro rfl (And.intro rfl (And.intro rfl (trivial))))))

def fX7_key (a0 : Nat) (M : ctM) : Option (Int32 × ctM) :=
  (cV kdM 7 a0 (fX7_isWordAt a0 112 97 99 101 M)).bind fun r21 =>
  if r21.1 = 0 then
    (cV kdM 7 a0 (fX7_isWordAt a0 106 111 105 110 r21.2)).bind fun r23 =>
    if r23.1 = 0 then
      (cV kdM 7 a0 (fX7_isWordAt a0 119 105 110 100 r23.2)).bind fun r25 =>
      if r25.1 = 0 then
        some ((-1), r25.2)
      else
        some (2, r25.2)
    else
      some (1, r23.2)
  else
    some (0, r21.2)

set_option maxHeartbeats 4000000 in
set_option maxRecDepth 20000 in
theorem ctX7_key {B : ctB} {n : Nat} (hB : ctOk B kdM lnM n) {a0 : Nat} {M : ctM} {r : Int32 × ctM} (h : fX7_key a0 M = some r) : ctC B mX7_key (1, 0, 0) [.ref a0] n M (poI r n) := by
  refine ctC_of (by decide) (Nat.le_of_ble_eq_true rfl) ?_
  show ctV B mX7_key (1, 0, 0) (poI r n) 0 [some (.ref a0)] [] (0, 0) n M
  unfold fX7_key at h
  refine ct_aload_0 (q := 1) dX7_key_0 rfl ?_
  refine ct_bipush (v := 112) (q := 3) dX7_key_1 (by decide) rfl ?_
  refine ct_bipush (v := 97) (q := 5) dX7_key_3 (by decide) rfl ?_
  refine ct_bipush (v := 99) (q := 7) dX7_key_5 (by decide) rfl ?_
  refine ct_bipush (v := 101) (q := 9) dX7_key_7 (by decide) rfl ?_
  obtain ⟨r21, gr21, h⟩ := ob h
  obtain ⟨er21, gr21⟩ := cV_spec gr21
  refine ct_cVi4 (q := 12) hB dX7_key_9 lk_RX7_241 (by decide) (ctX7_isWordAt hB gr21) er21 (by decide) rfl (Nat.le_of_ble_eq_true rfl) rfl ?_
  refine ct_if_eq (q := 15) (tgt := 17) dX7_key_12 (by decide) rfl (fun z22 => ?_) (fun z22 => ?_)
  · replace h := it_t h z22
    refine ct_aload_0 (q := 18) dX7_key_17 rfl ?_
    refine ct_bipush (v := 106) (q := 20) dX7_key_18 (by decide) rfl ?_
    refine ct_bipush (v := 111) (q := 22) dX7_key_20 (by decide) rfl ?_
    refine ct_bipush (v := 105) (q := 24) dX7_key_22 (by decide) rfl ?_
    refine ct_bipush (v := 110) (q := 26) dX7_key_24 (by decide) rfl ?_
    obtain ⟨r23, gr23, h⟩ := ob h
    obtain ⟨er23, gr23⟩ := cV_spec gr23
    refine ct_cVi4 (q := 29) hB dX7_key_26 lk_RX7_241 (by decide) (ctX7_isWordAt hB gr23) er23 (by decide) rfl (Nat.le_of_ble_eq_true rfl) rfl ?_
    refine ct_if_eq (q := 32) (tgt := 34) dX7_key_29 (by decide) rfl (fun z24 => ?_) (fun z24 => ?_)
    · replace h := it_t h z24
      refine ct_aload_0 (q := 35) dX7_key_34 rfl ?_
      refine ct_bipush (v := 119) (q := 37) dX7_key_35 (by decide) rfl ?_
      refine ct_bipush (v := 105) (q := 39) dX7_key_37 (by decide) rfl ?_
      refine ct_bipush (v := 110) (q := 41) dX7_key_39 (by decide) rfl ?_
      refine ct_bipush (v := 100) (q := 43) dX7_key_41 (by decide) rfl ?_
      obtain ⟨r25, gr25, h⟩ := ob h
      obtain ⟨er25, gr25⟩ := cV_spec gr25
      refine ct_cVi4 (q := 46) hB dX7_key_43 lk_RX7_241 (by decide) (ctX7_isWordAt hB gr25) er25 (by decide) rfl (Nat.le_of_ble_eq_true rfl) rfl ?_
      refine ct_if_eq (q := 49) (tgt := 53) dX7_key_46 (by decide) rfl (fun z26 => ?_) (fun z26 => ?_)
      · replace h := it_t h z26
        refine ct_iconst (v := -1) (q := 54) dX7_key_53 (by decide) rfl ?_
        exact ct_iret dX7_key_54 rfl ⟨Nat.le_refl 0, Nat.le_refl 0⟩ (poI_of h)
      · replace h := it_f h z26
        refine ct_iconst (v := 2) (q := 50) dX7_key_49 (by decide) rfl ?_
        refine ct_goto (q := 54) dX7_key_50 (by decide) ?_
        exact ct_iret dX7_key_54 rfl ⟨Nat.le_refl 0, Nat.le_refl 0⟩ (poI_of h)
    · replace h := it_f h z24
      refine ct_iconst (v := 1) (q := 33) dX7_key_32 (by decide) rfl ?_
      exact ct_iret dX7_key_33 rfl ⟨Nat.le_refl 0, Nat.le_refl 0⟩ (poI_of h)
  · replace h := it_f h z22
    refine ct_iconst (v := 0) (q := 16) dX7_key_15 (by decide) rfl ?_
    exact ct_iret dX7_key_16 rfl ⟨Nat.le_refl 0, Nat.le_refl 0⟩ (poI_of h)

def fX7_isName_b82 (M : ctM) : Option (Int32 × ctM) :=
  some (1, M)

set_option maxHeartbeats 4000000 in
set_option maxRecDepth 20000 in
theorem vX7_isName_b82 {B : ctB} {n : Nat} (hB : ctOk B kdM lnM n) : ∀  (M : ctM) (r : Int32 × ctM), fX7_isName_b82  M = some r → ctV B mX7_isName (0, 0, 0) (poI r n) 82 [none, none] [] (0, 0) n M := by
  intro  M r h
  unfold fX7_isName_b82 at h
  refine ct_iconst (v := 1) (q := 83) dX7_isName_82 (by decide) rfl ?_
  refine ct_goto (q := 87) dX7_isName_83 (by decide) ?_
  exact ct_zret dX7_isName_87 rfl (by decide) ⟨Nat.le_refl 0, Nat.le_refl 0⟩ (poI_of h)

def fX7_isName_b64 (M : ctM) : Option (Int32 × ctM) :=
  some (1, M)

set_option maxHeartbeats 4000000 in
set_option maxRecDepth 20000 in
theorem vX7_isName_b64 {B : ctB} {n : Nat} (hB : ctOk B kdM lnM n) : ∀  (M : ctM) (r : Int32 × ctM), fX7_isName_b64  M = some r → ctV B mX7_isName (0, 0, 0) (poI r n) 64 [none, none] [] (0, 0) n M := by
  intro  M r h
  unfold fX7_isName_b64 at h
  refine ct_iconst (v := 1) (q := 65) dX7_isName_64 (by decide) rfl ?_
  refine ct_goto (q := 69) dX7_isName_65 (by decide) ?_
  exact ct_zret dX7_isName_69 rfl (by decide) ⟨Nat.le_refl 0, Nat.le_refl 0⟩ (poI_of h)

def fX7_isName_b40 (M : ctM) : Option (Int32 × ctM) :=
  some (1, M)

set_option maxHeartbeats 4000000 in
set_option maxRecDepth 20000 in
theorem vX7_isName_b40 {B : ctB} {n : Nat} (hB : ctOk B kdM lnM n) : ∀  (M : ctM) (r : Int32 × ctM), fX7_isName_b40  M = some r → ctV B mX7_isName (0, 0, 0) (poI r n) 40 [none, none] [] (0, 0) n M := by
  intro  M r h
  unfold fX7_isName_b40 at h
  refine ct_iconst (v := 1) (q := 41) dX7_isName_40 (by decide) rfl ?_
  refine ct_goto (q := 45) dX7_isName_41 (by decide) ?_
  exact ct_zret dX7_isName_45 rfl (by decide) ⟨Nat.le_refl 0, Nat.le_refl 0⟩ (poI_of h)

def fX7_isName (x0 : Int32) (x1 : Int32) (M : ctM) : Option (Int32 × ctM) :=
  if x0 = 0 then
    if x1 = 115 then
      fX7_isName_b40 M
    else
      if x1 = 110 then
        fX7_isName_b40 M
      else
        some (0, M)
  else
  if x0 = 1 then
    if x1 = 100 then
      fX7_isName_b64 M
    else
      if x1 = 112 then
        fX7_isName_b64 M
      else
        if x1 = 115 then
          fX7_isName_b64 M
        else
          some (0, M)
  else
    if x1 = 116 then
      fX7_isName_b82 M
    else
      if x1 = 110 then
        fX7_isName_b82 M
      else
        some (0, M)

set_option maxHeartbeats 4000000 in
set_option maxRecDepth 20000 in
theorem ctX7_isName {B : ctB} {n : Nat} (hB : ctOk B kdM lnM n) {x0 : Int32} {x1 : Int32} {M : ctM} {r : Int32 × ctM} (h : fX7_isName x0 x1 M = some r) : ctC B mX7_isName (0, 0, 0) [.int x0, .int x1] n M (poI r n) := by
  refine ctC_of (by decide) (Nat.le_of_ble_eq_true rfl) ?_
  show ctV B mX7_isName (0, 0, 0) (poI r n) 0 [some (.int x0), some (.int x1)] [] (0, 0) n M
  unfold fX7_isName at h
  refine ct_iload_0 (q := 1) dX7_isName_0 rfl ?_
  by_cases z21 : x0 = 0
  · replace h := it_t h z21
    refine ct_lsw (q := 28) (off := 27) dX7_isName_1 (by decide) (by rw [z21] <;> rfl) (by decide) ?_
    refine ct_iload_1 (q := 29) dX7_isName_28 rfl ?_
    refine ct_bipush (v := 115) (q := 31) dX7_isName_29 (by decide) rfl ?_
    refine ct_icmp_eq (q := 34) (tgt := 40) dX7_isName_31 (by decide) rfl (fun z22 => ?_) (fun z22 => ?_)
    · replace h := it_t h z22
      exact ct_lessK (vX7_isName_b40 hB   M r h) (trivial)
    · replace h := it_f h z22
      refine ct_iload_1 (q := 35) dX7_isName_34 rfl ?_
      refine ct_bipush (v := 110) (q := 37) dX7_isName_35 (by decide) rfl ?_
      refine ct_icmp_ne (q := 40) (tgt := 44) dX7_isName_37 (by decide) rfl (fun z23 => ?_) (fun z23 => ?_)
      · replace h := it_f h z23
        refine ct_iconst (v := 0) (q := 45) dX7_isName_44 (by decide) rfl ?_
        exact ct_zret dX7_isName_45 rfl (by decide) ⟨Nat.le_refl 0, Nat.le_refl 0⟩ (poI_of h)
      · replace h := it_t h z23
        exact ct_lessK (vX7_isName_b40 hB   M r h) (trivial)
  replace h := it_f h z21
  by_cases z24 : x0 = 1
  · replace h := it_t h z24
    refine ct_lsw (q := 46) (off := 45) dX7_isName_1 (by decide) (by rw [z24] <;> rfl) (by decide) ?_
    refine ct_iload_1 (q := 47) dX7_isName_46 rfl ?_
    refine ct_bipush (v := 100) (q := 49) dX7_isName_47 (by decide) rfl ?_
    refine ct_icmp_eq (q := 52) (tgt := 64) dX7_isName_49 (by decide) rfl (fun z25 => ?_) (fun z25 => ?_)
    · replace h := it_t h z25
      exact ct_lessK (vX7_isName_b64 hB   M r h) (trivial)
    · replace h := it_f h z25
      refine ct_iload_1 (q := 53) dX7_isName_52 rfl ?_
      refine ct_bipush (v := 112) (q := 55) dX7_isName_53 (by decide) rfl ?_
      refine ct_icmp_eq (q := 58) (tgt := 64) dX7_isName_55 (by decide) rfl (fun z26 => ?_) (fun z26 => ?_)
      · replace h := it_t h z26
        exact ct_lessK (vX7_isName_b64 hB   M r h) (trivial)
      · replace h := it_f h z26
        refine ct_iload_1 (q := 59) dX7_isName_58 rfl ?_
        refine ct_bipush (v := 115) (q := 61) dX7_isName_59 (by decide) rfl ?_
        refine ct_icmp_ne (q := 64) (tgt := 68) dX7_isName_61 (by decide) rfl (fun z27 => ?_) (fun z27 => ?_)
        · replace h := it_f h z27
          refine ct_iconst (v := 0) (q := 69) dX7_isName_68 (by decide) rfl ?_
          exact ct_zret dX7_isName_69 rfl (by decide) ⟨Nat.le_refl 0, Nat.le_refl 0⟩ (poI_of h)
        · replace h := it_t h z27
          exact ct_lessK (vX7_isName_b64 hB   M r h) (trivial)
  replace h := it_f h z24
  refine ct_lsw (q := 70) (off := 69) dX7_isName_1 (by decide) (by show Op.lookupswitch.offset [(0, 27), (1, 45)] 69 _ = _; rw [lv_osw z21 (show Int32.toInt (0) = 0 by decide), lv_osw z24 (show Int32.toInt (1) = 1 by decide)]; rfl) (by decide) ?_
  refine ct_iload_1 (q := 71) dX7_isName_70 rfl ?_
  refine ct_bipush (v := 116) (q := 73) dX7_isName_71 (by decide) rfl ?_
  refine ct_icmp_eq (q := 76) (tgt := 82) dX7_isName_73 (by decide) rfl (fun z28 => ?_) (fun z28 => ?_)
  · replace h := it_t h z28
    exact ct_lessK (vX7_isName_b82 hB   M r h) (trivial)
  · replace h := it_f h z28
    refine ct_iload_1 (q := 77) dX7_isName_76 rfl ?_
    refine ct_bipush (v := 110) (q := 79) dX7_isName_77 (by decide) rfl ?_
    refine ct_icmp_ne (q := 82) (tgt := 86) dX7_isName_79 (by decide) rfl (fun z29 => ?_) (fun z29 => ?_)
    · replace h := it_f h z29
      refine ct_iconst (v := 0) (q := 87) dX7_isName_86 (by decide) rfl ?_
      exact ct_zret dX7_isName_87 rfl (by decide) ⟨Nat.le_refl 0, Nat.le_refl 0⟩ (poI_of h)
    · replace h := it_t h z29
      exact ct_lessK (vX7_isName_b82 hB   M r h) (trivial)

def fX7_step (a0 : Nat) (x1 : Int32) (x2 : Int32) (M : ctM) : Option (ctM) :=
  (gP kdM 7 0 a0 M).bind fun a21 =>
  (gI kdM 7 27 a0 M).bind fun x22 =>
  (gI kdM 7 26 a0 M).bind fun x23 =>
  (sI kdM lnM 9 a21 (x22 + (2 * x23)) x1 M).bind fun M24 =>
  (gP kdM 7 0 a0 M24).bind fun a25 =>
  (gI kdM 7 27 a0 M24).bind fun x26 =>
  (gI kdM 7 26 a0 M24).bind fun x27 =>
  (sI kdM lnM 9 a25 ((x26 + (2 * x27)) + 1) x2 M24).bind fun M28 =>
  (gI kdM 7 26 a0 M28).bind fun x29 =>
  (pI kdM 7 26 a0 (x29 + 1) M28).bind fun M30 =>
  some M30

set_option maxHeartbeats 4000000 in
set_option maxRecDepth 20000 in
theorem ctX7_step {B : ctB} {n : Nat} (hB : ctOk B kdM lnM n) {a0 : Nat} {x1 : Int32} {x2 : Int32} {M : ctM} {r : ctM} (h : fX7_step a0 x1 x2 M = some r) : ctC B mX7_step (0, 0, 0) [.ref a0, .int x1, .int x2] n M (poV r n) := by
  refine ctC_of (by decide) (Nat.le_of_ble_eq_true rfl) ?_
  show ctV B mX7_step (0, 0, 0) (poV r n) 0 [some (.ref a0), some (.int x1), some (.int x2)] [] (0, 0) n M
  unfold fX7_step at h
  refine ct_aload_0 (q := 1) dX7_step_0 rfl ?_
  obtain ⟨a21, ga21, h⟩ := ob h
  refine ct_getP (q := 4) hB dX7_step_1 fl_RX7_7 rfl ga21 rfl ?_
  refine ct_aload_0 (q := 5) dX7_step_4 rfl ?_
  obtain ⟨x22, gx22, h⟩ := ob h
  refine ct_getI (q := 8) hB dX7_step_5 fl_RX7_245 rfl gx22 rfl ?_
  refine ct_iconst (v := 2) (q := 9) dX7_step_8 (by decide) rfl ?_
  refine ct_aload_0 (q := 10) dX7_step_9 rfl ?_
  obtain ⟨x23, gx23, h⟩ := ob h
  refine ct_getI (q := 13) hB dX7_step_10 fl_RX7_248 rfl gx23 rfl ?_
  refine ct_imul (q := 14) dX7_step_13 rfl ?_
  refine ct_iadd (q := 15) dX7_step_14 rfl ?_
  refine ct_iload_1 (q := 16) dX7_step_15 rfl ?_
  obtain ⟨M24, gM24, h⟩ := ob h
  refine ct_iast (q := 17) hB dX7_step_16 gM24 rfl ?_
  refine ct_aload_0 (q := 18) dX7_step_17 rfl ?_
  obtain ⟨a25, ga25, h⟩ := ob h
  refine ct_getP (q := 21) hB dX7_step_18 fl_RX7_7 rfl ga25 rfl ?_
  refine ct_aload_0 (q := 22) dX7_step_21 rfl ?_
  obtain ⟨x26, gx26, h⟩ := ob h
  refine ct_getI (q := 25) hB dX7_step_22 fl_RX7_245 rfl gx26 rfl ?_
  refine ct_iconst (v := 2) (q := 26) dX7_step_25 (by decide) rfl ?_
  refine ct_aload_0 (q := 27) dX7_step_26 rfl ?_
  obtain ⟨x27, gx27, h⟩ := ob h
  refine ct_getI (q := 30) hB dX7_step_27 fl_RX7_248 rfl gx27 rfl ?_
  refine ct_imul (q := 31) dX7_step_30 rfl ?_
  refine ct_iadd (q := 32) dX7_step_31 rfl ?_
  refine ct_iconst (v := 1) (q := 33) dX7_step_32 (by decide) rfl ?_
  refine ct_iadd (q := 34) dX7_step_33 rfl ?_
  refine ct_iload_2 (q := 35) dX7_step_34 rfl ?_
  obtain ⟨M28, gM28, h⟩ := ob h
  refine ct_iast (q := 36) hB dX7_step_35 gM28 rfl ?_
  refine ct_aload_0 (q := 37) dX7_step_36 rfl ?_
  refine ct_dup (q := 38) dX7_step_37 rfl rfl ?_
  obtain ⟨x29, gx29, h⟩ := ob h
  refine ct_getI (q := 41) hB dX7_step_38 fl_RX7_248 rfl gx29 rfl ?_
  refine ct_iconst (v := 1) (q := 42) dX7_step_41 (by decide) rfl ?_
  refine ct_iadd (q := 43) dX7_step_42 rfl ?_
  obtain ⟨M30, gM30, h⟩ := ob h
  refine ct_putI (q := 46) hB dX7_step_43 fl_RX7_248 rfl rfl (Or.inl rfl) gM30 rfl ?_
  exact ct_vret dX7_step_46 rfl ⟨Nat.le_refl 0, Nat.le_refl 0⟩ (poV_of h)

def fX7_either_h10 (F : Nat → Nat → Int32 → Int32 → Int32 → ctM → Option (Int32 × ctM)) : Nat → Nat → Int32 → ctM → Option (Int32 × ctM)
  | 0, _, _, _ => none
  | N + 1, a0, x1, M =>
    (cV kdM 7 a0 (fX7_isSign a0 124 M)).bind fun r21 =>
    if r21.1 = 0 then
      some (1, r21.2)
    else
      (cV kdM 7 a0 (fX7_nextToken a0 r21.2)).bind fun r23 =>
      (cV kdM 7 a0 (F 1 a0 x1 0 0 r23)).bind fun r24 =>
      if r24.1 = 0 then
        some (0, r24.2)
      else
        (cV kdM 7 a0 (fX7_step a0 2 124 r24.2)).bind fun r26 =>
        fX7_either_h10 F N a0 x1 r26

set_option maxHeartbeats 4000000 in
set_option maxRecDepth 20000 in
theorem vX7_either_h10 {B : ctB} {n : Nat} (hB : ctOk B kdM lnM n) {lv lw : Nat} {F : Nat → Nat → Int32 → Int32 → Int32 → ctM → Option (Int32 × ctM)} (hb : 3 ≤ lv) (hlv : lw + 1 ≤ lv) (hF0 : ∀ (a : Nat) (x y w : Int32) (M : ctM) (r : Int32 × ctM), F 0 a x y w M = some r → ctC B mX7_either (lw, 0, 0) [.ref a, .int x] n M (poI r n)) (hF1 : ∀ (a : Nat) (x y w : Int32) (M : ctM) (r : Int32 × ctM), F 1 a x y w M = some r → ctC B mX7_both (lw, 0, 0) [.ref a, .int x] n M (poI r n)) (hF2 : ∀ (a : Nat) (x y w : Int32) (M : ctM) (r : Int32 × ctM), F 2 a x y w M = some r → ctC B mX7_test (lw, 0, 0) [.ref a, .int x] n M (poI r n)) (hF3 : ∀ (a : Nat) (x y w : Int32) (M : ctM) (r : Int32 × ctM), F 3 a x y w M = some r → ctC B mX7_sum (lw, 0, 0) [.ref a, .int x] n M (poI r n)) (hF4 : ∀ (a : Nat) (x y w : Int32) (M : ctM) (r : Int32 × ctM), F 4 a x y w M = some r → ctC B mX7_term (lw, 0, 0) [.ref a, .int x] n M (poI r n)) (hF5 : ∀ (a : Nat) (x y w : Int32) (M : ctM) (r : Int32 × ctM), F 5 a x y w M = some r → ctC B mX7_part0 (lw, 0, 0) [.ref a, .int x] n M (poI r n)) : ∀ (N : Nat) (a0 : Nat) (x1 : Int32) (M : ctM) (r : Int32 × ctM), fX7_either_h10 F N a0 x1 M = some r → ctV B mX7_either (lv, 0, 0) (poI r n) 10 [some (.ref a0), some (.int x1)] [] (0, 0) n M := by
  intro N
  induction N with
  | zero => intro a0 x1 M r h; exact absurd h (by simp [fX7_either_h10])
  | succ N ih =>
    intro a0 x1 M r h
    rw [fX7_either_h10] at h
    refine ct_aload_0 (q := 11) dX7_either_10 rfl ?_
    refine ct_bipush (v := 124) (q := 13) dX7_either_11 (by decide) rfl ?_
    obtain ⟨r21, gr21, h⟩ := ob h
    obtain ⟨er21, gr21⟩ := cV_spec gr21
    refine ct_cVi1 (q := 16) hB dX7_either_13 lk_RX7_254 (Nat.le_trans (by decide : _ ≤ 3) hb) (ctX7_isSign hB gr21) er21 (by decide) rfl (Nat.le_of_ble_eq_true rfl) rfl ?_
    refine ct_if_eq (q := 19) (tgt := 43) dX7_either_16 (by decide) rfl (fun z22 => ?_) (fun z22 => ?_)
    · replace h := it_t h z22
      refine ct_iconst (v := 1) (q := 44) dX7_either_43 (by decide) rfl ?_
      exact ct_zret dX7_either_44 rfl (by decide) ⟨Nat.le_refl 0, Nat.le_refl 0⟩ (poI_of h)
    · replace h := it_f h z22
      refine ct_aload_0 (q := 20) dX7_either_19 rfl ?_
      obtain ⟨r23, gr23, h⟩ := ob h
      obtain ⟨er23, gr23⟩ := cV_spec gr23
      refine ct_cVv0 (q := 23) hB dX7_either_20 lk_RX7_257 (Nat.le_trans (by decide : _ ≤ 3) hb) (ctX7_nextToken hB gr23) er23 (by decide) rfl (Nat.le_of_ble_eq_true rfl) rfl ?_
      refine ct_aload_0 (q := 24) dX7_either_23 rfl ?_
      refine ct_iload_1 (q := 25) dX7_either_24 rfl ?_
      obtain ⟨r24, gr24, h⟩ := ob h
      obtain ⟨er24, gr24⟩ := cV_spec gr24
      refine ct_cVi1 (q := 28) hB dX7_either_25 lk_RX7_251 hlv (hF1 _ _ _ _ _ _ gr24) er24 (by decide) rfl (Nat.le_of_ble_eq_true rfl) rfl ?_
      refine ct_if_ne (q := 31) (tgt := 33) dX7_either_28 (by decide) rfl (fun z25 => ?_) (fun z25 => ?_)
      · replace h := it_f h z25
        refine ct_aload_0 (q := 34) dX7_either_33 rfl ?_
        refine ct_iconst (v := 2) (q := 35) dX7_either_34 (by decide) rfl ?_
        refine ct_bipush (v := 124) (q := 37) dX7_either_35 (by decide) rfl ?_
        obtain ⟨r26, gr26, h⟩ := ob h
        obtain ⟨er26, gr26⟩ := cV_spec gr26
        refine ct_cVv2 (q := 40) hB dX7_either_37 lk_RX7_260 (Nat.le_trans (by decide : _ ≤ 3) hb) (ctX7_step hB gr26) er26 (by decide) rfl (Nat.le_of_ble_eq_true rfl) rfl ?_
        refine ct_goto (q := 10) dX7_either_40 (by decide) ?_
        exact ct_lessK (ih a0 x1 r26 r h) (And.intro rfl (And.intro rfl (trivial)))
      · replace h := it_t h z25
        refine ct_iconst (v := 0) (q := 32) dX7_either_31 (by decide) rfl ?_
        exact ct_zret dX7_either_32 rfl (by decide) ⟨Nat.le_refl 0, Nat.le_refl 0⟩ (poI_of h)

def fX7_either (F : Nat → Nat → Int32 → Int32 → Int32 → ctM → Option (Int32 × ctM)) (a0 : Nat) (x1 : Int32) (M : ctM) : Option (Int32 × ctM) :=
  (cV kdM 7 a0 (F 1 a0 x1 0 0 M)).bind fun r21 =>
  if r21.1 = 0 then
    some (0, r21.2)
  else
    fX7_either_h10 F 4000 a0 x1 r21.2

set_option maxHeartbeats 4000000 in
set_option maxRecDepth 20000 in
theorem ctX7_either {B : ctB} {n : Nat} (hB : ctOk B kdM lnM n) {lv lw : Nat} {F : Nat → Nat → Int32 → Int32 → Int32 → ctM → Option (Int32 × ctM)} (hb : 3 ≤ lv) (hlv : lw + 1 ≤ lv) (hF0 : ∀ (a : Nat) (x y w : Int32) (M : ctM) (r : Int32 × ctM), F 0 a x y w M = some r → ctC B mX7_either (lw, 0, 0) [.ref a, .int x] n M (poI r n)) (hF1 : ∀ (a : Nat) (x y w : Int32) (M : ctM) (r : Int32 × ctM), F 1 a x y w M = some r → ctC B mX7_both (lw, 0, 0) [.ref a, .int x] n M (poI r n)) (hF2 : ∀ (a : Nat) (x y w : Int32) (M : ctM) (r : Int32 × ctM), F 2 a x y w M = some r → ctC B mX7_test (lw, 0, 0) [.ref a, .int x] n M (poI r n)) (hF3 : ∀ (a : Nat) (x y w : Int32) (M : ctM) (r : Int32 × ctM), F 3 a x y w M = some r → ctC B mX7_sum (lw, 0, 0) [.ref a, .int x] n M (poI r n)) (hF4 : ∀ (a : Nat) (x y w : Int32) (M : ctM) (r : Int32 × ctM), F 4 a x y w M = some r → ctC B mX7_term (lw, 0, 0) [.ref a, .int x] n M (poI r n)) (hF5 : ∀ (a : Nat) (x y w : Int32) (M : ctM) (r : Int32 × ctM), F 5 a x y w M = some r → ctC B mX7_part0 (lw, 0, 0) [.ref a, .int x] n M (poI r n)) {a0 : Nat} {x1 : Int32} {M : ctM} {r : Int32 × ctM} (h : fX7_either F a0 x1 M = some r) : ctC B mX7_either (lv, 0, 0) [.ref a0, .int x1] n M (poI r n) := by
  refine ctC_of (by decide) (Nat.le_of_ble_eq_true rfl) ?_
  show ctV B mX7_either (lv, 0, 0) (poI r n) 0 [some (.ref a0), some (.int x1)] [] (0, 0) n M
  unfold fX7_either at h
  refine ct_aload_0 (q := 1) dX7_either_0 rfl ?_
  refine ct_iload_1 (q := 2) dX7_either_1 rfl ?_
  obtain ⟨r21, gr21, h⟩ := ob h
  obtain ⟨er21, gr21⟩ := cV_spec gr21
  refine ct_cVi1 (q := 5) hB dX7_either_2 lk_RX7_251 hlv (hF1 _ _ _ _ _ _ gr21) er21 (by decide) rfl (Nat.le_of_ble_eq_true rfl) rfl ?_
  refine ct_if_ne (q := 8) (tgt := 10) dX7_either_5 (by decide) rfl (fun z22 => ?_) (fun z22 => ?_)
  · replace h := it_f h z22
    exact ct_lessK (vX7_either_h10 hB hb hlv hF0 hF1 hF2 hF3 hF4 hF5  4000 a0 x1 r21.2 r h) (And.intro rfl (And.intro rfl (trivial)))
  · replace h := it_t h z22
    refine ct_iconst (v := 0) (q := 9) dX7_either_8 (by decide) rfl ?_
    exact ct_zret dX7_either_9 rfl (by decide) ⟨Nat.le_refl 0, Nat.le_refl 0⟩ (poI_of h)

def fX7_both_h10 (F : Nat → Nat → Int32 → Int32 → Int32 → ctM → Option (Int32 × ctM)) : Nat → Nat → Int32 → ctM → Option (Int32 × ctM)
  | 0, _, _, _ => none
  | N + 1, a0, x1, M =>
    (cV kdM 7 a0 (fX7_isSign a0 38 M)).bind fun r21 =>
    if r21.1 = 0 then
      some (1, r21.2)
    else
      (cV kdM 7 a0 (fX7_nextToken a0 r21.2)).bind fun r23 =>
      (cV kdM 7 a0 (F 2 a0 x1 0 0 r23)).bind fun r24 =>
      if r24.1 = 0 then
        some (0, r24.2)
      else
        (cV kdM 7 a0 (fX7_step a0 2 38 r24.2)).bind fun r26 =>
        fX7_both_h10 F N a0 x1 r26

set_option maxHeartbeats 4000000 in
set_option maxRecDepth 20000 in
theorem vX7_both_h10 {B : ctB} {n : Nat} (hB : ctOk B kdM lnM n) {lv lw : Nat} {F : Nat → Nat → Int32 → Int32 → Int32 → ctM → Option (Int32 × ctM)} (hb : 3 ≤ lv) (hlv : lw + 1 ≤ lv) (hF0 : ∀ (a : Nat) (x y w : Int32) (M : ctM) (r : Int32 × ctM), F 0 a x y w M = some r → ctC B mX7_either (lw, 0, 0) [.ref a, .int x] n M (poI r n)) (hF1 : ∀ (a : Nat) (x y w : Int32) (M : ctM) (r : Int32 × ctM), F 1 a x y w M = some r → ctC B mX7_both (lw, 0, 0) [.ref a, .int x] n M (poI r n)) (hF2 : ∀ (a : Nat) (x y w : Int32) (M : ctM) (r : Int32 × ctM), F 2 a x y w M = some r → ctC B mX7_test (lw, 0, 0) [.ref a, .int x] n M (poI r n)) (hF3 : ∀ (a : Nat) (x y w : Int32) (M : ctM) (r : Int32 × ctM), F 3 a x y w M = some r → ctC B mX7_sum (lw, 0, 0) [.ref a, .int x] n M (poI r n)) (hF4 : ∀ (a : Nat) (x y w : Int32) (M : ctM) (r : Int32 × ctM), F 4 a x y w M = some r → ctC B mX7_term (lw, 0, 0) [.ref a, .int x] n M (poI r n)) (hF5 : ∀ (a : Nat) (x y w : Int32) (M : ctM) (r : Int32 × ctM), F 5 a x y w M = some r → ctC B mX7_part0 (lw, 0, 0) [.ref a, .int x] n M (poI r n)) : ∀ (N : Nat) (a0 : Nat) (x1 : Int32) (M : ctM) (r : Int32 × ctM), fX7_both_h10 F N a0 x1 M = some r → ctV B mX7_both (lv, 0, 0) (poI r n) 10 [some (.ref a0), some (.int x1)] [] (0, 0) n M := by
  intro N
  induction N with
  | zero => intro a0 x1 M r h; exact absurd h (by simp [fX7_both_h10])
  | succ N ih =>
    intro a0 x1 M r h
    rw [fX7_both_h10] at h
    refine ct_aload_0 (q := 11) dX7_both_10 rfl ?_
    refine ct_bipush (v := 38) (q := 13) dX7_both_11 (by decide) rfl ?_
    obtain ⟨r21, gr21, h⟩ := ob h
    obtain ⟨er21, gr21⟩ := cV_spec gr21
    refine ct_cVi1 (q := 16) hB dX7_both_13 lk_RX7_254 (Nat.le_trans (by decide : _ ≤ 3) hb) (ctX7_isSign hB gr21) er21 (by decide) rfl (Nat.le_of_ble_eq_true rfl) rfl ?_
    refine ct_if_eq (q := 19) (tgt := 43) dX7_both_16 (by decide) rfl (fun z22 => ?_) (fun z22 => ?_)
    · replace h := it_t h z22
      refine ct_iconst (v := 1) (q := 44) dX7_both_43 (by decide) rfl ?_
      exact ct_zret dX7_both_44 rfl (by decide) ⟨Nat.le_refl 0, Nat.le_refl 0⟩ (poI_of h)
    · replace h := it_f h z22
      refine ct_aload_0 (q := 20) dX7_both_19 rfl ?_
      obtain ⟨r23, gr23, h⟩ := ob h
      obtain ⟨er23, gr23⟩ := cV_spec gr23
      refine ct_cVv0 (q := 23) hB dX7_both_20 lk_RX7_257 (Nat.le_trans (by decide : _ ≤ 3) hb) (ctX7_nextToken hB gr23) er23 (by decide) rfl (Nat.le_of_ble_eq_true rfl) rfl ?_
      refine ct_aload_0 (q := 24) dX7_both_23 rfl ?_
      refine ct_iload_1 (q := 25) dX7_both_24 rfl ?_
      obtain ⟨r24, gr24, h⟩ := ob h
      obtain ⟨er24, gr24⟩ := cV_spec gr24
      refine ct_cVi1 (q := 28) hB dX7_both_25 lk_RX7_264 hlv (hF2 _ _ _ _ _ _ gr24) er24 (by decide) rfl (Nat.le_of_ble_eq_true rfl) rfl ?_
      refine ct_if_ne (q := 31) (tgt := 33) dX7_both_28 (by decide) rfl (fun z25 => ?_) (fun z25 => ?_)
      · replace h := it_f h z25
        refine ct_aload_0 (q := 34) dX7_both_33 rfl ?_
        refine ct_iconst (v := 2) (q := 35) dX7_both_34 (by decide) rfl ?_
        refine ct_bipush (v := 38) (q := 37) dX7_both_35 (by decide) rfl ?_
        obtain ⟨r26, gr26, h⟩ := ob h
        obtain ⟨er26, gr26⟩ := cV_spec gr26
        refine ct_cVv2 (q := 40) hB dX7_both_37 lk_RX7_260 (Nat.le_trans (by decide : _ ≤ 3) hb) (ctX7_step hB gr26) er26 (by decide) rfl (Nat.le_of_ble_eq_true rfl) rfl ?_
        refine ct_goto (q := 10) dX7_both_40 (by decide) ?_
        exact ct_lessK (ih a0 x1 r26 r h) (And.intro rfl (And.intro rfl (trivial)))
      · replace h := it_t h z25
        refine ct_iconst (v := 0) (q := 32) dX7_both_31 (by decide) rfl ?_
        exact ct_zret dX7_both_32 rfl (by decide) ⟨Nat.le_refl 0, Nat.le_refl 0⟩ (poI_of h)

def fX7_both (F : Nat → Nat → Int32 → Int32 → Int32 → ctM → Option (Int32 × ctM)) (a0 : Nat) (x1 : Int32) (M : ctM) : Option (Int32 × ctM) :=
  (cV kdM 7 a0 (F 2 a0 x1 0 0 M)).bind fun r21 =>
  if r21.1 = 0 then
    some (0, r21.2)
  else
    fX7_both_h10 F 4000 a0 x1 r21.2

set_option maxHeartbeats 4000000 in
set_option maxRecDepth 20000 in
theorem ctX7_both {B : ctB} {n : Nat} (hB : ctOk B kdM lnM n) {lv lw : Nat} {F : Nat → Nat → Int32 → Int32 → Int32 → ctM → Option (Int32 × ctM)} (hb : 3 ≤ lv) (hlv : lw + 1 ≤ lv) (hF0 : ∀ (a : Nat) (x y w : Int32) (M : ctM) (r : Int32 × ctM), F 0 a x y w M = some r → ctC B mX7_either (lw, 0, 0) [.ref a, .int x] n M (poI r n)) (hF1 : ∀ (a : Nat) (x y w : Int32) (M : ctM) (r : Int32 × ctM), F 1 a x y w M = some r → ctC B mX7_both (lw, 0, 0) [.ref a, .int x] n M (poI r n)) (hF2 : ∀ (a : Nat) (x y w : Int32) (M : ctM) (r : Int32 × ctM), F 2 a x y w M = some r → ctC B mX7_test (lw, 0, 0) [.ref a, .int x] n M (poI r n)) (hF3 : ∀ (a : Nat) (x y w : Int32) (M : ctM) (r : Int32 × ctM), F 3 a x y w M = some r → ctC B mX7_sum (lw, 0, 0) [.ref a, .int x] n M (poI r n)) (hF4 : ∀ (a : Nat) (x y w : Int32) (M : ctM) (r : Int32 × ctM), F 4 a x y w M = some r → ctC B mX7_term (lw, 0, 0) [.ref a, .int x] n M (poI r n)) (hF5 : ∀ (a : Nat) (x y w : Int32) (M : ctM) (r : Int32 × ctM), F 5 a x y w M = some r → ctC B mX7_part0 (lw, 0, 0) [.ref a, .int x] n M (poI r n)) {a0 : Nat} {x1 : Int32} {M : ctM} {r : Int32 × ctM} (h : fX7_both F a0 x1 M = some r) : ctC B mX7_both (lv, 0, 0) [.ref a0, .int x1] n M (poI r n) := by
  refine ctC_of (by decide) (Nat.le_of_ble_eq_true rfl) ?_
  show ctV B mX7_both (lv, 0, 0) (poI r n) 0 [some (.ref a0), some (.int x1)] [] (0, 0) n M
  unfold fX7_both at h
  refine ct_aload_0 (q := 1) dX7_both_0 rfl ?_
  refine ct_iload_1 (q := 2) dX7_both_1 rfl ?_
  obtain ⟨r21, gr21, h⟩ := ob h
  obtain ⟨er21, gr21⟩ := cV_spec gr21
  refine ct_cVi1 (q := 5) hB dX7_both_2 lk_RX7_264 hlv (hF2 _ _ _ _ _ _ gr21) er21 (by decide) rfl (Nat.le_of_ble_eq_true rfl) rfl ?_
  refine ct_if_ne (q := 8) (tgt := 10) dX7_both_5 (by decide) rfl (fun z22 => ?_) (fun z22 => ?_)
  · replace h := it_f h z22
    exact ct_lessK (vX7_both_h10 hB hb hlv hF0 hF1 hF2 hF3 hF4 hF5  4000 a0 x1 r21.2 r h) (And.intro rfl (And.intro rfl (trivial)))
  · replace h := it_t h z22
    refine ct_iconst (v := 0) (q := 9) dX7_both_8 (by decide) rfl ?_
    exact ct_zret dX7_both_9 rfl (by decide) ⟨Nat.le_refl 0, Nat.le_refl 0⟩ (poI_of h)

def fX7_test_b37 (F : Nat → Nat → Int32 → Int32 → Int32 → ctM → Option (Int32 × ctM)) (a0 : Nat) (x1 : Int32) (M : ctM) : Option (Int32 × ctM) :=
  (gI kdM 7 23 a0 M).bind fun x21 =>
  (cV kdM 7 a0 (fX7_nextToken a0 M)).bind fun r22 =>
  (cV kdM 7 a0 (F 3 a0 x1 0 0 r22)).bind fun r23 =>
  if r23.1 = 0 then
    some (0, r23.2)
  else
    (cV kdM 7 a0 (fX7_step a0 2 x21 r23.2)).bind fun r25 =>
    some (1, r25)

set_option maxHeartbeats 4000000 in
set_option maxRecDepth 20000 in
theorem vX7_test_b37 {B : ctB} {n : Nat} (hB : ctOk B kdM lnM n) {lv lw : Nat} {F : Nat → Nat → Int32 → Int32 → Int32 → ctM → Option (Int32 × ctM)} (hb : 3 ≤ lv) (hlv : lw + 1 ≤ lv) (hF0 : ∀ (a : Nat) (x y w : Int32) (M : ctM) (r : Int32 × ctM), F 0 a x y w M = some r → ctC B mX7_either (lw, 0, 0) [.ref a, .int x] n M (poI r n)) (hF1 : ∀ (a : Nat) (x y w : Int32) (M : ctM) (r : Int32 × ctM), F 1 a x y w M = some r → ctC B mX7_both (lw, 0, 0) [.ref a, .int x] n M (poI r n)) (hF2 : ∀ (a : Nat) (x y w : Int32) (M : ctM) (r : Int32 × ctM), F 2 a x y w M = some r → ctC B mX7_test (lw, 0, 0) [.ref a, .int x] n M (poI r n)) (hF3 : ∀ (a : Nat) (x y w : Int32) (M : ctM) (r : Int32 × ctM), F 3 a x y w M = some r → ctC B mX7_sum (lw, 0, 0) [.ref a, .int x] n M (poI r n)) (hF4 : ∀ (a : Nat) (x y w : Int32) (M : ctM) (r : Int32 × ctM), F 4 a x y w M = some r → ctC B mX7_term (lw, 0, 0) [.ref a, .int x] n M (poI r n)) (hF5 : ∀ (a : Nat) (x y w : Int32) (M : ctM) (r : Int32 × ctM), F 5 a x y w M = some r → ctC B mX7_part0 (lw, 0, 0) [.ref a, .int x] n M (poI r n)) : ∀ (a0 : Nat) (x1 : Int32) (M : ctM) (r : Int32 × ctM), fX7_test_b37 F a0 x1 M = some r → ctV B mX7_test (lv, 0, 0) (poI r n) 37 [some (.ref a0), some (.int x1), none] [] (0, 0) n M := by
  intro a0 x1 M r h
  unfold fX7_test_b37 at h
  refine ct_aload_0 (q := 38) dX7_test_37 rfl ?_
  obtain ⟨x21, gx21, h⟩ := ob h
  refine ct_getI (q := 41) hB dX7_test_38 fl_RX7_232 rfl gx21 rfl ?_
  refine ct_istore_2 (q := 42) dX7_test_41 (by decide) rfl rfl ?_
  refine ct_aload_0 (q := 43) dX7_test_42 rfl ?_
  obtain ⟨r22, gr22, h⟩ := ob h
  obtain ⟨er22, gr22⟩ := cV_spec gr22
  refine ct_cVv0 (q := 46) hB dX7_test_43 lk_RX7_257 (Nat.le_trans (by decide : _ ≤ 3) hb) (ctX7_nextToken hB gr22) er22 (by decide) rfl (Nat.le_of_ble_eq_true rfl) rfl ?_
  refine ct_aload_0 (q := 47) dX7_test_46 rfl ?_
  refine ct_iload_1 (q := 48) dX7_test_47 rfl ?_
  obtain ⟨r23, gr23, h⟩ := ob h
  obtain ⟨er23, gr23⟩ := cV_spec gr23
  refine ct_cVi1 (q := 51) hB dX7_test_48 lk_RX7_267 hlv (hF3 _ _ _ _ _ _ gr23) er23 (by decide) rfl (Nat.le_of_ble_eq_true rfl) rfl ?_
  refine ct_if_ne (q := 54) (tgt := 56) dX7_test_51 (by decide) rfl (fun z24 => ?_) (fun z24 => ?_)
  · replace h := it_f h z24
    refine ct_aload_0 (q := 57) dX7_test_56 rfl ?_
    refine ct_iconst (v := 2) (q := 58) dX7_test_57 (by decide) rfl ?_
    refine ct_iload_2 (q := 59) dX7_test_58 rfl ?_
    obtain ⟨r25, gr25, h⟩ := ob h
    obtain ⟨er25, gr25⟩ := cV_spec gr25
    refine ct_cVv2 (q := 62) hB dX7_test_59 lk_RX7_260 (Nat.le_trans (by decide : _ ≤ 3) hb) (ctX7_step hB gr25) er25 (by decide) rfl (Nat.le_of_ble_eq_true rfl) rfl ?_
    refine ct_iconst (v := 1) (q := 63) dX7_test_62 (by decide) rfl ?_
    exact ct_zret dX7_test_63 rfl (by decide) ⟨Nat.le_refl 0, Nat.le_refl 0⟩ (poI_of h)
  · replace h := it_t h z24
    refine ct_iconst (v := 0) (q := 55) dX7_test_54 (by decide) rfl ?_
    exact ct_zret dX7_test_55 rfl (by decide) ⟨Nat.le_refl 0, Nat.le_refl 0⟩ (poI_of h)

def fX7_test (F : Nat → Nat → Int32 → Int32 → Int32 → ctM → Option (Int32 × ctM)) (a0 : Nat) (x1 : Int32) (M : ctM) : Option (Int32 × ctM) :=
  (cV kdM 7 a0 (F 3 a0 x1 0 0 M)).bind fun r21 =>
  if r21.1 = 0 then
    some (0, r21.2)
  else
    (cV kdM 7 a0 (fX7_isSign a0 60 r21.2)).bind fun r23 =>
    if r23.1 = 0 then
      (cV kdM 7 a0 (fX7_isSign a0 61 r23.2)).bind fun r25 =>
      if r25.1 = 0 then
        (cV kdM 7 a0 (fX7_isSign a0 62 r25.2)).bind fun r27 =>
        if r27.1 = 0 then
          some (1, r27.2)
        else
          fX7_test_b37 F a0 x1 r27.2
      else
        fX7_test_b37 F a0 x1 r25.2
    else
      fX7_test_b37 F a0 x1 r23.2

set_option maxHeartbeats 4000000 in
set_option maxRecDepth 20000 in
theorem ctX7_test {B : ctB} {n : Nat} (hB : ctOk B kdM lnM n) {lv lw : Nat} {F : Nat → Nat → Int32 → Int32 → Int32 → ctM → Option (Int32 × ctM)} (hb : 3 ≤ lv) (hlv : lw + 1 ≤ lv) (hF0 : ∀ (a : Nat) (x y w : Int32) (M : ctM) (r : Int32 × ctM), F 0 a x y w M = some r → ctC B mX7_either (lw, 0, 0) [.ref a, .int x] n M (poI r n)) (hF1 : ∀ (a : Nat) (x y w : Int32) (M : ctM) (r : Int32 × ctM), F 1 a x y w M = some r → ctC B mX7_both (lw, 0, 0) [.ref a, .int x] n M (poI r n)) (hF2 : ∀ (a : Nat) (x y w : Int32) (M : ctM) (r : Int32 × ctM), F 2 a x y w M = some r → ctC B mX7_test (lw, 0, 0) [.ref a, .int x] n M (poI r n)) (hF3 : ∀ (a : Nat) (x y w : Int32) (M : ctM) (r : Int32 × ctM), F 3 a x y w M = some r → ctC B mX7_sum (lw, 0, 0) [.ref a, .int x] n M (poI r n)) (hF4 : ∀ (a : Nat) (x y w : Int32) (M : ctM) (r : Int32 × ctM), F 4 a x y w M = some r → ctC B mX7_term (lw, 0, 0) [.ref a, .int x] n M (poI r n)) (hF5 : ∀ (a : Nat) (x y w : Int32) (M : ctM) (r : Int32 × ctM), F 5 a x y w M = some r → ctC B mX7_part0 (lw, 0, 0) [.ref a, .int x] n M (poI r n)) {a0 : Nat} {x1 : Int32} {M : ctM} {r : Int32 × ctM} (h : fX7_test F a0 x1 M = some r) : ctC B mX7_test (lv, 0, 0) [.ref a0, .int x1] n M (poI r n) := by
  refine ctC_of (by decide) (Nat.le_of_ble_eq_true rfl) ?_
  show ctV B mX7_test (lv, 0, 0) (poI r n) 0 [some (.ref a0), some (.int x1), none] [] (0, 0) n M
  unfold fX7_test at h
  refine ct_aload_0 (q := 1) dX7_test_0 rfl ?_
  refine ct_iload_1 (q := 2) dX7_test_1 rfl ?_
  obtain ⟨r21, gr21, h⟩ := ob h
  obtain ⟨er21, gr21⟩ := cV_spec gr21
  refine ct_cVi1 (q := 5) hB dX7_test_2 lk_RX7_267 hlv (hF3 _ _ _ _ _ _ gr21) er21 (by decide) rfl (Nat.le_of_ble_eq_true rfl) rfl ?_
  refine ct_if_ne (q := 8) (tgt := 10) dX7_test_5 (by decide) rfl (fun z22 => ?_) (fun z22 => ?_)
  · replace h := it_f h z22
    refine ct_aload_0 (q := 11) dX7_test_10 rfl ?_
    refine ct_bipush (v := 60) (q := 13) dX7_test_11 (by decide) rfl ?_
    obtain ⟨r23, gr23, h⟩ := ob h
    obtain ⟨er23, gr23⟩ := cV_spec gr23
    refine ct_cVi1 (q := 16) hB dX7_test_13 lk_RX7_254 (Nat.le_trans (by decide : _ ≤ 3) hb) (ctX7_isSign hB gr23) er23 (by decide) rfl (Nat.le_of_ble_eq_true rfl) rfl ?_
    refine ct_if_ne (q := 19) (tgt := 37) dX7_test_16 (by decide) rfl (fun z24 => ?_) (fun z24 => ?_)
    · replace h := it_f h z24
      exact ct_lessK (vX7_test_b37 hB hb hlv hF0 hF1 hF2 hF3 hF4 hF5  a0 x1 r23.2 r h) (And.intro rfl (And.intro rfl (trivial)))
    · replace h := it_t h z24
      refine ct_aload_0 (q := 20) dX7_test_19 rfl ?_
      refine ct_bipush (v := 61) (q := 22) dX7_test_20 (by decide) rfl ?_
      obtain ⟨r25, gr25, h⟩ := ob h
      obtain ⟨er25, gr25⟩ := cV_spec gr25
      refine ct_cVi1 (q := 25) hB dX7_test_22 lk_RX7_254 (Nat.le_trans (by decide : _ ≤ 3) hb) (ctX7_isSign hB gr25) er25 (by decide) rfl (Nat.le_of_ble_eq_true rfl) rfl ?_
      refine ct_if_ne (q := 28) (tgt := 37) dX7_test_25 (by decide) rfl (fun z26 => ?_) (fun z26 => ?_)
      · replace h := it_f h z26
        exact ct_lessK (vX7_test_b37 hB hb hlv hF0 hF1 hF2 hF3 hF4 hF5  a0 x1 r25.2 r h) (And.intro rfl (And.intro rfl (trivial)))
      · replace h := it_t h z26
        refine ct_aload_0 (q := 29) dX7_test_28 rfl ?_
        refine ct_bipush (v := 62) (q := 31) dX7_test_29 (by decide) rfl ?_
        obtain ⟨r27, gr27, h⟩ := ob h
        obtain ⟨er27, gr27⟩ := cV_spec gr27
        refine ct_cVi1 (q := 34) hB dX7_test_31 lk_RX7_254 (Nat.le_trans (by decide : _ ≤ 3) hb) (ctX7_isSign hB gr27) er27 (by decide) rfl (Nat.le_of_ble_eq_true rfl) rfl ?_
        refine ct_if_eq (q := 37) (tgt := 62) dX7_test_34 (by decide) rfl (fun z28 => ?_) (fun z28 => ?_)
        · replace h := it_t h z28
          refine ct_iconst (v := 1) (q := 63) dX7_test_62 (by decide) rfl ?_
          exact ct_zret dX7_test_63 rfl (by decide) ⟨Nat.le_refl 0, Nat.le_refl 0⟩ (poI_of h)
        · replace h := it_f h z28
          exact ct_lessK (vX7_test_b37 hB hb hlv hF0 hF1 hF2 hF3 hF4 hF5  a0 x1 r27.2 r h) (And.intro rfl (And.intro rfl (trivial)))
  · replace h := it_t h z22
    refine ct_iconst (v := 0) (q := 9) dX7_test_8 (by decide) rfl ?_
    exact ct_zret dX7_test_9 rfl (by decide) ⟨Nat.le_refl 0, Nat.le_refl 0⟩ (poI_of h)

def fX7_sum_b28 (F : Nat → Nat → Int32 → Int32 → Int32 → ctM → Option (Int32 × ctM)) (k10 : Nat → Int32 → ctM → Option (Int32 × ctM)) (a0 : Nat) (x1 : Int32) (M : ctM) : Option (Int32 × ctM) :=
  (gI kdM 7 23 a0 M).bind fun x21 =>
  (cV kdM 7 a0 (fX7_nextToken a0 M)).bind fun r22 =>
  (cV kdM 7 a0 (F 4 a0 x1 0 0 r22)).bind fun r23 =>
  if r23.1 = 0 then
    some (0, r23.2)
  else
    (cV kdM 7 a0 (fX7_step a0 2 x21 r23.2)).bind fun r25 =>
    k10 a0 x1 r25

set_option maxHeartbeats 4000000 in
set_option maxRecDepth 20000 in
theorem vX7_sum_b28 {B : ctB} {n : Nat} (hB : ctOk B kdM lnM n) {lv lw : Nat} {F : Nat → Nat → Int32 → Int32 → Int32 → ctM → Option (Int32 × ctM)} (hb : 3 ≤ lv) (hlv : lw + 1 ≤ lv) (hF0 : ∀ (a : Nat) (x y w : Int32) (M : ctM) (r : Int32 × ctM), F 0 a x y w M = some r → ctC B mX7_either (lw, 0, 0) [.ref a, .int x] n M (poI r n)) (hF1 : ∀ (a : Nat) (x y w : Int32) (M : ctM) (r : Int32 × ctM), F 1 a x y w M = some r → ctC B mX7_both (lw, 0, 0) [.ref a, .int x] n M (poI r n)) (hF2 : ∀ (a : Nat) (x y w : Int32) (M : ctM) (r : Int32 × ctM), F 2 a x y w M = some r → ctC B mX7_test (lw, 0, 0) [.ref a, .int x] n M (poI r n)) (hF3 : ∀ (a : Nat) (x y w : Int32) (M : ctM) (r : Int32 × ctM), F 3 a x y w M = some r → ctC B mX7_sum (lw, 0, 0) [.ref a, .int x] n M (poI r n)) (hF4 : ∀ (a : Nat) (x y w : Int32) (M : ctM) (r : Int32 × ctM), F 4 a x y w M = some r → ctC B mX7_term (lw, 0, 0) [.ref a, .int x] n M (poI r n)) (hF5 : ∀ (a : Nat) (x y w : Int32) (M : ctM) (r : Int32 × ctM), F 5 a x y w M = some r → ctC B mX7_part0 (lw, 0, 0) [.ref a, .int x] n M (poI r n)) {k10 : Nat → Int32 → ctM → Option (Int32 × ctM)} (hk10 : ∀ (a0 : Nat) (x1 : Int32) (M : ctM) (r : Int32 × ctM), k10 a0 x1 M = some r → ctV B mX7_sum (lv, 0, 0) (poI r n) 10 [some (.ref a0), some (.int x1), none] [] (0, 0) n M) : ∀ (a0 : Nat) (x1 : Int32) (M : ctM) (r : Int32 × ctM), fX7_sum_b28 F k10 a0 x1 M = some r → ctV B mX7_sum (lv, 0, 0) (poI r n) 28 [some (.ref a0), some (.int x1), none] [] (0, 0) n M := by
  intro a0 x1 M r h
  unfold fX7_sum_b28 at h
  refine ct_aload_0 (q := 29) dX7_sum_28 rfl ?_
  obtain ⟨x21, gx21, h⟩ := ob h
  refine ct_getI (q := 32) hB dX7_sum_29 fl_RX7_232 rfl gx21 rfl ?_
  refine ct_istore_2 (q := 33) dX7_sum_32 (by decide) rfl rfl ?_
  refine ct_aload_0 (q := 34) dX7_sum_33 rfl ?_
  obtain ⟨r22, gr22, h⟩ := ob h
  obtain ⟨er22, gr22⟩ := cV_spec gr22
  refine ct_cVv0 (q := 37) hB dX7_sum_34 lk_RX7_257 (Nat.le_trans (by decide : _ ≤ 3) hb) (ctX7_nextToken hB gr22) er22 (by decide) rfl (Nat.le_of_ble_eq_true rfl) rfl ?_
  refine ct_aload_0 (q := 38) dX7_sum_37 rfl ?_
  refine ct_iload_1 (q := 39) dX7_sum_38 rfl ?_
  obtain ⟨r23, gr23, h⟩ := ob h
  obtain ⟨er23, gr23⟩ := cV_spec gr23
  refine ct_cVi1 (q := 42) hB dX7_sum_39 lk_RX7_270 hlv (hF4 _ _ _ _ _ _ gr23) er23 (by decide) rfl (Nat.le_of_ble_eq_true rfl) rfl ?_
  refine ct_if_ne (q := 45) (tgt := 47) dX7_sum_42 (by decide) rfl (fun z24 => ?_) (fun z24 => ?_)
  · replace h := it_f h z24
    refine ct_aload_0 (q := 48) dX7_sum_47 rfl ?_
    refine ct_iconst (v := 2) (q := 49) dX7_sum_48 (by decide) rfl ?_
    refine ct_iload_2 (q := 50) dX7_sum_49 rfl ?_
    obtain ⟨r25, gr25, h⟩ := ob h
    obtain ⟨er25, gr25⟩ := cV_spec gr25
    refine ct_cVv2 (q := 53) hB dX7_sum_50 lk_RX7_260 (Nat.le_trans (by decide : _ ≤ 3) hb) (ctX7_step hB gr25) er25 (by decide) rfl (Nat.le_of_ble_eq_true rfl) rfl ?_
    refine ct_goto (q := 10) dX7_sum_53 (by decide) ?_
    exact ct_lessK (hk10 a0 x1 r25 r h) (And.intro rfl (And.intro rfl (trivial)))
  · replace h := it_t h z24
    refine ct_iconst (v := 0) (q := 46) dX7_sum_45 (by decide) rfl ?_
    exact ct_zret dX7_sum_46 rfl (by decide) ⟨Nat.le_refl 0, Nat.le_refl 0⟩ (poI_of h)

def fX7_sum_h10 (F : Nat → Nat → Int32 → Int32 → Int32 → ctM → Option (Int32 × ctM)) : Nat → Nat → Int32 → ctM → Option (Int32 × ctM)
  | 0, _, _, _ => none
  | N + 1, a0, x1, M =>
    (cV kdM 7 a0 (fX7_isSign a0 43 M)).bind fun r21 =>
    if r21.1 = 0 then
      (cV kdM 7 a0 (fX7_isSign a0 45 r21.2)).bind fun r23 =>
      if r23.1 = 0 then
        some (1, r23.2)
      else
        fX7_sum_b28 F (fX7_sum_h10 F N) a0 x1 r23.2
    else
      fX7_sum_b28 F (fX7_sum_h10 F N) a0 x1 r21.2

set_option maxHeartbeats 4000000 in
set_option maxRecDepth 20000 in
theorem vX7_sum_h10 {B : ctB} {n : Nat} (hB : ctOk B kdM lnM n) {lv lw : Nat} {F : Nat → Nat → Int32 → Int32 → Int32 → ctM → Option (Int32 × ctM)} (hb : 3 ≤ lv) (hlv : lw + 1 ≤ lv) (hF0 : ∀ (a : Nat) (x y w : Int32) (M : ctM) (r : Int32 × ctM), F 0 a x y w M = some r → ctC B mX7_either (lw, 0, 0) [.ref a, .int x] n M (poI r n)) (hF1 : ∀ (a : Nat) (x y w : Int32) (M : ctM) (r : Int32 × ctM), F 1 a x y w M = some r → ctC B mX7_both (lw, 0, 0) [.ref a, .int x] n M (poI r n)) (hF2 : ∀ (a : Nat) (x y w : Int32) (M : ctM) (r : Int32 × ctM), F 2 a x y w M = some r → ctC B mX7_test (lw, 0, 0) [.ref a, .int x] n M (poI r n)) (hF3 : ∀ (a : Nat) (x y w : Int32) (M : ctM) (r : Int32 × ctM), F 3 a x y w M = some r → ctC B mX7_sum (lw, 0, 0) [.ref a, .int x] n M (poI r n)) (hF4 : ∀ (a : Nat) (x y w : Int32) (M : ctM) (r : Int32 × ctM), F 4 a x y w M = some r → ctC B mX7_term (lw, 0, 0) [.ref a, .int x] n M (poI r n)) (hF5 : ∀ (a : Nat) (x y w : Int32) (M : ctM) (r : Int32 × ctM), F 5 a x y w M = some r → ctC B mX7_part0 (lw, 0, 0) [.ref a, .int x] n M (poI r n)) : ∀ (N : Nat) (a0 : Nat) (x1 : Int32) (M : ctM) (r : Int32 × ctM), fX7_sum_h10 F N a0 x1 M = some r → ctV B mX7_sum (lv, 0, 0) (poI r n) 10 [some (.ref a0), some (.int x1), none] [] (0, 0) n M := by
  intro N
  induction N with
  | zero => intro a0 x1 M r h; exact absurd h (by simp [fX7_sum_h10])
  | succ N ih =>
    intro a0 x1 M r h
    rw [fX7_sum_h10] at h
    refine ct_aload_0 (q := 11) dX7_sum_10 rfl ?_
    refine ct_bipush (v := 43) (q := 13) dX7_sum_11 (by decide) rfl ?_
    obtain ⟨r21, gr21, h⟩ := ob h
    obtain ⟨er21, gr21⟩ := cV_spec gr21
    refine ct_cVi1 (q := 16) hB dX7_sum_13 lk_RX7_254 (Nat.le_trans (by decide : _ ≤ 3) hb) (ctX7_isSign hB gr21) er21 (by decide) rfl (Nat.le_of_ble_eq_true rfl) rfl ?_
    refine ct_if_ne (q := 19) (tgt := 28) dX7_sum_16 (by decide) rfl (fun z22 => ?_) (fun z22 => ?_)
    · replace h := it_f h z22
      exact ct_lessK (vX7_sum_b28 hB hb hlv hF0 hF1 hF2 hF3 hF4 hF5 ih a0 x1 r21.2 r h) (And.intro rfl (And.intro rfl (trivial)))
    · replace h := it_t h z22
      refine ct_aload_0 (q := 20) dX7_sum_19 rfl ?_
      refine ct_bipush (v := 45) (q := 22) dX7_sum_20 (by decide) rfl ?_
      obtain ⟨r23, gr23, h⟩ := ob h
      obtain ⟨er23, gr23⟩ := cV_spec gr23
      refine ct_cVi1 (q := 25) hB dX7_sum_22 lk_RX7_254 (Nat.le_trans (by decide : _ ≤ 3) hb) (ctX7_isSign hB gr23) er23 (by decide) rfl (Nat.le_of_ble_eq_true rfl) rfl ?_
      refine ct_if_eq (q := 28) (tgt := 56) dX7_sum_25 (by decide) rfl (fun z24 => ?_) (fun z24 => ?_)
      · replace h := it_t h z24
        refine ct_iconst (v := 1) (q := 57) dX7_sum_56 (by decide) rfl ?_
        exact ct_zret dX7_sum_57 rfl (by decide) ⟨Nat.le_refl 0, Nat.le_refl 0⟩ (poI_of h)
      · replace h := it_f h z24
        exact ct_lessK (vX7_sum_b28 hB hb hlv hF0 hF1 hF2 hF3 hF4 hF5 ih a0 x1 r23.2 r h) (And.intro rfl (And.intro rfl (trivial)))

def fX7_sum (F : Nat → Nat → Int32 → Int32 → Int32 → ctM → Option (Int32 × ctM)) (a0 : Nat) (x1 : Int32) (M : ctM) : Option (Int32 × ctM) :=
  (cV kdM 7 a0 (F 4 a0 x1 0 0 M)).bind fun r21 =>
  if r21.1 = 0 then
    some (0, r21.2)
  else
    fX7_sum_h10 F 4000 a0 x1 r21.2

set_option maxHeartbeats 4000000 in
set_option maxRecDepth 20000 in
theorem ctX7_sum {B : ctB} {n : Nat} (hB : ctOk B kdM lnM n) {lv lw : Nat} {F : Nat → Nat → Int32 → Int32 → Int32 → ctM → Option (Int32 × ctM)} (hb : 3 ≤ lv) (hlv : lw + 1 ≤ lv) (hF0 : ∀ (a : Nat) (x y w : Int32) (M : ctM) (r : Int32 × ctM), F 0 a x y w M = some r → ctC B mX7_either (lw, 0, 0) [.ref a, .int x] n M (poI r n)) (hF1 : ∀ (a : Nat) (x y w : Int32) (M : ctM) (r : Int32 × ctM), F 1 a x y w M = some r → ctC B mX7_both (lw, 0, 0) [.ref a, .int x] n M (poI r n)) (hF2 : ∀ (a : Nat) (x y w : Int32) (M : ctM) (r : Int32 × ctM), F 2 a x y w M = some r → ctC B mX7_test (lw, 0, 0) [.ref a, .int x] n M (poI r n)) (hF3 : ∀ (a : Nat) (x y w : Int32) (M : ctM) (r : Int32 × ctM), F 3 a x y w M = some r → ctC B mX7_sum (lw, 0, 0) [.ref a, .int x] n M (poI r n)) (hF4 : ∀ (a : Nat) (x y w : Int32) (M : ctM) (r : Int32 × ctM), F 4 a x y w M = some r → ctC B mX7_term (lw, 0, 0) [.ref a, .int x] n M (poI r n)) (hF5 : ∀ (a : Nat) (x y w : Int32) (M : ctM) (r : Int32 × ctM), F 5 a x y w M = some r → ctC B mX7_part0 (lw, 0, 0) [.ref a, .int x] n M (poI r n)) {a0 : Nat} {x1 : Int32} {M : ctM} {r : Int32 × ctM} (h : fX7_sum F a0 x1 M = some r) : ctC B mX7_sum (lv, 0, 0) [.ref a0, .int x1] n M (poI r n) := by
  refine ctC_of (by decide) (Nat.le_of_ble_eq_true rfl) ?_
  show ctV B mX7_sum (lv, 0, 0) (poI r n) 0 [some (.ref a0), some (.int x1), none] [] (0, 0) n M
  unfold fX7_sum at h
  refine ct_aload_0 (q := 1) dX7_sum_0 rfl ?_
  refine ct_iload_1 (q := 2) dX7_sum_1 rfl ?_
  obtain ⟨r21, gr21, h⟩ := ob h
  obtain ⟨er21, gr21⟩ := cV_spec gr21
  refine ct_cVi1 (q := 5) hB dX7_sum_2 lk_RX7_270 hlv (hF4 _ _ _ _ _ _ gr21) er21 (by decide) rfl (Nat.le_of_ble_eq_true rfl) rfl ?_
  refine ct_if_ne (q := 8) (tgt := 10) dX7_sum_5 (by decide) rfl (fun z22 => ?_) (fun z22 => ?_)
  · replace h := it_f h z22
    exact ct_lessK (vX7_sum_h10 hB hb hlv hF0 hF1 hF2 hF3 hF4 hF5  4000 a0 x1 r21.2 r h) (And.intro rfl (And.intro rfl (trivial)))
  · replace h := it_t h z22
    refine ct_iconst (v := 0) (q := 9) dX7_sum_8 (by decide) rfl ?_
    exact ct_zret dX7_sum_9 rfl (by decide) ⟨Nat.le_refl 0, Nat.le_refl 0⟩ (poI_of h)

def fX7_term_b28 (F : Nat → Nat → Int32 → Int32 → Int32 → ctM → Option (Int32 × ctM)) (k10 : Nat → Int32 → ctM → Option (Int32 × ctM)) (a0 : Nat) (x1 : Int32) (M : ctM) : Option (Int32 × ctM) :=
  (gI kdM 7 23 a0 M).bind fun x21 =>
  (cV kdM 7 a0 (fX7_nextToken a0 M)).bind fun r22 =>
  (cV kdM 7 a0 (F 5 a0 x1 0 0 r22)).bind fun r23 =>
  if r23.1 = 0 then
    some (0, r23.2)
  else
    (cV kdM 7 a0 (fX7_step a0 2 x21 r23.2)).bind fun r25 =>
    k10 a0 x1 r25

set_option maxHeartbeats 4000000 in
set_option maxRecDepth 20000 in
theorem vX7_term_b28 {B : ctB} {n : Nat} (hB : ctOk B kdM lnM n) {lv lw : Nat} {F : Nat → Nat → Int32 → Int32 → Int32 → ctM → Option (Int32 × ctM)} (hb : 3 ≤ lv) (hlv : lw + 1 ≤ lv) (hF0 : ∀ (a : Nat) (x y w : Int32) (M : ctM) (r : Int32 × ctM), F 0 a x y w M = some r → ctC B mX7_either (lw, 0, 0) [.ref a, .int x] n M (poI r n)) (hF1 : ∀ (a : Nat) (x y w : Int32) (M : ctM) (r : Int32 × ctM), F 1 a x y w M = some r → ctC B mX7_both (lw, 0, 0) [.ref a, .int x] n M (poI r n)) (hF2 : ∀ (a : Nat) (x y w : Int32) (M : ctM) (r : Int32 × ctM), F 2 a x y w M = some r → ctC B mX7_test (lw, 0, 0) [.ref a, .int x] n M (poI r n)) (hF3 : ∀ (a : Nat) (x y w : Int32) (M : ctM) (r : Int32 × ctM), F 3 a x y w M = some r → ctC B mX7_sum (lw, 0, 0) [.ref a, .int x] n M (poI r n)) (hF4 : ∀ (a : Nat) (x y w : Int32) (M : ctM) (r : Int32 × ctM), F 4 a x y w M = some r → ctC B mX7_term (lw, 0, 0) [.ref a, .int x] n M (poI r n)) (hF5 : ∀ (a : Nat) (x y w : Int32) (M : ctM) (r : Int32 × ctM), F 5 a x y w M = some r → ctC B mX7_part0 (lw, 0, 0) [.ref a, .int x] n M (poI r n)) {k10 : Nat → Int32 → ctM → Option (Int32 × ctM)} (hk10 : ∀ (a0 : Nat) (x1 : Int32) (M : ctM) (r : Int32 × ctM), k10 a0 x1 M = some r → ctV B mX7_term (lv, 0, 0) (poI r n) 10 [some (.ref a0), some (.int x1), none] [] (0, 0) n M) : ∀ (a0 : Nat) (x1 : Int32) (M : ctM) (r : Int32 × ctM), fX7_term_b28 F k10 a0 x1 M = some r → ctV B mX7_term (lv, 0, 0) (poI r n) 28 [some (.ref a0), some (.int x1), none] [] (0, 0) n M := by
  intro a0 x1 M r h
  unfold fX7_term_b28 at h
  refine ct_aload_0 (q := 29) dX7_term_28 rfl ?_
  obtain ⟨x21, gx21, h⟩ := ob h
  refine ct_getI (q := 32) hB dX7_term_29 fl_RX7_232 rfl gx21 rfl ?_
  refine ct_istore_2 (q := 33) dX7_term_32 (by decide) rfl rfl ?_
  refine ct_aload_0 (q := 34) dX7_term_33 rfl ?_
  obtain ⟨r22, gr22, h⟩ := ob h
  obtain ⟨er22, gr22⟩ := cV_spec gr22
  refine ct_cVv0 (q := 37) hB dX7_term_34 lk_RX7_257 (Nat.le_trans (by decide : _ ≤ 3) hb) (ctX7_nextToken hB gr22) er22 (by decide) rfl (Nat.le_of_ble_eq_true rfl) rfl ?_
  refine ct_aload_0 (q := 38) dX7_term_37 rfl ?_
  refine ct_iload_1 (q := 39) dX7_term_38 rfl ?_
  obtain ⟨r23, gr23, h⟩ := ob h
  obtain ⟨er23, gr23⟩ := cV_spec gr23
  refine ct_cVi1 (q := 42) hB dX7_term_39 lk_RX7_273 hlv (hF5 _ _ _ _ _ _ gr23) er23 (by decide) rfl (Nat.le_of_ble_eq_true rfl) rfl ?_
  refine ct_if_ne (q := 45) (tgt := 47) dX7_term_42 (by decide) rfl (fun z24 => ?_) (fun z24 => ?_)
  · replace h := it_f h z24
    refine ct_aload_0 (q := 48) dX7_term_47 rfl ?_
    refine ct_iconst (v := 2) (q := 49) dX7_term_48 (by decide) rfl ?_
    refine ct_iload_2 (q := 50) dX7_term_49 rfl ?_
    obtain ⟨r25, gr25, h⟩ := ob h
    obtain ⟨er25, gr25⟩ := cV_spec gr25
    refine ct_cVv2 (q := 53) hB dX7_term_50 lk_RX7_260 (Nat.le_trans (by decide : _ ≤ 3) hb) (ctX7_step hB gr25) er25 (by decide) rfl (Nat.le_of_ble_eq_true rfl) rfl ?_
    refine ct_goto (q := 10) dX7_term_53 (by decide) ?_
    exact ct_lessK (hk10 a0 x1 r25 r h) (And.intro rfl (And.intro rfl (trivial)))
  · replace h := it_t h z24
    refine ct_iconst (v := 0) (q := 46) dX7_term_45 (by decide) rfl ?_
    exact ct_zret dX7_term_46 rfl (by decide) ⟨Nat.le_refl 0, Nat.le_refl 0⟩ (poI_of h)

def fX7_term_h10 (F : Nat → Nat → Int32 → Int32 → Int32 → ctM → Option (Int32 × ctM)) : Nat → Nat → Int32 → ctM → Option (Int32 × ctM)
  | 0, _, _, _ => none
  | N + 1, a0, x1, M =>
    (cV kdM 7 a0 (fX7_isSign a0 42 M)).bind fun r21 =>
    if r21.1 = 0 then
      (cV kdM 7 a0 (fX7_isSign a0 47 r21.2)).bind fun r23 =>
      if r23.1 = 0 then
        some (1, r23.2)
      else
        fX7_term_b28 F (fX7_term_h10 F N) a0 x1 r23.2
    else
      fX7_term_b28 F (fX7_term_h10 F N) a0 x1 r21.2

set_option maxHeartbeats 4000000 in
set_option maxRecDepth 20000 in
theorem vX7_term_h10 {B : ctB} {n : Nat} (hB : ctOk B kdM lnM n) {lv lw : Nat} {F : Nat → Nat → Int32 → Int32 → Int32 → ctM → Option (Int32 × ctM)} (hb : 3 ≤ lv) (hlv : lw + 1 ≤ lv) (hF0 : ∀ (a : Nat) (x y w : Int32) (M : ctM) (r : Int32 × ctM), F 0 a x y w M = some r → ctC B mX7_either (lw, 0, 0) [.ref a, .int x] n M (poI r n)) (hF1 : ∀ (a : Nat) (x y w : Int32) (M : ctM) (r : Int32 × ctM), F 1 a x y w M = some r → ctC B mX7_both (lw, 0, 0) [.ref a, .int x] n M (poI r n)) (hF2 : ∀ (a : Nat) (x y w : Int32) (M : ctM) (r : Int32 × ctM), F 2 a x y w M = some r → ctC B mX7_test (lw, 0, 0) [.ref a, .int x] n M (poI r n)) (hF3 : ∀ (a : Nat) (x y w : Int32) (M : ctM) (r : Int32 × ctM), F 3 a x y w M = some r → ctC B mX7_sum (lw, 0, 0) [.ref a, .int x] n M (poI r n)) (hF4 : ∀ (a : Nat) (x y w : Int32) (M : ctM) (r : Int32 × ctM), F 4 a x y w M = some r → ctC B mX7_term (lw, 0, 0) [.ref a, .int x] n M (poI r n)) (hF5 : ∀ (a : Nat) (x y w : Int32) (M : ctM) (r : Int32 × ctM), F 5 a x y w M = some r → ctC B mX7_part0 (lw, 0, 0) [.ref a, .int x] n M (poI r n)) : ∀ (N : Nat) (a0 : Nat) (x1 : Int32) (M : ctM) (r : Int32 × ctM), fX7_term_h10 F N a0 x1 M = some r → ctV B mX7_term (lv, 0, 0) (poI r n) 10 [some (.ref a0), some (.int x1), none] [] (0, 0) n M := by
  intro N
  induction N with
  | zero => intro a0 x1 M r h; exact absurd h (by simp [fX7_term_h10])
  | succ N ih =>
    intro a0 x1 M r h
    rw [fX7_term_h10] at h
    refine ct_aload_0 (q := 11) dX7_term_10 rfl ?_
    refine ct_bipush (v := 42) (q := 13) dX7_term_11 (by decide) rfl ?_
    obtain ⟨r21, gr21, h⟩ := ob h
    obtain ⟨er21, gr21⟩ := cV_spec gr21
    refine ct_cVi1 (q := 16) hB dX7_term_13 lk_RX7_254 (Nat.le_trans (by decide : _ ≤ 3) hb) (ctX7_isSign hB gr21) er21 (by decide) rfl (Nat.le_of_ble_eq_true rfl) rfl ?_
    refine ct_if_ne (q := 19) (tgt := 28) dX7_term_16 (by decide) rfl (fun z22 => ?_) (fun z22 => ?_)
    · replace h := it_f h z22
      exact ct_lessK (vX7_term_b28 hB hb hlv hF0 hF1 hF2 hF3 hF4 hF5 ih a0 x1 r21.2 r h) (And.intro rfl (And.intro rfl (trivial)))
    · replace h := it_t h z22
      refine ct_aload_0 (q := 20) dX7_term_19 rfl ?_
      refine ct_bipush (v := 47) (q := 22) dX7_term_20 (by decide) rfl ?_
      obtain ⟨r23, gr23, h⟩ := ob h
      obtain ⟨er23, gr23⟩ := cV_spec gr23
      refine ct_cVi1 (q := 25) hB dX7_term_22 lk_RX7_254 (Nat.le_trans (by decide : _ ≤ 3) hb) (ctX7_isSign hB gr23) er23 (by decide) rfl (Nat.le_of_ble_eq_true rfl) rfl ?_
      refine ct_if_eq (q := 28) (tgt := 56) dX7_term_25 (by decide) rfl (fun z24 => ?_) (fun z24 => ?_)
      · replace h := it_t h z24
        refine ct_iconst (v := 1) (q := 57) dX7_term_56 (by decide) rfl ?_
        exact ct_zret dX7_term_57 rfl (by decide) ⟨Nat.le_refl 0, Nat.le_refl 0⟩ (poI_of h)
      · replace h := it_f h z24
        exact ct_lessK (vX7_term_b28 hB hb hlv hF0 hF1 hF2 hF3 hF4 hF5 ih a0 x1 r23.2 r h) (And.intro rfl (And.intro rfl (trivial)))

def fX7_term (F : Nat → Nat → Int32 → Int32 → Int32 → ctM → Option (Int32 × ctM)) (a0 : Nat) (x1 : Int32) (M : ctM) : Option (Int32 × ctM) :=
  (cV kdM 7 a0 (F 5 a0 x1 0 0 M)).bind fun r21 =>
  if r21.1 = 0 then
    some (0, r21.2)
  else
    fX7_term_h10 F 4000 a0 x1 r21.2

set_option maxHeartbeats 4000000 in
set_option maxRecDepth 20000 in
theorem ctX7_term {B : ctB} {n : Nat} (hB : ctOk B kdM lnM n) {lv lw : Nat} {F : Nat → Nat → Int32 → Int32 → Int32 → ctM → Option (Int32 × ctM)} (hb : 3 ≤ lv) (hlv : lw + 1 ≤ lv) (hF0 : ∀ (a : Nat) (x y w : Int32) (M : ctM) (r : Int32 × ctM), F 0 a x y w M = some r → ctC B mX7_either (lw, 0, 0) [.ref a, .int x] n M (poI r n)) (hF1 : ∀ (a : Nat) (x y w : Int32) (M : ctM) (r : Int32 × ctM), F 1 a x y w M = some r → ctC B mX7_both (lw, 0, 0) [.ref a, .int x] n M (poI r n)) (hF2 : ∀ (a : Nat) (x y w : Int32) (M : ctM) (r : Int32 × ctM), F 2 a x y w M = some r → ctC B mX7_test (lw, 0, 0) [.ref a, .int x] n M (poI r n)) (hF3 : ∀ (a : Nat) (x y w : Int32) (M : ctM) (r : Int32 × ctM), F 3 a x y w M = some r → ctC B mX7_sum (lw, 0, 0) [.ref a, .int x] n M (poI r n)) (hF4 : ∀ (a : Nat) (x y w : Int32) (M : ctM) (r : Int32 × ctM), F 4 a x y w M = some r → ctC B mX7_term (lw, 0, 0) [.ref a, .int x] n M (poI r n)) (hF5 : ∀ (a : Nat) (x y w : Int32) (M : ctM) (r : Int32 × ctM), F 5 a x y w M = some r → ctC B mX7_part0 (lw, 0, 0) [.ref a, .int x] n M (poI r n)) {a0 : Nat} {x1 : Int32} {M : ctM} {r : Int32 × ctM} (h : fX7_term F a0 x1 M = some r) : ctC B mX7_term (lv, 0, 0) [.ref a0, .int x1] n M (poI r n) := by
  refine ctC_of (by decide) (Nat.le_of_ble_eq_true rfl) ?_
  show ctV B mX7_term (lv, 0, 0) (poI r n) 0 [some (.ref a0), some (.int x1), none] [] (0, 0) n M
  unfold fX7_term at h
  refine ct_aload_0 (q := 1) dX7_term_0 rfl ?_
  refine ct_iload_1 (q := 2) dX7_term_1 rfl ?_
  obtain ⟨r21, gr21, h⟩ := ob h
  obtain ⟨er21, gr21⟩ := cV_spec gr21
  refine ct_cVi1 (q := 5) hB dX7_term_2 lk_RX7_273 hlv (hF5 _ _ _ _ _ _ gr21) er21 (by decide) rfl (Nat.le_of_ble_eq_true rfl) rfl ?_
  refine ct_if_ne (q := 8) (tgt := 10) dX7_term_5 (by decide) rfl (fun z22 => ?_) (fun z22 => ?_)
  · replace h := it_f h z22
    exact ct_lessK (vX7_term_h10 hB hb hlv hF0 hF1 hF2 hF3 hF4 hF5  4000 a0 x1 r21.2 r h) (And.intro rfl (And.intro rfl (trivial)))
  · replace h := it_t h z22
    refine ct_iconst (v := 0) (q := 9) dX7_term_8 (by decide) rfl ?_
    exact ct_zret dX7_term_9 rfl (by decide) ⟨Nat.le_refl 0, Nat.le_refl 0⟩ (poI_of h)

def fX7_part0_b145 (F : Nat → Nat → Int32 → Int32 → Int32 → ctM → Option (Int32 × ctM)) (a0 : Nat) (x1 : Int32) (M : ctM) : Option (Int32 × ctM) :=
  (cV kdM 7 a0 (fX7_isSign a0 40 M)).bind fun r21 =>
  if r21.1 = 0 then
    some (0, r21.2)
  else
    (gI kdM 7 24 a0 r21.2).bind fun x23 =>
    if x23 = 8 then
      some (0, r21.2)
    else
      (gI kdM 7 24 a0 r21.2).bind fun x25 =>
      (pI kdM 7 24 a0 (x25 + 1) r21.2).bind fun M26 =>
      (cV kdM 7 a0 (fX7_nextToken a0 M26)).bind fun r27 =>
      (cV kdM 7 a0 (F 0 a0 x1 0 0 r27)).bind fun r28 =>
      if r28.1 = 0 then
        some (0, r28.2)
      else
        (cV kdM 7 a0 (fX7_isSign a0 41 r28.2)).bind fun r30 =>
        if r30.1 = 0 then
          some (0, r30.2)
        else
          (gI kdM 7 24 a0 r30.2).bind fun x32 =>
          (pI kdM 7 24 a0 (x32 - 1) r30.2).bind fun M33 =>
          (cV kdM 7 a0 (fX7_nextToken a0 M33)).bind fun r34 =>
          some (1, r34)

set_option maxHeartbeats 4000000 in
set_option maxRecDepth 20000 in
theorem vX7_part0_b145 {B : ctB} {n : Nat} (hB : ctOk B kdM lnM n) {lv lw : Nat} {F : Nat → Nat → Int32 → Int32 → Int32 → ctM → Option (Int32 × ctM)} (hb : 3 ≤ lv) (hlv : lw + 1 ≤ lv) (hF0 : ∀ (a : Nat) (x y w : Int32) (M : ctM) (r : Int32 × ctM), F 0 a x y w M = some r → ctC B mX7_either (lw, 0, 0) [.ref a, .int x] n M (poI r n)) (hF1 : ∀ (a : Nat) (x y w : Int32) (M : ctM) (r : Int32 × ctM), F 1 a x y w M = some r → ctC B mX7_both (lw, 0, 0) [.ref a, .int x] n M (poI r n)) (hF2 : ∀ (a : Nat) (x y w : Int32) (M : ctM) (r : Int32 × ctM), F 2 a x y w M = some r → ctC B mX7_test (lw, 0, 0) [.ref a, .int x] n M (poI r n)) (hF3 : ∀ (a : Nat) (x y w : Int32) (M : ctM) (r : Int32 × ctM), F 3 a x y w M = some r → ctC B mX7_sum (lw, 0, 0) [.ref a, .int x] n M (poI r n)) (hF4 : ∀ (a : Nat) (x y w : Int32) (M : ctM) (r : Int32 × ctM), F 4 a x y w M = some r → ctC B mX7_term (lw, 0, 0) [.ref a, .int x] n M (poI r n)) (hF5 : ∀ (a : Nat) (x y w : Int32) (M : ctM) (r : Int32 × ctM), F 5 a x y w M = some r → ctC B mX7_part0 (lw, 0, 0) [.ref a, .int x] n M (poI r n)) : ∀ (a0 : Nat) (x1 : Int32) (M : ctM) (r : Int32 × ctM), fX7_part0_b145 F a0 x1 M = some r → ctV B mX7_part0 (lv, 0, 0) (poI r n) 145 [some (.ref a0), some (.int x1)] [] (0, 0) n M := by
  intro a0 x1 M r h
  unfold fX7_part0_b145 at h
  refine ct_aload_0 (q := 146) dX7_part0_145 rfl ?_
  refine ct_bipush (v := 40) (q := 148) dX7_part0_146 (by decide) rfl ?_
  obtain ⟨r21, gr21, h⟩ := ob h
  obtain ⟨er21, gr21⟩ := cV_spec gr21
  refine ct_cVi1 (q := 151) hB dX7_part0_148 lk_RX7_254 (Nat.le_trans (by decide : _ ≤ 3) hb) (ctX7_isSign hB gr21) er21 (by decide) rfl (Nat.le_of_ble_eq_true rfl) rfl ?_
  refine ct_if_eq (q := 154) (tgt := 163) dX7_part0_151 (by decide) rfl (fun z22 => ?_) (fun z22 => ?_)
  · replace h := it_t h z22
    refine ct_iconst (v := 0) (q := 164) dX7_part0_163 (by decide) rfl ?_
    exact ct_zret dX7_part0_164 rfl (by decide) ⟨Nat.le_refl 0, Nat.le_refl 0⟩ (poI_of h)
  · replace h := it_f h z22
    refine ct_aload_0 (q := 155) dX7_part0_154 rfl ?_
    obtain ⟨x23, gx23, h⟩ := ob h
    refine ct_getI (q := 158) hB dX7_part0_155 fl_RX7_284 rfl gx23 rfl ?_
    refine ct_bipush (v := 8) (q := 160) dX7_part0_158 (by decide) rfl ?_
    refine ct_icmp_ne (q := 163) (tgt := 165) dX7_part0_160 (by decide) rfl (fun z24 => ?_) (fun z24 => ?_)
    · replace h := it_f h z24
      refine ct_aload_0 (q := 166) dX7_part0_165 rfl ?_
      refine ct_dup (q := 167) dX7_part0_166 rfl rfl ?_
      obtain ⟨x25, gx25, h⟩ := ob h
      refine ct_getI (q := 170) hB dX7_part0_167 fl_RX7_284 rfl gx25 rfl ?_
      refine ct_iconst (v := 1) (q := 171) dX7_part0_170 (by decide) rfl ?_
      refine ct_iadd (q := 172) dX7_part0_171 rfl ?_
      obtain ⟨M26, gM26, h⟩ := ob h
      refine ct_putI (q := 175) hB dX7_part0_172 fl_RX7_284 rfl rfl (Or.inl rfl) gM26 rfl ?_
      refine ct_aload_0 (q := 176) dX7_part0_175 rfl ?_
      obtain ⟨r27, gr27, h⟩ := ob h
      obtain ⟨er27, gr27⟩ := cV_spec gr27
      refine ct_cVv0 (q := 179) hB dX7_part0_176 lk_RX7_257 (Nat.le_trans (by decide : _ ≤ 3) hb) (ctX7_nextToken hB gr27) er27 (by decide) rfl (Nat.le_of_ble_eq_true rfl) rfl ?_
      refine ct_aload_0 (q := 180) dX7_part0_179 rfl ?_
      refine ct_iload_1 (q := 181) dX7_part0_180 rfl ?_
      obtain ⟨r28, gr28, h⟩ := ob h
      obtain ⟨er28, gr28⟩ := cV_spec gr28
      refine ct_cVi1 (q := 184) hB dX7_part0_181 lk_RX7_287 hlv (hF0 _ _ _ _ _ _ gr28) er28 (by decide) rfl (Nat.le_of_ble_eq_true rfl) rfl ?_
      refine ct_if_eq (q := 187) (tgt := 196) dX7_part0_184 (by decide) rfl (fun z29 => ?_) (fun z29 => ?_)
      · replace h := it_t h z29
        refine ct_iconst (v := 0) (q := 197) dX7_part0_196 (by decide) rfl ?_
        exact ct_zret dX7_part0_197 rfl (by decide) ⟨Nat.le_refl 0, Nat.le_refl 0⟩ (poI_of h)
      · replace h := it_f h z29
        refine ct_aload_0 (q := 188) dX7_part0_187 rfl ?_
        refine ct_bipush (v := 41) (q := 190) dX7_part0_188 (by decide) rfl ?_
        obtain ⟨r30, gr30, h⟩ := ob h
        obtain ⟨er30, gr30⟩ := cV_spec gr30
        refine ct_cVi1 (q := 193) hB dX7_part0_190 lk_RX7_254 (Nat.le_trans (by decide : _ ≤ 3) hb) (ctX7_isSign hB gr30) er30 (by decide) rfl (Nat.le_of_ble_eq_true rfl) rfl ?_
        refine ct_if_ne (q := 196) (tgt := 198) dX7_part0_193 (by decide) rfl (fun z31 => ?_) (fun z31 => ?_)
        · replace h := it_f h z31
          refine ct_aload_0 (q := 199) dX7_part0_198 rfl ?_
          refine ct_dup (q := 200) dX7_part0_199 rfl rfl ?_
          obtain ⟨x32, gx32, h⟩ := ob h
          refine ct_getI (q := 203) hB dX7_part0_200 fl_RX7_284 rfl gx32 rfl ?_
          refine ct_iconst (v := 1) (q := 204) dX7_part0_203 (by decide) rfl ?_
          refine ct_isub (q := 205) dX7_part0_204 rfl ?_
          obtain ⟨M33, gM33, h⟩ := ob h
          refine ct_putI (q := 208) hB dX7_part0_205 fl_RX7_284 rfl rfl (Or.inl rfl) gM33 rfl ?_
          refine ct_aload_0 (q := 209) dX7_part0_208 rfl ?_
          obtain ⟨r34, gr34, h⟩ := ob h
          obtain ⟨er34, gr34⟩ := cV_spec gr34
          refine ct_cVv0 (q := 212) hB dX7_part0_209 lk_RX7_257 (Nat.le_trans (by decide : _ ≤ 3) hb) (ctX7_nextToken hB gr34) er34 (by decide) rfl (Nat.le_of_ble_eq_true rfl) rfl ?_
          refine ct_iconst (v := 1) (q := 213) dX7_part0_212 (by decide) rfl ?_
          exact ct_zret dX7_part0_213 rfl (by decide) ⟨Nat.le_refl 0, Nat.le_refl 0⟩ (poI_of h)
        · replace h := it_t h z31
          refine ct_iconst (v := 0) (q := 197) dX7_part0_196 (by decide) rfl ?_
          exact ct_zret dX7_part0_197 rfl (by decide) ⟨Nat.le_refl 0, Nat.le_refl 0⟩ (poI_of h)
    · replace h := it_t h z24
      refine ct_iconst (v := 0) (q := 164) dX7_part0_163 (by decide) rfl ?_
      exact ct_zret dX7_part0_164 rfl (by decide) ⟨Nat.le_refl 0, Nat.le_refl 0⟩ (poI_of h)

def fX7_part0_b84 (F : Nat → Nat → Int32 → Int32 → Int32 → ctM → Option (Int32 × ctM)) (a0 : Nat) (x1 : Int32) (M : ctM) : Option (Int32 × ctM) :=
  (cV kdM 7 a0 (fX7_isSign a0 33 M)).bind fun r21 =>
  if r21.1 = 0 then
    fX7_part0_b145 F a0 x1 r21.2
  else
    (gI kdM 7 25 a0 r21.2).bind fun x23 =>
    if 8 ≤ x23 then
      fX7_part0_b145 F a0 x1 r21.2
    else
      (gI kdM 7 25 a0 r21.2).bind fun x25 =>
      (pI kdM 7 25 a0 (x25 + 1) r21.2).bind fun M26 =>
      (cV kdM 7 a0 (fX7_nextToken a0 M26)).bind fun r27 =>
      (cV kdM 7 a0 (F 5 a0 x1 0 0 r27)).bind fun r28 =>
      if r28.1 = 0 then
        some (0, r28.2)
      else
        (gI kdM 7 25 a0 r28.2).bind fun x30 =>
        (pI kdM 7 25 a0 (x30 - 1) r28.2).bind fun M31 =>
        (cV kdM 7 a0 (fX7_step a0 2 33 M31)).bind fun r32 =>
        some (1, r32)

set_option maxHeartbeats 4000000 in
set_option maxRecDepth 20000 in
theorem vX7_part0_b84 {B : ctB} {n : Nat} (hB : ctOk B kdM lnM n) {lv lw : Nat} {F : Nat → Nat → Int32 → Int32 → Int32 → ctM → Option (Int32 × ctM)} (hb : 3 ≤ lv) (hlv : lw + 1 ≤ lv) (hF0 : ∀ (a : Nat) (x y w : Int32) (M : ctM) (r : Int32 × ctM), F 0 a x y w M = some r → ctC B mX7_either (lw, 0, 0) [.ref a, .int x] n M (poI r n)) (hF1 : ∀ (a : Nat) (x y w : Int32) (M : ctM) (r : Int32 × ctM), F 1 a x y w M = some r → ctC B mX7_both (lw, 0, 0) [.ref a, .int x] n M (poI r n)) (hF2 : ∀ (a : Nat) (x y w : Int32) (M : ctM) (r : Int32 × ctM), F 2 a x y w M = some r → ctC B mX7_test (lw, 0, 0) [.ref a, .int x] n M (poI r n)) (hF3 : ∀ (a : Nat) (x y w : Int32) (M : ctM) (r : Int32 × ctM), F 3 a x y w M = some r → ctC B mX7_sum (lw, 0, 0) [.ref a, .int x] n M (poI r n)) (hF4 : ∀ (a : Nat) (x y w : Int32) (M : ctM) (r : Int32 × ctM), F 4 a x y w M = some r → ctC B mX7_term (lw, 0, 0) [.ref a, .int x] n M (poI r n)) (hF5 : ∀ (a : Nat) (x y w : Int32) (M : ctM) (r : Int32 × ctM), F 5 a x y w M = some r → ctC B mX7_part0 (lw, 0, 0) [.ref a, .int x] n M (poI r n)) : ∀ (a0 : Nat) (x1 : Int32) (M : ctM) (r : Int32 × ctM), fX7_part0_b84 F a0 x1 M = some r → ctV B mX7_part0 (lv, 0, 0) (poI r n) 84 [some (.ref a0), some (.int x1)] [] (0, 0) n M := by
  intro a0 x1 M r h
  unfold fX7_part0_b84 at h
  refine ct_aload_0 (q := 85) dX7_part0_84 rfl ?_
  refine ct_bipush (v := 33) (q := 87) dX7_part0_85 (by decide) rfl ?_
  obtain ⟨r21, gr21, h⟩ := ob h
  obtain ⟨er21, gr21⟩ := cV_spec gr21
  refine ct_cVi1 (q := 90) hB dX7_part0_87 lk_RX7_254 (Nat.le_trans (by decide : _ ≤ 3) hb) (ctX7_isSign hB gr21) er21 (by decide) rfl (Nat.le_of_ble_eq_true rfl) rfl ?_
  refine ct_if_eq (q := 93) (tgt := 145) dX7_part0_90 (by decide) rfl (fun z22 => ?_) (fun z22 => ?_)
  · replace h := it_t h z22
    exact ct_lessK (vX7_part0_b145 hB hb hlv hF0 hF1 hF2 hF3 hF4 hF5  a0 x1 r21.2 r h) (And.intro rfl (And.intro rfl (trivial)))
  · replace h := it_f h z22
    refine ct_aload_0 (q := 94) dX7_part0_93 rfl ?_
    obtain ⟨x23, gx23, h⟩ := ob h
    refine ct_getI (q := 97) hB dX7_part0_94 fl_RX7_282 rfl gx23 rfl ?_
    refine ct_bipush (v := 8) (q := 99) dX7_part0_97 (by decide) rfl ?_
    refine ct_icmp_ge (q := 102) (tgt := 145) dX7_part0_99 (by decide) rfl (fun z24 => ?_) (fun z24 => ?_)
    · replace h := it_t h z24
      exact ct_lessK (vX7_part0_b145 hB hb hlv hF0 hF1 hF2 hF3 hF4 hF5  a0 x1 r21.2 r h) (And.intro rfl (And.intro rfl (trivial)))
    · replace h := it_f h z24
      refine ct_aload_0 (q := 103) dX7_part0_102 rfl ?_
      refine ct_dup (q := 104) dX7_part0_103 rfl rfl ?_
      obtain ⟨x25, gx25, h⟩ := ob h
      refine ct_getI (q := 107) hB dX7_part0_104 fl_RX7_282 rfl gx25 rfl ?_
      refine ct_iconst (v := 1) (q := 108) dX7_part0_107 (by decide) rfl ?_
      refine ct_iadd (q := 109) dX7_part0_108 rfl ?_
      obtain ⟨M26, gM26, h⟩ := ob h
      refine ct_putI (q := 112) hB dX7_part0_109 fl_RX7_282 rfl rfl (Or.inl rfl) gM26 rfl ?_
      refine ct_aload_0 (q := 113) dX7_part0_112 rfl ?_
      obtain ⟨r27, gr27, h⟩ := ob h
      obtain ⟨er27, gr27⟩ := cV_spec gr27
      refine ct_cVv0 (q := 116) hB dX7_part0_113 lk_RX7_257 (Nat.le_trans (by decide : _ ≤ 3) hb) (ctX7_nextToken hB gr27) er27 (by decide) rfl (Nat.le_of_ble_eq_true rfl) rfl ?_
      refine ct_aload_0 (q := 117) dX7_part0_116 rfl ?_
      refine ct_iload_1 (q := 118) dX7_part0_117 rfl ?_
      obtain ⟨r28, gr28, h⟩ := ob h
      obtain ⟨er28, gr28⟩ := cV_spec gr28
      refine ct_cVi1 (q := 121) hB dX7_part0_118 lk_RX7_273 hlv (hF5 _ _ _ _ _ _ gr28) er28 (by decide) rfl (Nat.le_of_ble_eq_true rfl) rfl ?_
      refine ct_if_ne (q := 124) (tgt := 126) dX7_part0_121 (by decide) rfl (fun z29 => ?_) (fun z29 => ?_)
      · replace h := it_f h z29
        refine ct_aload_0 (q := 127) dX7_part0_126 rfl ?_
        refine ct_dup (q := 128) dX7_part0_127 rfl rfl ?_
        obtain ⟨x30, gx30, h⟩ := ob h
        refine ct_getI (q := 131) hB dX7_part0_128 fl_RX7_282 rfl gx30 rfl ?_
        refine ct_iconst (v := 1) (q := 132) dX7_part0_131 (by decide) rfl ?_
        refine ct_isub (q := 133) dX7_part0_132 rfl ?_
        obtain ⟨M31, gM31, h⟩ := ob h
        refine ct_putI (q := 136) hB dX7_part0_133 fl_RX7_282 rfl rfl (Or.inl rfl) gM31 rfl ?_
        refine ct_aload_0 (q := 137) dX7_part0_136 rfl ?_
        refine ct_iconst (v := 2) (q := 138) dX7_part0_137 (by decide) rfl ?_
        refine ct_bipush (v := 33) (q := 140) dX7_part0_138 (by decide) rfl ?_
        obtain ⟨r32, gr32, h⟩ := ob h
        obtain ⟨er32, gr32⟩ := cV_spec gr32
        refine ct_cVv2 (q := 143) hB dX7_part0_140 lk_RX7_260 (Nat.le_trans (by decide : _ ≤ 3) hb) (ctX7_step hB gr32) er32 (by decide) rfl (Nat.le_of_ble_eq_true rfl) rfl ?_
        refine ct_iconst (v := 1) (q := 144) dX7_part0_143 (by decide) rfl ?_
        exact ct_zret dX7_part0_144 rfl (by decide) ⟨Nat.le_refl 0, Nat.le_refl 0⟩ (poI_of h)
      · replace h := it_t h z29
        refine ct_iconst (v := 0) (q := 125) dX7_part0_124 (by decide) rfl ?_
        exact ct_zret dX7_part0_125 rfl (by decide) ⟨Nat.le_refl 0, Nat.le_refl 0⟩ (poI_of h)

def fX7_part0 (F : Nat → Nat → Int32 → Int32 → Int32 → ctM → Option (Int32 × ctM)) (a0 : Nat) (x1 : Int32) (M : ctM) : Option (Int32 × ctM) :=
  (gI kdM 7 21 a0 M).bind fun x21 =>
  if x21 = 2 then
    (gI kdM 7 22 a0 M).bind fun x35 =>
    (cV kdM 7 a0 (fX7_step a0 0 x35 M)).bind fun r36 =>
    (gI kdM 7 28 a0 r36).bind fun x37 =>
    (pI kdM 7 28 a0 (x37 + 1) r36).bind fun M38 =>
    (cV kdM 7 a0 (fX7_nextToken a0 M38)).bind fun r39 =>
    some (1, r39)
  else
    (gI kdM 7 21 a0 M).bind fun x23 =>
    if x23 = 1 then
      (gI kdM 7 23 a0 M).bind fun x25 =>
      if x25 = 0 then
        fX7_part0_b84 F a0 x1 M
      else
        (gI kdM 7 23 a0 M).bind fun x27 =>
        (fX7_isName x1 x27 M).bind fun r28 =>
        if r28.1 = 0 then
          fX7_part0_b84 F a0 x1 r28.2
        else
          (gI kdM 7 23 a0 r28.2).bind fun x30 =>
          (cV kdM 7 a0 (fX7_step a0 1 x30 r28.2)).bind fun r31 =>
          (gI kdM 7 28 a0 r31).bind fun x32 =>
          (pI kdM 7 28 a0 (x32 + 1) r31).bind fun M33 =>
          (cV kdM 7 a0 (fX7_nextToken a0 M33)).bind fun r34 =>
          some (1, r34)
    else
      fX7_part0_b84 F a0 x1 M

set_option maxHeartbeats 4000000 in
set_option maxRecDepth 20000 in
theorem ctX7_part0 {B : ctB} {n : Nat} (hB : ctOk B kdM lnM n) {lv lw : Nat} {F : Nat → Nat → Int32 → Int32 → Int32 → ctM → Option (Int32 × ctM)} (hb : 3 ≤ lv) (hlv : lw + 1 ≤ lv) (hF0 : ∀ (a : Nat) (x y w : Int32) (M : ctM) (r : Int32 × ctM), F 0 a x y w M = some r → ctC B mX7_either (lw, 0, 0) [.ref a, .int x] n M (poI r n)) (hF1 : ∀ (a : Nat) (x y w : Int32) (M : ctM) (r : Int32 × ctM), F 1 a x y w M = some r → ctC B mX7_both (lw, 0, 0) [.ref a, .int x] n M (poI r n)) (hF2 : ∀ (a : Nat) (x y w : Int32) (M : ctM) (r : Int32 × ctM), F 2 a x y w M = some r → ctC B mX7_test (lw, 0, 0) [.ref a, .int x] n M (poI r n)) (hF3 : ∀ (a : Nat) (x y w : Int32) (M : ctM) (r : Int32 × ctM), F 3 a x y w M = some r → ctC B mX7_sum (lw, 0, 0) [.ref a, .int x] n M (poI r n)) (hF4 : ∀ (a : Nat) (x y w : Int32) (M : ctM) (r : Int32 × ctM), F 4 a x y w M = some r → ctC B mX7_term (lw, 0, 0) [.ref a, .int x] n M (poI r n)) (hF5 : ∀ (a : Nat) (x y w : Int32) (M : ctM) (r : Int32 × ctM), F 5 a x y w M = some r → ctC B mX7_part0 (lw, 0, 0) [.ref a, .int x] n M (poI r n)) {a0 : Nat} {x1 : Int32} {M : ctM} {r : Int32 × ctM} (h : fX7_part0 F a0 x1 M = some r) : ctC B mX7_part0 (lv, 0, 0) [.ref a0, .int x1] n M (poI r n) := by
  refine ctC_of (by decide) (Nat.le_of_ble_eq_true rfl) ?_
  show ctV B mX7_part0 (lv, 0, 0) (poI r n) 0 [some (.ref a0), some (.int x1)] [] (0, 0) n M
  unfold fX7_part0 at h
  refine ct_aload_0 (q := 1) dX7_part0_0 rfl ?_
  obtain ⟨x21, gx21, h⟩ := ob h
  refine ct_getI (q := 4) hB dX7_part0_1 fl_RX7_223 rfl gx21 rfl ?_
  refine ct_iconst (v := 2) (q := 5) dX7_part0_4 (by decide) rfl ?_
  refine ct_icmp_ne (q := 8) (tgt := 33) dX7_part0_5 (by decide) rfl (fun z22 => ?_) (fun z22 => ?_)
  · replace h := it_f h z22
    refine ct_aload_0 (q := 34) dX7_part0_33 rfl ?_
    obtain ⟨x23, gx23, h⟩ := ob h
    refine ct_getI (q := 37) hB dX7_part0_34 fl_RX7_223 rfl gx23 rfl ?_
    refine ct_iconst (v := 1) (q := 38) dX7_part0_37 (by decide) rfl ?_
    refine ct_icmp_ne (q := 41) (tgt := 84) dX7_part0_38 (by decide) rfl (fun z24 => ?_) (fun z24 => ?_)
    · replace h := it_f h z24
      exact ct_lessK (vX7_part0_b84 hB hb hlv hF0 hF1 hF2 hF3 hF4 hF5  a0 x1 M r h) (And.intro rfl (And.intro rfl (trivial)))
    · replace h := it_t h z24
      refine ct_aload_0 (q := 42) dX7_part0_41 rfl ?_
      obtain ⟨x25, gx25, h⟩ := ob h
      refine ct_getI (q := 45) hB dX7_part0_42 fl_RX7_232 rfl gx25 rfl ?_
      refine ct_if_eq (q := 48) (tgt := 84) dX7_part0_45 (by decide) rfl (fun z26 => ?_) (fun z26 => ?_)
      · replace h := it_t h z26
        exact ct_lessK (vX7_part0_b84 hB hb hlv hF0 hF1 hF2 hF3 hF4 hF5  a0 x1 M r h) (And.intro rfl (And.intro rfl (trivial)))
      · replace h := it_f h z26
        refine ct_iload_1 (q := 49) dX7_part0_48 rfl ?_
        refine ct_aload_0 (q := 50) dX7_part0_49 rfl ?_
        obtain ⟨x27, gx27, h⟩ := ob h
        refine ct_getI (q := 53) hB dX7_part0_50 fl_RX7_232 rfl gx27 rfl ?_
        obtain ⟨r28, gr28, h⟩ := ob h
        refine ct_cSi2 (q := 56) dX7_part0_53 lk_RX7_279 (Nat.le_trans (by decide : _ ≤ 3) hb) (ctX7_isName hB gr28) (Nat.le_of_ble_eq_true rfl) rfl ?_
        refine ct_if_eq (q := 59) (tgt := 84) dX7_part0_56 (by decide) rfl (fun z29 => ?_) (fun z29 => ?_)
        · replace h := it_t h z29
          exact ct_lessK (vX7_part0_b84 hB hb hlv hF0 hF1 hF2 hF3 hF4 hF5  a0 x1 r28.2 r h) (And.intro rfl (And.intro rfl (trivial)))
        · replace h := it_f h z29
          refine ct_aload_0 (q := 60) dX7_part0_59 rfl ?_
          refine ct_iconst (v := 1) (q := 61) dX7_part0_60 (by decide) rfl ?_
          refine ct_aload_0 (q := 62) dX7_part0_61 rfl ?_
          obtain ⟨x30, gx30, h⟩ := ob h
          refine ct_getI (q := 65) hB dX7_part0_62 fl_RX7_232 rfl gx30 rfl ?_
          obtain ⟨r31, gr31, h⟩ := ob h
          obtain ⟨er31, gr31⟩ := cV_spec gr31
          refine ct_cVv2 (q := 68) hB dX7_part0_65 lk_RX7_260 (Nat.le_trans (by decide : _ ≤ 3) hb) (ctX7_step hB gr31) er31 (by decide) rfl (Nat.le_of_ble_eq_true rfl) rfl ?_
          refine ct_aload_0 (q := 69) dX7_part0_68 rfl ?_
          refine ct_dup (q := 70) dX7_part0_69 rfl rfl ?_
          obtain ⟨x32, gx32, h⟩ := ob h
          refine ct_getI (q := 73) hB dX7_part0_70 fl_RX7_276 rfl gx32 rfl ?_
          refine ct_iconst (v := 1) (q := 74) dX7_part0_73 (by decide) rfl ?_
          refine ct_iadd (q := 75) dX7_part0_74 rfl ?_
          obtain ⟨M33, gM33, h⟩ := ob h
          refine ct_putI (q := 78) hB dX7_part0_75 fl_RX7_276 rfl rfl (Or.inl rfl) gM33 rfl ?_
          refine ct_aload_0 (q := 79) dX7_part0_78 rfl ?_
          obtain ⟨r34, gr34, h⟩ := ob h
          obtain ⟨er34, gr34⟩ := cV_spec gr34
          refine ct_cVv0 (q := 82) hB dX7_part0_79 lk_RX7_257 (Nat.le_trans (by decide : _ ≤ 3) hb) (ctX7_nextToken hB gr34) er34 (by decide) rfl (Nat.le_of_ble_eq_true rfl) rfl ?_
          refine ct_iconst (v := 1) (q := 83) dX7_part0_82 (by decide) rfl ?_
          exact ct_zret dX7_part0_83 rfl (by decide) ⟨Nat.le_refl 0, Nat.le_refl 0⟩ (poI_of h)
  · replace h := it_t h z22
    refine ct_aload_0 (q := 9) dX7_part0_8 rfl ?_
    refine ct_iconst (v := 0) (q := 10) dX7_part0_9 (by decide) rfl ?_
    refine ct_aload_0 (q := 11) dX7_part0_10 rfl ?_
    obtain ⟨x35, gx35, h⟩ := ob h
    refine ct_getI (q := 14) hB dX7_part0_11 fl_RX7_238 rfl gx35 rfl ?_
    obtain ⟨r36, gr36, h⟩ := ob h
    obtain ⟨er36, gr36⟩ := cV_spec gr36
    refine ct_cVv2 (q := 17) hB dX7_part0_14 lk_RX7_260 (Nat.le_trans (by decide : _ ≤ 3) hb) (ctX7_step hB gr36) er36 (by decide) rfl (Nat.le_of_ble_eq_true rfl) rfl ?_
    refine ct_aload_0 (q := 18) dX7_part0_17 rfl ?_
    refine ct_dup (q := 19) dX7_part0_18 rfl rfl ?_
    obtain ⟨x37, gx37, h⟩ := ob h
    refine ct_getI (q := 22) hB dX7_part0_19 fl_RX7_276 rfl gx37 rfl ?_
    refine ct_iconst (v := 1) (q := 23) dX7_part0_22 (by decide) rfl ?_
    refine ct_iadd (q := 24) dX7_part0_23 rfl ?_
    obtain ⟨M38, gM38, h⟩ := ob h
    refine ct_putI (q := 27) hB dX7_part0_24 fl_RX7_276 rfl rfl (Or.inl rfl) gM38 rfl ?_
    refine ct_aload_0 (q := 28) dX7_part0_27 rfl ?_
    obtain ⟨r39, gr39, h⟩ := ob h
    obtain ⟨er39, gr39⟩ := cV_spec gr39
    refine ct_cVv0 (q := 31) hB dX7_part0_28 lk_RX7_257 (Nat.le_trans (by decide : _ ≤ 3) hb) (ctX7_nextToken hB gr39) er39 (by decide) rfl (Nat.le_of_ble_eq_true rfl) rfl ?_
    refine ct_iconst (v := 1) (q := 32) dX7_part0_31 (by decide) rfl ?_
    exact ct_zret dX7_part0_32 rfl (by decide) ⟨Nat.le_refl 0, Nat.le_refl 0⟩ (poI_of h)

def fXQ : Nat → Nat → Nat → Int32 → Int32 → Int32 → ctM → Option (Int32 × ctM)
  | 0, _, _, _, _, _, _ => none
  | d + 1, z, a, x, y, w, M =>
    if z = 0 then fX7_either (fXQ d) a x M else
    if z = 1 then fX7_both (fXQ d) a x M else
    if z = 2 then fX7_test (fXQ d) a x M else
    if z = 3 then fX7_sum (fXQ d) a x M else
    if z = 4 then fX7_term (fXQ d) a x M else
    fX7_part0 (fXQ d) a x M

set_option maxHeartbeats 4000000 in
set_option maxRecDepth 20000 in
theorem ctXQ {B : ctB} {n : Nat} (hB : ctOk B kdM lnM n) : ∀ (d : Nat), (∀ (a : Nat) (x y w : Int32) (M : ctM) (r : Int32 × ctM), fXQ d 0 a x y w M = some r → ctC B mX7_either (3 + d, 0, 0) [.ref a, .int x] n M (poI r n)) ∧ (∀ (a : Nat) (x y w : Int32) (M : ctM) (r : Int32 × ctM), fXQ d 1 a x y w M = some r → ctC B mX7_both (3 + d, 0, 0) [.ref a, .int x] n M (poI r n)) ∧ (∀ (a : Nat) (x y w : Int32) (M : ctM) (r : Int32 × ctM), fXQ d 2 a x y w M = some r → ctC B mX7_test (3 + d, 0, 0) [.ref a, .int x] n M (poI r n)) ∧ (∀ (a : Nat) (x y w : Int32) (M : ctM) (r : Int32 × ctM), fXQ d 3 a x y w M = some r → ctC B mX7_sum (3 + d, 0, 0) [.ref a, .int x] n M (poI r n)) ∧ (∀ (a : Nat) (x y w : Int32) (M : ctM) (r : Int32 × ctM), fXQ d 4 a x y w M = some r → ctC B mX7_term (3 + d, 0, 0) [.ref a, .int x] n M (poI r n)) ∧ (∀ (a : Nat) (x y w : Int32) (M : ctM) (r : Int32 × ctM), fXQ d 5 a x y w M = some r → ctC B mX7_part0 (3 + d, 0, 0) [.ref a, .int x] n M (poI r n)) := by
  intro d
  induction d with
  | zero => exact ⟨fun a x y w M r h => absurd h (by simp [fXQ]), fun a x y w M r h => absurd h (by simp [fXQ]), fun a x y w M r h => absurd h (by simp [fXQ]), fun a x y w M r h => absurd h (by simp [fXQ]), fun a x y w M r h => absurd h (by simp [fXQ]), fun a x y w M r h => absurd h (by simp [fXQ])⟩
  | succ d ih =>
    obtain ⟨hF0, hF1, hF2, hF3, hF4, hF5⟩ := ih
    refine ⟨fun a x y w M r h => ?_, fun a x y w M r h => ?_, fun a x y w M r h => ?_, fun a x y w M r h => ?_, fun a x y w M r h => ?_, fun a x y w M r h => ?_⟩
    · rw [fXQ] at h
      replace h := it_t h rfl
      exact ctX7_either hB (lv := 3 + (d + 1)) (lw := 3 + d) (Nat.le_add_right _ _) (Nat.le_refl _) hF0 hF1 hF2 hF3 hF4 hF5 h
    · rw [fXQ] at h
      replace h := it_f h (by decide)
      replace h := it_t h rfl
      exact ctX7_both hB (lv := 3 + (d + 1)) (lw := 3 + d) (Nat.le_add_right _ _) (Nat.le_refl _) hF0 hF1 hF2 hF3 hF4 hF5 h
    · rw [fXQ] at h
      replace h := it_f h (by decide)
      replace h := it_f h (by decide)
      replace h := it_t h rfl
      exact ctX7_test hB (lv := 3 + (d + 1)) (lw := 3 + d) (Nat.le_add_right _ _) (Nat.le_refl _) hF0 hF1 hF2 hF3 hF4 hF5 h
    · rw [fXQ] at h
      replace h := it_f h (by decide)
      replace h := it_f h (by decide)
      replace h := it_f h (by decide)
      replace h := it_t h rfl
      exact ctX7_sum hB (lv := 3 + (d + 1)) (lw := 3 + d) (Nat.le_add_right _ _) (Nat.le_refl _) hF0 hF1 hF2 hF3 hF4 hF5 h
    · rw [fXQ] at h
      replace h := it_f h (by decide)
      replace h := it_f h (by decide)
      replace h := it_f h (by decide)
      replace h := it_f h (by decide)
      replace h := it_t h rfl
      exact ctX7_term hB (lv := 3 + (d + 1)) (lw := 3 + d) (Nat.le_add_right _ _) (Nat.le_refl _) hF0 hF1 hF2 hF3 hF4 hF5 h
    · rw [fXQ] at h
      replace h := it_f h (by decide)
      replace h := it_f h (by decide)
      replace h := it_f h (by decide)
      replace h := it_f h (by decide)
      replace h := it_f h (by decide)
      exact ctX7_part0 hB (lv := 3 + (d + 1)) (lw := 3 + d) (Nat.le_add_right _ _) (Nat.le_refl _) hF0 hF1 hF2 hF3 hF4 hF5 h

theorem ctXQ_0 {B : ctB} {n : Nat} (hB : ctOk B kdM lnM n) (d : Nat) : (∀ (a : Nat) (x y w : Int32) (M : ctM) (r : Int32 × ctM), fXQ d 0 a x y w M = some r → ctC B mX7_either (3 + d, 0, 0) [.ref a, .int x] n M (poI r n)) := (ctXQ hB d).1

theorem ctXQ_1 {B : ctB} {n : Nat} (hB : ctOk B kdM lnM n) (d : Nat) : (∀ (a : Nat) (x y w : Int32) (M : ctM) (r : Int32 × ctM), fXQ d 1 a x y w M = some r → ctC B mX7_both (3 + d, 0, 0) [.ref a, .int x] n M (poI r n)) := (ctXQ hB d).2.1

theorem ctXQ_2 {B : ctB} {n : Nat} (hB : ctOk B kdM lnM n) (d : Nat) : (∀ (a : Nat) (x y w : Int32) (M : ctM) (r : Int32 × ctM), fXQ d 2 a x y w M = some r → ctC B mX7_test (3 + d, 0, 0) [.ref a, .int x] n M (poI r n)) := (ctXQ hB d).2.2.1

theorem ctXQ_3 {B : ctB} {n : Nat} (hB : ctOk B kdM lnM n) (d : Nat) : (∀ (a : Nat) (x y w : Int32) (M : ctM) (r : Int32 × ctM), fXQ d 3 a x y w M = some r → ctC B mX7_sum (3 + d, 0, 0) [.ref a, .int x] n M (poI r n)) := (ctXQ hB d).2.2.2.1

theorem ctXQ_4 {B : ctB} {n : Nat} (hB : ctOk B kdM lnM n) (d : Nat) : (∀ (a : Nat) (x y w : Int32) (M : ctM) (r : Int32 × ctM), fXQ d 4 a x y w M = some r → ctC B mX7_term (3 + d, 0, 0) [.ref a, .int x] n M (poI r n)) := (ctXQ hB d).2.2.2.2.1

theorem ctXQ_5 {B : ctB} {n : Nat} (hB : ctOk B kdM lnM n) (d : Nat) : (∀ (a : Nat) (x y w : Int32) (M : ctM) (r : Int32 × ctM), fXQ d 5 a x y w M = some r → ctC B mX7_part0 (3 + d, 0, 0) [.ref a, .int x] n M (poI r n)) := (ctXQ hB d).2.2.2.2.2

def fX7_parse_b111 (a0 : Nat) (x1 : Int32) (x2 : Int32) (M : ctM) : Option (Int32 × ctM) :=
  (pI kdM 7 18 a0 0 M).bind fun M21 =>
  if x2 = 0 then
    some ((-1), M21)
  else
    some (x1, M21)

set_option maxHeartbeats 4000000 in
set_option maxRecDepth 20000 in
theorem vX7_parse_b111 {B : ctB} {n : Nat} (hB : ctOk B kdM lnM n) : ∀ (a0 : Nat) (x1 : Int32) (x2 : Int32) (M : ctM) (r : Int32 × ctM), fX7_parse_b111 a0 x1 x2 M = some r → ctV B mX7_parse (124, 0, 0) (poI r n) 111 [some (.ref a0), some (.int x1), some (.int x2)] [] (0, 0) n M := by
  intro a0 x1 x2 M r h
  unfold fX7_parse_b111 at h
  refine ct_aload_0 (q := 112) dX7_parse_111 rfl ?_
  refine ct_iconst (v := 0) (q := 113) dX7_parse_112 (by decide) rfl ?_
  obtain ⟨M21, gM21, h⟩ := ob h
  refine ct_putI (q := 116) hB dX7_parse_113 fl_RX7_209 rfl rfl (Or.inl rfl) gM21 rfl ?_
  refine ct_iload_2 (q := 117) dX7_parse_116 rfl ?_
  refine ct_if_eq (q := 120) (tgt := 124) dX7_parse_117 (by decide) rfl (fun z22 => ?_) (fun z22 => ?_)
  · replace h := it_t h z22
    refine ct_iconst (v := -1) (q := 125) dX7_parse_124 (by decide) rfl ?_
    exact ct_iret dX7_parse_125 rfl ⟨Nat.le_refl 0, Nat.le_refl 0⟩ (poI_of h)
  · replace h := it_f h z22
    refine ct_iload_1 (q := 121) dX7_parse_120 rfl ?_
    refine ct_goto (q := 125) dX7_parse_121 (by decide) ?_
    exact ct_iret dX7_parse_125 rfl ⟨Nat.le_refl 0, Nat.le_refl 0⟩ (poI_of h)

def fX7_parse_b110 (a0 : Nat) (x1 : Int32) (xs0 : Int32) (M : ctM) : Option (Int32 × ctM) :=
  fX7_parse_b111 a0 x1 xs0 M

set_option maxHeartbeats 4000000 in
set_option maxRecDepth 20000 in
theorem vX7_parse_b110 {B : ctB} {n : Nat} (hB : ctOk B kdM lnM n) : ∀ (a0 : Nat) (x1 : Int32) (xs0 : Int32) (M : ctM) (r : Int32 × ctM), fX7_parse_b110 a0 x1 xs0 M = some r → ctV B mX7_parse (124, 0, 0) (poI r n) 110 [some (.ref a0), some (.int x1), none] [.int xs0] (0, 0) n M := by
  intro a0 x1 xs0 M r h
  unfold fX7_parse_b110 at h
  refine ct_istore_2 (q := 111) dX7_parse_110 (by decide) rfl rfl ?_
  exact ct_lessK (vX7_parse_b111 hB  a0 x1 xs0 M r h) (And.intro rfl (And.intro rfl (And.intro rfl (trivial))))

def fX7_parse_b109 (a0 : Nat) (x1 : Int32) (M : ctM) : Option (Int32 × ctM) :=
  fX7_parse_b110 a0 x1 0 M

set_option maxHeartbeats 4000000 in
set_option maxRecDepth 20000 in
theorem vX7_parse_b109 {B : ctB} {n : Nat} (hB : ctOk B kdM lnM n) : ∀ (a0 : Nat) (x1 : Int32) (M : ctM) (r : Int32 × ctM), fX7_parse_b109 a0 x1 M = some r → ctV B mX7_parse (124, 0, 0) (poI r n) 109 [some (.ref a0), some (.int x1), none] [] (0, 0) n M := by
  intro a0 x1 M r h
  unfold fX7_parse_b109 at h
  refine ct_iconst (v := 0) (q := 110) dX7_parse_109 (by decide) rfl ?_
  exact ct_lessK (vX7_parse_b110 hB  a0 x1 0 M r h) (And.intro rfl (And.intro rfl (trivial)))

def fX7_parse_b81 (a0 : Nat) (x1 : Int32) (xs0 : Int32) (M : ctM) : Option (Int32 × ctM) :=
  if xs0 = 0 then
    fX7_parse_b111 a0 x1 xs0 M
  else
    (cV kdM 7 a0 (fX7_nextToken a0 M)).bind fun r22 =>
    (cV kdM 7 a0 (fXQ 120 0 a0 x1 0 0 r22)).bind fun r23 =>
    if r23.1 = 0 then
      fX7_parse_b109 a0 x1 r23.2
    else
      (gI kdM 7 21 a0 r23.2).bind fun x25 =>
      if x25 = 0 then
        fX7_parse_b110 a0 x1 1 r23.2
      else
        fX7_parse_b109 a0 x1 r23.2

set_option maxHeartbeats 4000000 in
set_option maxRecDepth 20000 in
theorem vX7_parse_b81 {B : ctB} {n : Nat} (hB : ctOk B kdM lnM n) : ∀ (a0 : Nat) (x1 : Int32) (xs0 : Int32) (M : ctM) (r : Int32 × ctM), fX7_parse_b81 a0 x1 xs0 M = some r → ctV B mX7_parse (124, 0, 0) (poI r n) 81 [some (.ref a0), some (.int x1), none] [.int xs0] (0, 0) n M := by
  intro a0 x1 xs0 M r h
  unfold fX7_parse_b81 at h
  refine ct_istore_2 (q := 82) dX7_parse_81 (by decide) rfl rfl ?_
  refine ct_iload_2 (q := 83) dX7_parse_82 rfl ?_
  refine ct_if_eq (q := 86) (tgt := 111) dX7_parse_83 (by decide) rfl (fun z21 => ?_) (fun z21 => ?_)
  · replace h := it_t h z21
    exact ct_lessK (vX7_parse_b111 hB  a0 x1 xs0 M r h) (And.intro rfl (And.intro rfl (And.intro rfl (trivial))))
  · replace h := it_f h z21
    refine ct_aload_0 (q := 87) dX7_parse_86 rfl ?_
    obtain ⟨r22, gr22, h⟩ := ob h
    obtain ⟨er22, gr22⟩ := cV_spec gr22
    refine ct_cVv0 (q := 90) hB dX7_parse_87 lk_RX7_257 (by decide) (ctX7_nextToken hB gr22) er22 (by decide) rfl (Nat.le_of_ble_eq_true rfl) rfl ?_
    refine ct_aload_0 (q := 91) dX7_parse_90 rfl ?_
    refine ct_iload_1 (q := 92) dX7_parse_91 rfl ?_
    obtain ⟨r23, gr23, h⟩ := ob h
    obtain ⟨er23, gr23⟩ := cV_spec gr23
    refine ct_cVi1 (q := 95) hB dX7_parse_92 lk_RX7_287 (by decide) (ctXQ_0 hB _ _ _ _ _ _ _ gr23) er23 (by decide) rfl (Nat.le_of_ble_eq_true rfl) rfl ?_
    refine ct_if_eq (q := 98) (tgt := 109) dX7_parse_95 (by decide) rfl (fun z24 => ?_) (fun z24 => ?_)
    · replace h := it_t h z24
      exact ct_lessK (vX7_parse_b109 hB  a0 x1 r23.2 r h) (And.intro rfl (And.intro rfl (trivial)))
    · replace h := it_f h z24
      refine ct_aload_0 (q := 99) dX7_parse_98 rfl ?_
      obtain ⟨x25, gx25, h⟩ := ob h
      refine ct_getI (q := 102) hB dX7_parse_99 fl_RX7_223 rfl gx25 rfl ?_
      refine ct_if_ne (q := 105) (tgt := 109) dX7_parse_102 (by decide) rfl (fun z26 => ?_) (fun z26 => ?_)
      · replace h := it_f h z26
        exact ct_lessK (vX7_parse_b109 hB  a0 x1 r23.2 r h) (And.intro rfl (And.intro rfl (trivial)))
      · replace h := it_t h z26
        refine ct_iconst (v := 1) (q := 106) dX7_parse_105 (by decide) rfl ?_
        refine ct_goto (q := 110) dX7_parse_106 (by decide) ?_
        exact ct_lessK (vX7_parse_b110 hB  a0 x1 1 r23.2 r h) (And.intro rfl (And.intro rfl (trivial)))

def fX7_parse_b60 (a0 : Nat) (as0 : Nat) (xs1 : Int32) (M : ctM) : Option (Int32 × ctM) :=
  (pI kdM 7 27 as0 xs1 M).bind fun M21 =>
  (cV kdM 7 a0 (fX7_nextToken a0 M21)).bind fun r22 =>
  (cV kdM 7 a0 (fX7_key a0 r22)).bind fun r23 =>
  if r23.1 < 0 then
    fX7_parse_b81 a0 r23.1 0 r23.2
  else
    fX7_parse_b81 a0 r23.1 1 r23.2

set_option maxHeartbeats 4000000 in
set_option maxRecDepth 20000 in
theorem vX7_parse_b60 {B : ctB} {n : Nat} (hB : ctOk B kdM lnM n) : ∀ (a0 : Nat) (as0 : Nat) (xs1 : Int32) (M : ctM) (r : Int32 × ctM), fX7_parse_b60 a0 as0 xs1 M = some r → ctV B mX7_parse (124, 0, 0) (poI r n) 60 [some (.ref a0), none, none] [.int xs1, .ref as0] (0, 0) n M := by
  intro a0 as0 xs1 M r h
  unfold fX7_parse_b60 at h
  obtain ⟨M21, gM21, h⟩ := ob h
  refine ct_putI (q := 63) hB dX7_parse_60 fl_RX7_245 rfl rfl (Or.inl rfl) gM21 rfl ?_
  refine ct_aload_0 (q := 64) dX7_parse_63 rfl ?_
  obtain ⟨r22, gr22, h⟩ := ob h
  obtain ⟨er22, gr22⟩ := cV_spec gr22
  refine ct_cVv0 (q := 67) hB dX7_parse_64 lk_RX7_257 (by decide) (ctX7_nextToken hB gr22) er22 (by decide) rfl (Nat.le_of_ble_eq_true rfl) rfl ?_
  refine ct_aload_0 (q := 68) dX7_parse_67 rfl ?_
  obtain ⟨r23, gr23, h⟩ := ob h
  obtain ⟨er23, gr23⟩ := cV_spec gr23
  refine ct_cVi0 (q := 71) hB dX7_parse_68 lk_RX7_293 (by decide) (ctX7_key hB gr23) er23 (by decide) rfl (Nat.le_of_ble_eq_true rfl) rfl ?_
  refine ct_istore_1 (q := 72) dX7_parse_71 (by decide) rfl rfl ?_
  refine ct_iload_1 (q := 73) dX7_parse_72 rfl ?_
  refine ct_if_lt (q := 76) (tgt := 80) dX7_parse_73 (by decide) rfl (fun z24 => ?_) (fun z24 => ?_)
  · replace h := it_t h z24
    refine ct_iconst (v := 0) (q := 81) dX7_parse_80 (by decide) rfl ?_
    exact ct_lessK (vX7_parse_b81 hB  a0 r23.1 0 r23.2 r h) (And.intro rfl (And.intro rfl (trivial)))
  · replace h := it_f h z24
    refine ct_iconst (v := 1) (q := 77) dX7_parse_76 (by decide) rfl ?_
    refine ct_goto (q := 81) dX7_parse_77 (by decide) ?_
    exact ct_lessK (vX7_parse_b81 hB  a0 r23.1 1 r23.2 r h) (And.intro rfl (And.intro rfl (trivial)))

def fX7_parse (a0 : Nat) (M : ctM) : Option (Int32 × ctM) :=
  (pI kdM 7 20 a0 0 M).bind fun M21 =>
  (pI kdM 7 21 a0 3 M21).bind fun M22 =>
  (pI kdM 7 24 a0 0 M22).bind fun M23 =>
  (pI kdM 7 25 a0 0 M23).bind fun M24 =>
  (pI kdM 7 26 a0 0 M24).bind fun M25 =>
  (pI kdM 7 28 a0 0 M25).bind fun M26 =>
  (gP kdM 7 0 a0 M26).bind fun a27 =>
  (aI kdM lnM 9 a27 1 M26).bind fun x28 =>
  if 14 ≤ x28 then
    fX7_parse_b60 a0 a0 2870 M26
  else
    (gP kdM 7 0 a0 M26).bind fun a30 =>
    (aI kdM lnM 9 a30 1 M26).bind fun x31 =>
    (cV kdM 7 a0 (fX7_textAt a0 x31 M26)).bind fun r32 =>
    fX7_parse_b60 a0 a0 (r32.1 + 4) r32.2

set_option maxHeartbeats 4000000 in
set_option maxRecDepth 20000 in
theorem ctX7_parse {B : ctB} {n : Nat} (hB : ctOk B kdM lnM n) {a0 : Nat} {M : ctM} {r : Int32 × ctM} (h : fX7_parse a0 M = some r) : ctC B mX7_parse (124, 0, 0) [.ref a0] n M (poI r n) := by
  refine ctC_of (by decide) (Nat.le_of_ble_eq_true rfl) ?_
  show ctV B mX7_parse (124, 0, 0) (poI r n) 0 [some (.ref a0), none, none] [] (0, 0) n M
  unfold fX7_parse at h
  refine ct_aload_0 (q := 1) dX7_parse_0 rfl ?_
  refine ct_iconst (v := 0) (q := 2) dX7_parse_1 (by decide) rfl ?_
  obtain ⟨M21, gM21, h⟩ := ob h
  refine ct_putI (q := 5) hB dX7_parse_2 fl_RX7_220 rfl rfl (Or.inl rfl) gM21 rfl ?_
  refine ct_aload_0 (q := 6) dX7_parse_5 rfl ?_
  refine ct_iconst (v := 3) (q := 7) dX7_parse_6 (by decide) rfl ?_
  obtain ⟨M22, gM22, h⟩ := ob h
  refine ct_putI (q := 10) hB dX7_parse_7 fl_RX7_223 rfl rfl (Or.inl rfl) gM22 rfl ?_
  refine ct_aload_0 (q := 11) dX7_parse_10 rfl ?_
  refine ct_iconst (v := 0) (q := 12) dX7_parse_11 (by decide) rfl ?_
  obtain ⟨M23, gM23, h⟩ := ob h
  refine ct_putI (q := 15) hB dX7_parse_12 fl_RX7_284 rfl rfl (Or.inl rfl) gM23 rfl ?_
  refine ct_aload_0 (q := 16) dX7_parse_15 rfl ?_
  refine ct_iconst (v := 0) (q := 17) dX7_parse_16 (by decide) rfl ?_
  obtain ⟨M24, gM24, h⟩ := ob h
  refine ct_putI (q := 20) hB dX7_parse_17 fl_RX7_282 rfl rfl (Or.inl rfl) gM24 rfl ?_
  refine ct_aload_0 (q := 21) dX7_parse_20 rfl ?_
  refine ct_iconst (v := 0) (q := 22) dX7_parse_21 (by decide) rfl ?_
  obtain ⟨M25, gM25, h⟩ := ob h
  refine ct_putI (q := 25) hB dX7_parse_22 fl_RX7_248 rfl rfl (Or.inl rfl) gM25 rfl ?_
  refine ct_aload_0 (q := 26) dX7_parse_25 rfl ?_
  refine ct_iconst (v := 0) (q := 27) dX7_parse_26 (by decide) rfl ?_
  obtain ⟨M26, gM26, h⟩ := ob h
  refine ct_putI (q := 30) hB dX7_parse_27 fl_RX7_276 rfl rfl (Or.inl rfl) gM26 rfl ?_
  refine ct_aload_0 (q := 31) dX7_parse_30 rfl ?_
  refine ct_aload_0 (q := 32) dX7_parse_31 rfl ?_
  obtain ⟨a27, ga27, h⟩ := ob h
  refine ct_getP (q := 35) hB dX7_parse_32 fl_RX7_7 rfl ga27 rfl ?_
  refine ct_iconst (v := 1) (q := 36) dX7_parse_35 (by decide) rfl ?_
  obtain ⟨x28, gx28, h⟩ := ob h
  refine ct_iald (q := 37) hB dX7_parse_36 gx28 rfl ?_
  refine ct_bipush (v := 14) (q := 39) dX7_parse_37 (by decide) rfl ?_
  refine ct_icmp_ge (q := 42) (tgt := 57) dX7_parse_39 (by decide) rfl (fun z29 => ?_) (fun z29 => ?_)
  · replace h := it_t h z29
    refine ct_sipush (v := 2870) (q := 60) dX7_parse_57 (by decide) rfl ?_
    exact ct_lessK (vX7_parse_b60 hB  a0 a0 2870 M26 r h) (And.intro rfl (trivial))
  · replace h := it_f h z29
    refine ct_aload_0 (q := 43) dX7_parse_42 rfl ?_
    refine ct_aload_0 (q := 44) dX7_parse_43 rfl ?_
    obtain ⟨a30, ga30, h⟩ := ob h
    refine ct_getP (q := 47) hB dX7_parse_44 fl_RX7_7 rfl ga30 rfl ?_
    refine ct_iconst (v := 1) (q := 48) dX7_parse_47 (by decide) rfl ?_
    obtain ⟨x31, gx31, h⟩ := ob h
    refine ct_iald (q := 49) hB dX7_parse_48 gx31 rfl ?_
    obtain ⟨r32, gr32, h⟩ := ob h
    obtain ⟨er32, gr32⟩ := cV_spec gr32
    refine ct_cVi1 (q := 52) hB dX7_parse_49 lk_RX7_290 (by decide) (ctX7_textAt hB gr32) er32 (by decide) rfl (Nat.le_of_ble_eq_true rfl) rfl ?_
    refine ct_iconst (v := 4) (q := 53) dX7_parse_52 (by decide) rfl ?_
    refine ct_iadd (q := 54) dX7_parse_53 rfl ?_
    refine ct_goto (q := 60) dX7_parse_54 (by decide) ?_
    exact ct_lessK (vX7_parse_b60 hB  a0 a0 (r32.1 + 4) r32.2 r h) (And.intro rfl (trivial))

def fX7_text (a0 : Nat) (M : ctM) : Option (Int32 × ctM) :=
  (cV kdM 7 a0 (fX7_parse a0 M)).bind fun r21 =>
  if 0 ≤ r21.1 then
    (gP kdM 7 0 a0 r21.2).bind fun a23 =>
    (aI kdM lnM 9 a23 1 r21.2).bind fun x24 =>
    if x24 = 14 then
      some ((-1000000003), r21.2)
    else
      (gP kdM 7 0 a0 r21.2).bind fun a26 =>
      (aI kdM lnM 9 a26 1 r21.2).bind fun x27 =>
      (cV kdM 7 a0 (fX7_textAt a0 x27 r21.2)).bind fun r28 =>
      (gP kdM 7 0 a0 r28.2).bind fun a29 =>
      (sI kdM lnM 9 a29 (r28.1 + 0) r21.1 r28.2).bind fun M30 =>
      (gP kdM 7 0 a0 M30).bind fun a31 =>
      (gI kdM 7 28 a0 M30).bind fun x32 =>
      (sI kdM lnM 9 a31 (r28.1 + 1) x32 M30).bind fun M33 =>
      (gP kdM 7 0 a0 M33).bind fun a34 =>
      (gI kdM 7 26 a0 M33).bind fun x35 =>
      (sI kdM lnM 9 a34 (r28.1 + 2) x35 M33).bind fun M36 =>
      (gP kdM 7 0 a0 M36).bind fun a37 =>
      (aI kdM lnM 9 a37 1 M36).bind fun x38 =>
      (sI kdM lnM 9 a37 1 (x38 + 1) M36).bind fun M39 =>
      (gP kdM 7 0 a0 M39).bind fun a40 =>
      (aI kdM lnM 9 a40 1 M39).bind fun x41 =>
      some ((x41 - 1), M39)
  else
    (gI kdM 7 19 a0 r21.2).bind fun x42 =>
    some (((-100) - x42), r21.2)

set_option maxHeartbeats 4000000 in
set_option maxRecDepth 20000 in
theorem ctX7_text {B : ctB} {n : Nat} (hB : ctOk B kdM lnM n) {a0 : Nat} {M : ctM} {r : Int32 × ctM} (h : fX7_text a0 M = some r) : ctC B mX7_text (125, 0, 0) [.ref a0] n M (poI r n) := by
  refine ctC_of (by decide) (Nat.le_of_ble_eq_true rfl) ?_
  show ctV B mX7_text (125, 0, 0) (poI r n) 0 [some (.ref a0), none, none] [] (0, 0) n M
  unfold fX7_text at h
  refine ct_aload_0 (q := 1) dX7_text_0 rfl ?_
  obtain ⟨r21, gr21, h⟩ := ob h
  obtain ⟨er21, gr21⟩ := cV_spec gr21
  refine ct_cVi0 (q := 4) hB dX7_text_1 lk_RX7_296 (by decide) (ctX7_parse hB gr21) er21 (by decide) rfl (Nat.le_of_ble_eq_true rfl) rfl ?_
  refine ct_istore_1 (q := 5) dX7_text_4 (by decide) rfl rfl ?_
  refine ct_iload_1 (q := 6) dX7_text_5 rfl ?_
  refine ct_if_ge (q := 9) (tgt := 17) dX7_text_6 (by decide) rfl (fun z22 => ?_) (fun z22 => ?_)
  · replace h := it_t h z22
    refine ct_aload_0 (q := 18) dX7_text_17 rfl ?_
    obtain ⟨a23, ga23, h⟩ := ob h
    refine ct_getP (q := 21) hB dX7_text_18 fl_RX7_7 rfl ga23 rfl ?_
    refine ct_iconst (v := 1) (q := 22) dX7_text_21 (by decide) rfl ?_
    obtain ⟨x24, gx24, h⟩ := ob h
    refine ct_iald (q := 23) hB dX7_text_22 gx24 rfl ?_
    refine ct_bipush (v := 14) (q := 25) dX7_text_23 (by decide) rfl ?_
    refine ct_icmp_ne (q := 28) (tgt := 31) dX7_text_25 (by decide) rfl (fun z25 => ?_) (fun z25 => ?_)
    · replace h := it_f h z25
      refine ct_aload_0 (q := 32) dX7_text_31 rfl ?_
      refine ct_aload_0 (q := 33) dX7_text_32 rfl ?_
      obtain ⟨a26, ga26, h⟩ := ob h
      refine ct_getP (q := 36) hB dX7_text_33 fl_RX7_7 rfl ga26 rfl ?_
      refine ct_iconst (v := 1) (q := 37) dX7_text_36 (by decide) rfl ?_
      obtain ⟨x27, gx27, h⟩ := ob h
      refine ct_iald (q := 38) hB dX7_text_37 gx27 rfl ?_
      obtain ⟨r28, gr28, h⟩ := ob h
      obtain ⟨er28, gr28⟩ := cV_spec gr28
      refine ct_cVi1 (q := 41) hB dX7_text_38 lk_RX7_290 (by decide) (ctX7_textAt hB gr28) er28 (by decide) rfl (Nat.le_of_ble_eq_true rfl) rfl ?_
      refine ct_istore_2 (q := 42) dX7_text_41 (by decide) rfl rfl ?_
      refine ct_aload_0 (q := 43) dX7_text_42 rfl ?_
      obtain ⟨a29, ga29, h⟩ := ob h
      refine ct_getP (q := 46) hB dX7_text_43 fl_RX7_7 rfl ga29 rfl ?_
      refine ct_iload_2 (q := 47) dX7_text_46 rfl ?_
      refine ct_iconst (v := 0) (q := 48) dX7_text_47 (by decide) rfl ?_
      refine ct_iadd (q := 49) dX7_text_48 rfl ?_
      refine ct_iload_1 (q := 50) dX7_text_49 rfl ?_
      obtain ⟨M30, gM30, h⟩ := ob h
      refine ct_iast (q := 51) hB dX7_text_50 gM30 rfl ?_
      refine ct_aload_0 (q := 52) dX7_text_51 rfl ?_
      obtain ⟨a31, ga31, h⟩ := ob h
      refine ct_getP (q := 55) hB dX7_text_52 fl_RX7_7 rfl ga31 rfl ?_
      refine ct_iload_2 (q := 56) dX7_text_55 rfl ?_
      refine ct_iconst (v := 1) (q := 57) dX7_text_56 (by decide) rfl ?_
      refine ct_iadd (q := 58) dX7_text_57 rfl ?_
      refine ct_aload_0 (q := 59) dX7_text_58 rfl ?_
      obtain ⟨x32, gx32, h⟩ := ob h
      refine ct_getI (q := 62) hB dX7_text_59 fl_RX7_276 rfl gx32 rfl ?_
      obtain ⟨M33, gM33, h⟩ := ob h
      refine ct_iast (q := 63) hB dX7_text_62 gM33 rfl ?_
      refine ct_aload_0 (q := 64) dX7_text_63 rfl ?_
      obtain ⟨a34, ga34, h⟩ := ob h
      refine ct_getP (q := 67) hB dX7_text_64 fl_RX7_7 rfl ga34 rfl ?_
      refine ct_iload_2 (q := 68) dX7_text_67 rfl ?_
      refine ct_iconst (v := 2) (q := 69) dX7_text_68 (by decide) rfl ?_
      refine ct_iadd (q := 70) dX7_text_69 rfl ?_
      refine ct_aload_0 (q := 71) dX7_text_70 rfl ?_
      obtain ⟨x35, gx35, h⟩ := ob h
      refine ct_getI (q := 74) hB dX7_text_71 fl_RX7_248 rfl gx35 rfl ?_
      obtain ⟨M36, gM36, h⟩ := ob h
      refine ct_iast (q := 75) hB dX7_text_74 gM36 rfl ?_
      refine ct_aload_0 (q := 76) dX7_text_75 rfl ?_
      obtain ⟨a37, ga37, h⟩ := ob h
      refine ct_getP (q := 79) hB dX7_text_76 fl_RX7_7 rfl ga37 rfl ?_
      refine ct_iconst (v := 1) (q := 80) dX7_text_79 (by decide) rfl ?_
      refine ct_dup2 (q := 81) dX7_text_80 rfl rfl rfl ?_
      obtain ⟨x38, gx38, h⟩ := ob h
      refine ct_iald (q := 82) hB dX7_text_81 gx38 rfl ?_
      refine ct_iconst (v := 1) (q := 83) dX7_text_82 (by decide) rfl ?_
      refine ct_iadd (q := 84) dX7_text_83 rfl ?_
      obtain ⟨M39, gM39, h⟩ := ob h
      refine ct_iast (q := 85) hB dX7_text_84 gM39 rfl ?_
      refine ct_aload_0 (q := 86) dX7_text_85 rfl ?_
      obtain ⟨a40, ga40, h⟩ := ob h
      refine ct_getP (q := 89) hB dX7_text_86 fl_RX7_7 rfl ga40 rfl ?_
      refine ct_iconst (v := 1) (q := 90) dX7_text_89 (by decide) rfl ?_
      obtain ⟨x41, gx41, h⟩ := ob h
      refine ct_iald (q := 91) hB dX7_text_90 gx41 rfl ?_
      refine ct_iconst (v := 1) (q := 92) dX7_text_91 (by decide) rfl ?_
      refine ct_isub (q := 93) dX7_text_92 rfl ?_
      exact ct_iret dX7_text_93 rfl ⟨Nat.le_refl 0, Nat.le_refl 0⟩ (poI_of h)
    · replace h := it_t h z25
      refine ct_ldc (q := 30) dX7_text_28 wd_920 rfl ?_
      exact ct_iret dX7_text_30 rfl ⟨Nat.le_refl 0, Nat.le_refl 0⟩ (poI_of h)
  · replace h := it_f h z22
    refine ct_bipush (v := -100) (q := 11) dX7_text_9 (by decide) rfl ?_
    refine ct_aload_0 (q := 12) dX7_text_11 rfl ?_
    obtain ⟨x42, gx42, h⟩ := ob h
    refine ct_getI (q := 15) hB dX7_text_12 fl_RX7_226 rfl gx42 rfl ?_
    refine ct_isub (q := 16) dX7_text_15 rfl ?_
    exact ct_iret dX7_text_16 rfl ⟨Nat.le_refl 0, Nat.le_refl 0⟩ (poI_of h)

def fX7_textTold (a0 : Nat) (x1 : Int32) (x2 : Int32) (M : ctM) : Option (Int32 × ctM) :=
  (cV kdM 7 a0 (fX7_isText a0 x1 M)).bind fun r21 =>
  if r21.1 = 0 then
    some ((-1000000001), r21.2)
  else
    (fX7_isIn ((x2 : Int32).toInt64) 0 1 r21.2).bind fun r23 =>
    if r23.1 = 0 then
      some ((-1000000001), r23.2)
    else
      (gP kdM 7 0 a0 r23.2).bind fun a25 =>
      (cV kdM 7 a0 (fX7_textAt a0 x1 r23.2)).bind fun r26 =>
      (aI kdM lnM 9 a25 (r26.1 + x2) r26.2).bind fun x27 =>
      some (x27, r26.2)

set_option maxHeartbeats 4000000 in
set_option maxRecDepth 20000 in
theorem ctX7_textTold {B : ctB} {n : Nat} (hB : ctOk B kdM lnM n) {a0 : Nat} {x1 : Int32} {x2 : Int32} {M : ctM} {r : Int32 × ctM} (h : fX7_textTold a0 x1 x2 M = some r) : ctC B mX7_textTold (2, 0, 0) [.ref a0, .int x1, .int x2] n M (poI r n) := by
  refine ctC_of (by decide) (Nat.le_of_ble_eq_true rfl) ?_
  show ctV B mX7_textTold (2, 0, 0) (poI r n) 0 [some (.ref a0), some (.int x1), some (.int x2)] [] (0, 0) n M
  unfold fX7_textTold at h
  refine ct_aload_0 (q := 1) dX7_textTold_0 rfl ?_
  refine ct_iload_1 (q := 2) dX7_textTold_1 rfl ?_
  obtain ⟨r21, gr21, h⟩ := ob h
  obtain ⟨er21, gr21⟩ := cV_spec gr21
  refine ct_cVi1 (q := 5) hB dX7_textTold_2 lk_RX7_299 (by decide) (ctX7_isText hB gr21) er21 (by decide) rfl (Nat.le_of_ble_eq_true rfl) rfl ?_
  refine ct_if_eq (q := 8) (tgt := 18) dX7_textTold_5 (by decide) rfl (fun z22 => ?_) (fun z22 => ?_)
  · replace h := it_t h z22
    refine ct_ldc (q := 20) dX7_textTold_18 wd_919 rfl ?_
    exact ct_iret dX7_textTold_20 rfl ⟨Nat.le_refl 0, Nat.le_refl 0⟩ (poI_of h)
  · replace h := it_f h z22
    refine ct_iload_2 (q := 9) dX7_textTold_8 rfl ?_
    refine ct_i2l (q := 10) dX7_textTold_9 rfl ?_
    refine ct_lconst (v := 0) (q := 11) dX7_textTold_10 (by decide) rfl ?_
    refine ct_lconst (v := 1) (q := 12) dX7_textTold_11 (by decide) rfl ?_
    obtain ⟨r23, gr23, h⟩ := ob h
    refine ct_cSi3 (q := 15) dX7_textTold_12 lk_RX7_76 (by decide) (ctX7_isIn hB gr23) (Nat.le_of_ble_eq_true rfl) rfl ?_
    refine ct_if_ne (q := 18) (tgt := 21) dX7_textTold_15 (by decide) rfl (fun z24 => ?_) (fun z24 => ?_)
    · replace h := it_f h z24
      refine ct_aload_0 (q := 22) dX7_textTold_21 rfl ?_
      obtain ⟨a25, ga25, h⟩ := ob h
      refine ct_getP (q := 25) hB dX7_textTold_22 fl_RX7_7 rfl ga25 rfl ?_
      refine ct_aload_0 (q := 26) dX7_textTold_25 rfl ?_
      refine ct_iload_1 (q := 27) dX7_textTold_26 rfl ?_
      obtain ⟨r26, gr26, h⟩ := ob h
      obtain ⟨er26, gr26⟩ := cV_spec gr26
      refine ct_cVi1 (q := 30) hB dX7_textTold_27 lk_RX7_290 (by decide) (ctX7_textAt hB gr26) er26 (by decide) rfl (Nat.le_of_ble_eq_true rfl) rfl ?_
      refine ct_iload_2 (q := 31) dX7_textTold_30 rfl ?_
      refine ct_iadd (q := 32) dX7_textTold_31 rfl ?_
      obtain ⟨x27, gx27, h⟩ := ob h
      refine ct_iald (q := 33) hB dX7_textTold_32 gx27 rfl ?_
      exact ct_iret dX7_textTold_33 rfl ⟨Nat.le_refl 0, Nat.le_refl 0⟩ (poI_of h)
    · replace h := it_t h z24
      refine ct_ldc (q := 20) dX7_textTold_18 wd_919 rfl ?_
      exact ct_iret dX7_textTold_20 rfl ⟨Nat.le_refl 0, Nat.le_refl 0⟩ (poI_of h)

def fX7_why (a0 : Nat) (x1 : Int32) (M : ctM) : Option (Int32 × ctM) :=
  (fX7_isIn ((x1 : Int32).toInt64) 0 2 M).bind fun r21 =>
  if r21.1 = 0 then
    some ((-1000000001), r21.2)
  else
    (cV kdM 7 a0 (fX7_counts a0 x1 r21.2)).bind fun r23 =>
    (fX7_orNone r23.1 r23.2).bind fun r24 =>
    some (r24.1, r24.2)

set_option maxHeartbeats 4000000 in
set_option maxRecDepth 20000 in
theorem ctX7_why {B : ctB} {n : Nat} (hB : ctOk B kdM lnM n) {a0 : Nat} {x1 : Int32} {M : ctM} {r : Int32 × ctM} (h : fX7_why a0 x1 M = some r) : ctC B mX7_why (2, 0, 0) [.ref a0, .int x1] n M (poI r n) := by
  refine ctC_of (by decide) (Nat.le_of_ble_eq_true rfl) ?_
  show ctV B mX7_why (2, 0, 0) (poI r n) 0 [some (.ref a0), some (.int x1)] [] (0, 0) n M
  unfold fX7_why at h
  refine ct_iload_1 (q := 1) dX7_why_0 rfl ?_
  refine ct_i2l (q := 2) dX7_why_1 rfl ?_
  refine ct_lconst (v := 0) (q := 3) dX7_why_2 (by decide) rfl ?_
  refine ct_ldc2 (q := 6) dX7_why_3 wd_1210 rfl ?_
  obtain ⟨r21, gr21, h⟩ := ob h
  refine ct_cSi3 (q := 9) dX7_why_6 lk_RX7_76 (by decide) (ctX7_isIn hB gr21) (Nat.le_of_ble_eq_true rfl) rfl ?_
  refine ct_if_eq (q := 12) (tgt := 23) dX7_why_9 (by decide) rfl (fun z22 => ?_) (fun z22 => ?_)
  · replace h := it_t h z22
    refine ct_ldc (q := 25) dX7_why_23 wd_919 rfl ?_
    exact ct_iret dX7_why_25 rfl ⟨Nat.le_refl 0, Nat.le_refl 0⟩ (poI_of h)
  · replace h := it_f h z22
    refine ct_aload_0 (q := 13) dX7_why_12 rfl ?_
    refine ct_iload_1 (q := 14) dX7_why_13 rfl ?_
    obtain ⟨r23, gr23, h⟩ := ob h
    obtain ⟨er23, gr23⟩ := cV_spec gr23
    refine ct_cVi1 (q := 17) hB dX7_why_14 lk_RX7_99 (by decide) (ctX7_counts hB gr23) er23 (by decide) rfl (Nat.le_of_ble_eq_true rfl) rfl ?_
    obtain ⟨r24, gr24, h⟩ := ob h
    refine ct_cSi1 (q := 20) dX7_why_17 lk_RX7_183 (by decide) (ctX7_orNone hB gr24) (Nat.le_of_ble_eq_true rfl) rfl ?_
    refine ct_goto (q := 25) dX7_why_20 (by decide) ?_
    exact ct_iret dX7_why_25 rfl ⟨Nat.le_refl 0, Nat.le_refl 0⟩ (poI_of h)

