section
variable {Mc Mm : ctM} {n : Nat}
theorem op_ask : opS2 Sim fX6_ask fX7_ask := by
  intro Mc Mm h x k
  obtain ⟨pc, pm, _⟩ := id h
  by_cases h1 : 0 ≤ x ∧ x ≤ 4
  · by_cases h2 : 0 ≤ k ∧ k ≤ 5
    · obtain ⟨i, _, hi, rfl⟩ := rg_in (hi := 4) nI_0.symm rfl (by decide) (by decide) h1
      have hi5 : i < 5 := by omega
      obtain ⟨t0, t1, t2, t3, t4⟩ := h.sl i hi5
      by_cases e0 : Mm.1 7 i = 0
      · refine ⟨-1000000011, Mc, Mm, ?_, ?_, h⟩
        · simp only [fX6_ask, c_isSlot, bS, if_pos h1, if_neg i_10, c_isKind, if_pos h2, o_slots pc, sl_at pc hi5, sl_g hi5, t0, e0, if_true]
        · simp only [fX7_ask, m_isSlot, bS, if_pos h1, if_neg i_10, m_isInL k 0 5 0 5 (by decide) (by decide), if_pos h2, gM7 pm, mt7 hi5, e0, if_true]
      · by_cases e1 : Mm.1 7 i = 1
        · obtain ⟨q1, q2⟩ := t2 e1
          by_cases e2 : isOfS (Mm.1 8 i) k
          · refine ⟨Mm.1 9 i, Mc, Mm, ?_, ?_, h⟩
            · simp only [fX6_ask, c_isSlot, bS, if_pos h1, if_neg i_10, c_isKind, if_pos h2, o_slots pc, sl_at pc hi5, sl_g hi5, t0, if_neg e0, if_pos e1, sl_f pc hi5, sl_cF hi5, c_isOfA (kC_slot_ i hi5).2.1, q1, if_pos e2, c_worthA (kC_slot_ i hi5).2.1, q2]
            · simp only [fX7_ask, m_isSlot, bS, if_pos h1, if_neg i_10, m_isInL k 0 5 0 5 (by decide) (by decide), if_pos h2, gM7 pm, mt7 hi5, if_neg e0, if_pos e1, gM8 pm, mt8 hi5, m_isOf, if_pos e2, gM9 pm, mt9 hi5]
          · refine ⟨-1000000012, Mc, Mm, ?_, ?_, h⟩
            · simp only [fX6_ask, c_isSlot, bS, if_pos h1, if_neg i_10, c_isKind, if_pos h2, o_slots pc, sl_at pc hi5, sl_g hi5, t0, if_neg e0, if_pos e1, sl_f pc hi5, sl_cF hi5, c_isOfA (kC_slot_ i hi5).2.1, q1, if_neg e2, if_true]
            · simp only [fX7_ask, m_isSlot, bS, if_pos h1, if_neg i_10, m_isInL k 0 5 0 5 (by decide) (by decide), if_pos h2, gM7 pm, mt7 hi5, if_neg e0, if_pos e1, gM8 pm, mt8 hi5, m_isOf, if_neg e2, if_true]
        · refine ⟨-1000000012, Mc, Mm, ?_, ?_, h⟩
          · simp only [fX6_ask, c_isSlot, bS, if_pos h1, if_neg i_10, c_isKind, if_pos h2, o_slots pc, sl_at pc hi5, sl_g hi5, t0, if_neg e0, if_neg e1]
          · simp only [fX7_ask, m_isSlot, bS, if_pos h1, if_neg i_10, m_isInL k 0 5 0 5 (by decide) (by decide), if_pos h2, gM7 pm, mt7 hi5, if_neg e0, if_neg e1]
    · exact ⟨-1000000001, Mc, Mm, by simp only [fX6_ask, c_isSlot, bS, if_pos h1, if_neg i_10, c_isKind, if_neg h2, if_true], by simp only [fX7_ask, m_isSlot, bS, if_pos h1, if_neg i_10, m_isInL k 0 5 0 5 (by decide) (by decide), if_neg h2, if_true], h⟩
  · exact ⟨-1000000001, Mc, Mm, by simp only [fX6_ask, c_isSlot, bS, if_neg h1, if_true], by simp only [fX7_ask, m_isSlot, bS, if_neg h1, if_true], h⟩
theorem c_hasA {a : Nat} (ha : kdC a = 3) (x : Int32) : fX3_has a x Mc = some (if 0 ≤ x ∧ x ≤ Mc.1 a 1 - 1 then 1 else 0, Mc) := by
  unfold fX3_has
  rw [gI_at ha, bS, c_within, bS, if_pos b01]
theorem c_missA {a : Nat} (ha : kdC a = 3) : fX3_isMissing a Mc = some (if Mc.1 a 0 = -1 then 1 else 0, Mc) := by
  unfold fX3_isMissing
  rw [gI_at ha, bS, if_sp]
theorem op_item : opS2 Sim fX6_item fX7_item := by
  intro Mc Mm h x k
  obtain ⟨pc, pm, _⟩ := id h
  by_cases h1 : 0 ≤ x ∧ x ≤ 4
  · obtain ⟨i, _, hi, rfl⟩ := rg_in (hi := 4) nI_0.symm rfl (by decide) (by decide) h1
    have hi5 : i < 5 := by omega
    obtain ⟨t0, t1, t2, t3, t4⟩ := h.sl i hi5
    by_cases e2 : Mm.1 7 i = 2
    · have e0 : ¬ Mm.1 7 i = 0 := by rw [e2]; decide
      obtain ⟨q1, ⟨len, _, hl, q2⟩, q3⟩ := t3 e2
      by_cases h2 : 0 ≤ k ∧ k ≤ nI len - 1
      · obtain ⟨j, hj, rfl⟩ := (ix_iff (by omega)).mp h2
        have hj24 : j < 24 := by omega
        by_cases e3 : Mm.1 11 (24 * i + j) = -1000000005
        · refine ⟨-1000000012, Mc, Mm, ?_, ?_, h⟩
          · simp only [fX6_item, c_isSlot, bS, if_pos h1, if_neg i_10, o_slots pc, sl_at pc hi5, sl_g hi5, t0, if_neg e0, if_pos e2, sl_r pc hi5, sl_cR hi5, c_hasA (kC_slot_ i hi5).2.2.1, q1, q2, if_pos h2, sl_pl pc hi5, sl_rd hi5 hj24, q3 j hj24, if_pos e3]
          · simp only [fX7_item, m_isSlot, bS, if_pos h1, if_neg i_10, gM7 pm, mt7 hi5, if_pos e2, gM10 pm, mt10 hi5, q2, m_isInL (nI j) 0 (nI len - 1).toInt64 0 (nI len - 1) (by decide) rfl, if_pos h2, gM11 pm, i_24, mt11 (show 24 * i + j < 120 by omega), if_pos e3]
        · refine ⟨Mm.1 11 (24 * i + j), Mc, Mm, ?_, ?_, h⟩
          · simp only [fX6_item, c_isSlot, bS, if_pos h1, if_neg i_10, o_slots pc, sl_at pc hi5, sl_g hi5, t0, if_neg e0, if_pos e2, sl_r pc hi5, sl_cR hi5, c_hasA (kC_slot_ i hi5).2.2.1, q1, q2, if_pos h2, sl_pl pc hi5, sl_rd hi5 hj24, q3 j hj24, if_neg e3]
          · simp only [fX7_item, m_isSlot, bS, if_pos h1, if_neg i_10, gM7 pm, mt7 hi5, if_pos e2, gM10 pm, mt10 hi5, q2, m_isInL (nI j) 0 (nI len - 1).toInt64 0 (nI len - 1) (by decide) rfl, if_pos h2, gM11 pm, i_24, mt11 (show 24 * i + j < 120 by omega), if_neg e3]
      · refine ⟨-1000000013, Mc, Mm, ?_, ?_, h⟩
        · simp only [fX6_item, c_isSlot, bS, if_pos h1, if_neg i_10, o_slots pc, sl_at pc hi5, sl_g hi5, t0, if_neg e0, if_pos e2, sl_r pc hi5, sl_cR hi5, c_hasA (kC_slot_ i hi5).2.2.1, q1, q2, if_neg h2, if_true]
        · simp only [fX7_item, m_isSlot, bS, if_pos h1, if_neg i_10, gM7 pm, mt7 hi5, if_pos e2, gM10 pm, mt10 hi5, q2, m_isInL k 0 (nI len - 1).toInt64 0 (nI len - 1) (by decide) rfl, if_neg h2, if_true]
    · by_cases e0 : Mm.1 7 i = 0
      · refine ⟨-1000000011, Mc, Mm, ?_, ?_, h⟩
        · simp only [fX6_item, c_isSlot, bS, if_pos h1, if_neg i_10, o_slots pc, sl_at pc hi5, sl_g hi5, t0, if_pos e0]
        · simp only [fX7_item, m_isSlot, bS, if_pos h1, if_neg i_10, gM7 pm, mt7 hi5, if_neg e2, if_pos e0]
      · refine ⟨-1000000012, Mc, Mm, ?_, ?_, h⟩
        · simp only [fX6_item, c_isSlot, bS, if_pos h1, if_neg i_10, o_slots pc, sl_at pc hi5, sl_g hi5, t0, if_neg e0, if_neg e2]
        · simp only [fX7_item, m_isSlot, bS, if_pos h1, if_neg i_10, gM7 pm, mt7 hi5, if_neg e2, if_neg e0]
  · exact ⟨-1000000001, Mc, Mm, by simp only [fX6_item, c_isSlot, bS, if_neg h1, if_true], by simp only [fX7_item, m_isSlot, bS, if_neg h1, if_true], h⟩
theorem op_rest : opS2 Sim fX6_rest fX7_rest := by
  intro Mc Mm h x k
  obtain ⟨pc, pm, _⟩ := id h
  by_cases h1 : 0 ≤ x ∧ x ≤ 4
  · obtain ⟨i, _, hi, rfl⟩ := rg_in (hi := 4) nI_0.symm rfl (by decide) (by decide) h1
    have hi5 : i < 5 := by omega
    obtain ⟨t0, t1, t2, t3, t4⟩ := h.sl i hi5
    by_cases e3 : Mm.1 7 i = 3
    · have e0 : ¬ Mm.1 7 i = 0 := by rw [e3]; decide
      have q1 := t4 e3
      by_cases k0 : k = 0
      · refine ⟨-1000000002, Mc, Mm, ?_, ?_, h⟩
        · simp only [fX6_rest, c_isSlot, bS, if_pos h1, if_neg i_10, o_slots pc, sl_at pc hi5, sl_g hi5, t0, if_neg e0, if_pos e3, if_pos k0]
        · simp only [fX7_rest, m_isSlot, bS, if_pos h1, if_neg i_10, gM7 pm, mt7 hi5, if_pos e3, if_pos k0]
      · refine ⟨Mm.1 8 i % k, Mc, Mm, ?_, ?_, h⟩
        · simp only [fX6_rest, c_isSlot, bS, if_pos h1, if_neg i_10, o_slots pc, sl_at pc hi5, sl_g hi5, t0, if_neg e0, if_pos e3, if_neg k0, q1]
        · simp only [fX7_rest, m_isSlot, bS, if_pos h1, if_neg i_10, gM7 pm, mt7 hi5, if_pos e3, if_neg k0, gM8 pm, mt8 hi5]
    · by_cases e0 : Mm.1 7 i = 0
      · refine ⟨-1000000011, Mc, Mm, ?_, ?_, h⟩
        · simp only [fX6_rest, c_isSlot, bS, if_pos h1, if_neg i_10, o_slots pc, sl_at pc hi5, sl_g hi5, t0, if_pos e0]
        · simp only [fX7_rest, m_isSlot, bS, if_pos h1, if_neg i_10, gM7 pm, mt7 hi5, if_neg e3, if_pos e0]
      · refine ⟨-1000000012, Mc, Mm, ?_, ?_, h⟩
        · simp only [fX6_rest, c_isSlot, bS, if_pos h1, if_neg i_10, o_slots pc, sl_at pc hi5, sl_g hi5, t0, if_neg e0, if_neg e3]
        · simp only [fX7_rest, m_isSlot, bS, if_pos h1, if_neg i_10, gM7 pm, mt7 hi5, if_neg e3, if_neg e0]
  · exact ⟨-1000000001, Mc, Mm, by simp only [fX6_rest, c_isSlot, bS, if_neg h1, if_true], by simp only [fX7_rest, m_isSlot, bS, if_neg h1, if_true], h⟩
/-! sheets -/
theorem sort_neg {v : Int32} (h : v = -1 ∨ v = 0 ∨ v = 1) : (0 ≤ v ↔ ¬ v = -1) ∧ (v < 0 ↔ v = -1) := by
  rcases h with rfl | rfl | rfl <;> decide
theorem Sim.shput {i k : Nat} {v : Int32} (h : Sim Mc Mm) (hi : i < 4) (hk : k < 24) : Sim (ctI Mc (122 + 2 * i) k v) (ctI Mm 6 (24 * i + k) v) := by
  refine h.side rfl rfl (fun b _ _ => ctI_ne (by omega)) (by rw [ctI_ne (by omega)]) (ctI_ne (by decide)) (ctI_ne (by decide)) (by rw [ctI_ne (by decide)]) (fun i2 hi2 => ?_) (h.sl.congr (fun b _ _ => ctI_ne (by omega)) (fun b _ _ => ctI_ne (by omega))) (h.tp.congr (by rw [ctI_ne (by omega)]) (ctI_ne (by omega)) (by rw [ctI_ne (by decide)]) (ctI_ne (by decide))) (h.wt.congr (by rw [ctI_ne (by omega)]) (ctI_ne (by omega)) (by rw [ctI_ne (by decide)]) (ctI_ne (by decide)))
  obtain ⟨a1, a2, a3, a4, a5⟩ := h.sh i2 hi2
  rw [ctI_ne (show 121 + 2 * i2 ≠ 122 + 2 * i by omega), ctI_ne (show 4 ≠ 6 by decide), ctI_ne (show 5 ≠ 6 by decide), ctI_1]
  refine ⟨a1, a2, a3, a4, fun k2 hk2 => ?_⟩
  by_cases e : i2 = i
  · subst e
    rw [ctI_1]
    by_cases e2 : k2 = k
    · subst e2; rw [va_up_eq', va_up_eq']
    · rw [va_up_ne' e2, va_up_ne' (by omega)]; exact a5 k2 hk2
  · rw [ctI_ne (by omega), va_up_ne' (by omega)]; exact a5 k2 hk2
theorem i_sh16 (v : Int32) : (v <<< ((16 : Int32) &&& 31)) >>> ((16 : Int32) &&& 31) = v.toInt16.toInt32 := by
  apply Int32.toInt_inj.mp
  rw [pk_shr _ _ 16 (by decide), Int.shiftRight_eq_div_pow]
  have e1 : (v <<< ((16 : Int32) &&& 31)).toBitVec.toNat = v.toBitVec.toNat * 2 ^ 16 % 2 ^ 32 := pk_shl v _ 16 (by decide)
  have e2 : (v <<< ((16 : Int32) &&& 31)).toInt = (v <<< ((16 : Int32) &&& 31)).toBitVec.toInt := rfl
  have e3 : v.toInt = v.toBitVec.toInt := rfl
  have hx : v.toBitVec.toNat < 2 ^ 32 := v.toBitVec.isLt
  rw [e2, BitVec.toInt_eq_toNat_cond, e1, Int16.toInt_toInt32, Int32.toInt_toInt16, e3, BitVec.toInt_eq_toNat_cond]
  generalize v.toBitVec.toNat = x at hx
  rw [Int.bmod_def]
  simp only [Nat.reducePow] at *
  repeat' split
  all_goals omega
theorem op_mark : opS3 Sim fX6_mark fX7_mark := by
  intro Mc Mm h x k v
  obtain ⟨pc, pm, _⟩ := id h
  by_cases h1 : 0 ≤ x ∧ x ≤ 3
  · obtain ⟨i, _, hi, rfl⟩ := rg_in (hi := 3) nI_0.symm rfl (by decide) (by decide) h1
    have hi4 : i < 4 := by omega
    obtain ⟨a1, a2, a3, ⟨len, _, hl, a4⟩, a5⟩ := h.sh i hi4
    have sn := sort_neg a3
    by_cases em : Mm.1 4 i = -1
    · refine ⟨-1000000011, Mc, Mm, ?_, ?_, h⟩
      · simp only [fX6_mark, c_isSheet, bS, if_pos h1, if_neg i_10, o_sheets pc, sh_at pc hi4, sh_cV hi4, c_missA (kC_row_ i hi4).1, a1, if_pos em]
      · simp only [fX7_mark, m_isSheet, bS, if_pos h1, if_neg i_10, gM4 pm, mt4 hi4, if_neg (show ¬ (0 : Int32) ≤ Mm.1 4 i from fun z => sn.1.mp z em)]
    · have en : (0 : Int32) ≤ Mm.1 4 i := sn.1.mpr em
      by_cases h2 : 0 ≤ k ∧ k ≤ nI len - 1
      · obtain ⟨j, hj, rfl⟩ := (ix_iff (by omega)).mp h2
        have hj24 : j < 24 := by omega
        have hix : 24 * i + j < 96 := by omega
        have pre1 : fX6_mark 0 (nI i) (nI j) v Mc = if Mm.1 4 i = 0 then (if v = -1000000005 then some (-1000000012, Mc) else fX6_mark_b58 (nI j) v (121 + 2 * i) Mc) else fX6_mark_b58 (nI j) v (121 + 2 * i) Mc := by
          simp only [fX6_mark, c_isSheet, bS, if_pos h1, if_neg i_10, o_sheets pc, sh_at pc hi4, sh_cV hi4, c_missA (kC_row_ i hi4).1, a1, if_neg em, if_true, c_hasA (kC_row_ i hi4).1, a2, a4, if_pos h2, sh_g hi4]
        have pre2 : fX7_mark 0 (nI i) (nI j) v Mm = if Mm.1 4 i = 0 then (if v = -1000000005 then some (-1000000012, Mm) else fX7_mark_b63 0 (nI i) (nI j) v Mm) else fX7_mark_b63 0 (nI i) (nI j) v Mm := by
          simp only [fX7_mark, m_isSheet, bS, if_pos h1, if_neg i_10, gM4 pm, mt4 hi4, if_pos en, gM5 pm, mt5 hi4, a4, m_isInL (nI j) 0 (nI len - 1).toInt64 0 (nI len - 1) (by decide) rfl, if_pos h2]
        rw [pre1, pre2]
        by_cases e0 : Mm.1 4 i = 0
        · have e1 : ¬ Mm.1 4 i = 1 := by rw [e0]; decide
          rw [if_pos e0, if_pos e0]
          by_cases ev : v = -1000000005
          · rw [if_pos ev, if_pos ev]
            exact ⟨_, _, _, rfl, rfl, h⟩
          · rw [if_neg ev, if_neg ev]
            refine ⟨1, ctI Mc (122 + 2 * i) j v.toInt16.toInt32, ctI Mm 6 (24 * i + j) v.toInt16.toInt32, ?_, ?_, h.shput hi4 hj24⟩
            · simp only [fX6_mark_b58, fX6_mark_b89, fX6_mark_b109, sh_g hi4, a1, bS, if_neg e1, if_pos e0, sh_pl pc hi4, sh_w hi4 hj24]
            · simp only [fX7_mark_b63, fX7_mark_b96, fX7_mark_b126, gM4 pm, mt4 hi4, bS, if_neg e1, if_pos e0, gM6 pm, i_24, mw6 hix, i_sh16]
        · have e1 : Mm.1 4 i = 1 := by rcases a3 with z | z | z
                                       · exact absurd z em
                                       · exact absurd z e0
                                       · exact z
          rw [if_neg e0, if_neg e0]
          by_cases ev : v = -1000000005
          · refine ⟨1, ctI Mc (122 + 2 * i) j v, ctI Mm 6 (24 * i + j) v, ?_, ?_, h.shput hi4 hj24⟩
            · simp only [fX6_mark_b58, fX6_mark_b89, fX6_mark_b109, sh_g hi4, a1, bS, if_pos e1, if_neg e0, if_pos ev, sh_pl pc hi4, sh_w hi4 hj24]
            · simp only [fX7_mark_b63, fX7_mark_b96, fX7_mark_b126, gM4 pm, mt4 hi4, bS, if_pos e1, if_neg e0, if_pos ev, gM6 pm, i_24, mw6 hix]
          · by_cases hv : -99999 ≤ v ∧ v ≤ 99999
            · refine ⟨1, ctI Mc (122 + 2 * i) j v, ctI Mm 6 (24 * i + j) v, ?_, ?_, h.shput hi4 hj24⟩
              · simp only [fX6_mark_b58, fX6_mark_b89, fX6_mark_b109, sh_g hi4, a1, bS, if_pos e1, if_neg e0, if_neg ev, c_within, if_pos hv, if_neg i_10, sh_pl pc hi4, sh_w hi4 hj24]
              · simp only [fX7_mark_b63, fX7_mark_b96, fX7_mark_b126, gM4 pm, mt4 hi4, bS, if_pos e1, if_neg e0, if_neg ev, m_isInL v (-99999) 99999 (-99999) 99999 (by decide) (by decide), if_pos hv, if_neg i_10, gM6 pm, i_24, mw6 hix]
            · refine ⟨-1000000001, Mc, Mm, ?_, ?_, h⟩
              · simp only [fX6_mark_b58, sh_g hi4, a1, bS, if_pos e1, if_neg ev, c_within, if_neg hv, if_true]
              · simp only [fX7_mark_b63, gM4 pm, mt4 hi4, bS, if_pos e1, if_neg ev, m_isInL v (-99999) 99999 (-99999) 99999 (by decide) (by decide), if_neg hv, if_true]
      · refine ⟨-1000000013, Mc, Mm, ?_, ?_, h⟩
        · simp only [fX6_mark, c_isSheet, bS, if_pos h1, if_neg i_10, o_sheets pc, sh_at pc hi4, sh_cV hi4, c_missA (kC_row_ i hi4).1, a1, if_neg em, if_true, c_hasA (kC_row_ i hi4).1, a2, a4, if_neg h2]
        · simp only [fX7_mark, m_isSheet, bS, if_pos h1, if_neg i_10, gM4 pm, mt4 hi4, if_pos en, gM5 pm, mt5 hi4, a4, m_isInL k 0 (nI len - 1).toInt64 0 (nI len - 1) (by decide) rfl, if_neg h2, if_true]
  · exact ⟨-1000000001, Mc, Mm, by simp only [fX6_mark, c_isSheet, bS, if_neg h1, if_true], by simp only [fX7_mark, m_isSheet, bS, if_neg h1, if_true], h⟩
/-- whether an index is a flame's -/
theorem ix_lt {j m : Nat} (hm : m ≤ 120) (hj : j < 200) : (0 ≤ nI j ∧ nI j ≤ nI m - 1) ↔ j < m := by
  rw [ix_iff hm]
  constructor
  · rintro ⟨f, h1, h2⟩
    rw [nI_eq (by omega) (by omega)] at h2
    omega
  · exact fun z => ⟨j, z, rfl⟩
theorem op_reads : opS1 Sim fX6_reads fX7_reads := by
  intro Mc Mm h x
  obtain ⟨pc, pm, _, ag, ⟨n, hi⟩, _⟩ := id h
  have hn := hi.1
  have k0 : rK Mc 82 0 = nI n := (ag 0 (by decide)).symm.trans hi.2.1
  by_cases h1 : 0 ≤ x ∧ x ≤ 3
  · obtain ⟨i, _, hi4', rfl⟩ := rg_in (hi := 3) nI_0.symm rfl (by decide) (by decide) h1
    have hi4 : i < 4 := by omega
    obtain ⟨a1, a2, a3, ⟨len, _, hl, a4⟩, a5⟩ := h.sh i hi4
    have sn := sort_neg a3
    by_cases em : Mm.1 4 i = -1
    · refine ⟨-1000000011, Mc, Mm, ?_, ?_, h⟩
      · unfold fX6_reads
        rw [c_isSheet, bS, if_pos h1, if_neg i_10, o_sheets pc, bS, sh_at pc hi4, bS, sh_cV hi4, c_missA (kC_row_ i hi4).1, bS, a1, if_pos em, if_neg i_10]
      · unfold fX7_reads
        rw [m_isSheet, bS, if_pos h1, if_neg i_10, gM4 pm, bS, mt4 hi4, bS, if_neg (show ¬ (0 : Int32) ≤ Mm.1 4 i from fun z => sn.1.mp z em)]
    · have en : (0 : Int32) ≤ Mm.1 4 i := sn.1.mpr em
      have key : ∀ (m j N N2 : Nat), j + m = len → m < N → m < N2 → ∃ v, fX6_reads_h29 N 0 (121 + 2 * i) (nI j) Mc = some (v, Mc) ∧ fX7_reads_h25 N2 0 (nI i) (nI j) Mm = some (v, Mm) := by
        intro m
        induction m with
        | zero =>
          intro j N N2 hj hN hN2
          obtain ⟨N, rfl⟩ : ∃ k, N = k + 1 := ⟨N - 1, by omega⟩
          obtain ⟨N2, rfl⟩ : ∃ k, N2 = k + 1 := ⟨N2 - 1, by omega⟩
          have : j = len := by omega
          subst this
          refine ⟨-1000000005, ?_, ?_⟩
          · rw [fX6_reads_h29, sh_g hi4, a2, a4, bS, if_pos (nI_le (Nat.le_refl _) (by omega))]
          · rw [fX7_reads_h25, gM5 pm, bS, mt5 hi4, a4, bS, if_pos (nI_le (Nat.le_refl _) (by omega))]
        | succ m ih =>
          intro j N N2 hj hN hN2
          obtain ⟨N, rfl⟩ : ∃ k, N = k + 1 := ⟨N - 1, by omega⟩
          obtain ⟨N2, rfl⟩ : ∃ k, N2 = k + 1 := ⟨N2 - 1, by omega⟩
          have hj24 : j < 24 := by omega
          obtain ⟨v, b1, b2⟩ := ih (j + 1) N N2 (by omega) (by omega) (by omega)
          rw [fX6_reads_h29, sh_g hi4, a2, a4, bS, if_neg (nI_ge (show j < len by omega) (by omega)), sh_pl pc hi4, bS, sh_r hi4 hj24, bS, a5 j hj24]
          rw [fX7_reads_h25, gM5 pm, bS, mt5 hi4, a4, bS, if_neg (nI_ge (show j < len by omega) (by omega)), gM6 pm, bS, i_24, mt6 (show 24 * i + j < 96 by omega), bS]
          unfold fX6_reads_b79 fX7_reads_b73
          rw [nI_1]
          by_cases ev : Mm.1 6 (24 * i + j) = -1000000005
          · rw [if_pos ev, if_pos ev]
            exact ⟨v, b1, b2⟩
          · rw [if_neg ev, if_neg ev, o_cV, c_isFlame pc k0, bS, m_cV, m_isFlame pm hi.2.1, bS]
            by_cases hjn : j < n
            · have hj8 : j < 8 := by omega
              have q := (ix_lt (show n ≤ 120 by omega) (show j < 200 by omega)).mpr hjn
              simp only [if_pos q, if_neg i_10]
              rw [o_now pc, bS, rm_f1 pc r82, bS, rm_fl pc r82 hj8, bS, fl_g r82 hj8 (by decide), bS, ← ag.fl hj8 (by decide), m_cV, m_of4 pm hj8, bS]
              by_cases ep : Mm.1 6 (24 * i + j) = fl (Mm.1 1) j 4
              · simp only [if_pos ep]
                exact ⟨v, b1, b2⟩
              · simp only [if_neg ep]
                exact ⟨_, rfl, rfl⟩
            · have q : ¬ (0 ≤ nI j ∧ nI j ≤ nI n - 1) := fun z => hjn ((ix_lt (by omega) (by omega)).mp z)
              simp only [if_neg q, if_true]
              exact ⟨_, rfl, rfl⟩
      obtain ⟨v, b1, b2⟩ := key len 0 4000 4000 (by omega) (by omega) (by omega)
      rw [nI_0] at b1 b2
      refine ⟨v, Mc, Mm, ?_, ?_, h⟩
      · unfold fX6_reads
        rw [c_isSheet, bS, if_pos h1, if_neg i_10, o_sheets pc, bS, sh_at pc hi4, bS, sh_cV hi4, c_missA (kC_row_ i hi4).1, bS, a1, if_neg em, if_pos rfl]
        exact b1
      · unfold fX7_reads
        rw [m_isSheet, bS, if_pos h1, if_neg i_10, gM4 pm, bS, mt4 hi4, bS, if_pos en]
        exact b2
  · refine ⟨-1000000001, Mc, Mm, ?_, ?_, h⟩
    · unfold fX6_reads
      rw [c_isSheet, bS, if_neg h1, if_pos rfl]
    · unfold fX7_reads
      rw [m_isSheet, bS, if_neg h1, if_pos rfl]
end
