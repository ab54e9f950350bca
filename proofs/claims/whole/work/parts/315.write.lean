theorem ze_missing (X : IX) (r : Nat) : fn_Sheet_isMissing X r = some (zt (decide (X r 1 = 0))) := by
  unfold fn_Sheet_isMissing fn_Sheet_isMissing_L12
  by_cases h : X r 1 = 0
  · rw [if_pos h, decide_eq_true h]; rfl
  · rw [if_neg h, decide_eq_false h]; rfl
theorem ze_wrongF {a : Int32} (X : IX) (h : zw 0 a 3 = false) : fn_Mod_wrong X a = some (-1000001) := by
  unfold fn_Mod_wrong fn_Mod_wrong_L28
  rw [ze_mOne, h, zp_b1, zt_f, if_pos rfl]
theorem ze_wrong {q : Nat} (X : IX) (hq : q < 4) : fn_Mod_wrong X (nI q) = some (if X 105 q = 0 then -1000006 else 0) := by
  unfold fn_Mod_wrong fn_Mod_wrong_L28
  rw [ze_mOne, show zw 0 (nI q) 3 = true from zw_nI (l := 0) (h := 3) (by omega) (by omega) (by omega), zp_b1, zt_t, if_neg (by decide), zn_ib hq (by decide), zp_gd, zn_cl (by omega)]
  by_cases h : X 105 q = 0
  · rw [if_pos h, if_pos h]
  · rw [if_neg h, if_neg h]
theorem zb_8 (v : Int32) : (v <<< ((32 - 8 : Int32) &&& 31)) >>> ((32 - 8 : Int32) &&& 31) = v.toInt8.toInt32 := by
  rw [show (32 - 8 : Int32) &&& 31 = 24 from by decide]
  apply Int32.toBitVec_inj.mp
  apply BitVec.eq_of_getLsbD_eq
  intro i hi
  rw [Int32.toBitVec_shiftRight, Int32.toBitVec_shiftLeft, Int8.toBitVec_toInt32, Int32.toBitVec_toInt8]
  rw [show (24 : Int32).toBitVec.smod 32 = 24#32 from by decide]
  rw [BitVec.sshiftRight_eq', BitVec.shiftLeft_eq']
  rw [show (24#32).toNat = 24 from rfl]
  rw [BitVec.getLsbD_sshiftRight, BitVec.getLsbD_signExtend, BitVec.msb_eq_getLsbD_last, BitVec.msb_eq_getLsbD_last, BitVec.getLsbD_shiftLeft, BitVec.getLsbD_shiftLeft, BitVec.getLsbD_signExtend, BitVec.getLsbD_signExtend]
  by_cases h : i < 8
  · have h2 : 24 + i < 32 := by omega
    have h3 : 24 + i - 24 = i := by omega
    simp [h, h2, hi, h3, Nat.not_le.mpr hi]
  · have h2 : ¬ 24 + i < 32 := by omega
    simp [h, h2, hi, Nat.not_le.mpr hi]
theorem zb_16 (v : Int32) : (v <<< ((32 - 16 : Int32) &&& 31)) >>> ((32 - 16 : Int32) &&& 31) = v.toInt16.toInt32 := by
  rw [show (32 - 16 : Int32) &&& 31 = 16 from by decide]
  apply Int32.toBitVec_inj.mp
  apply BitVec.eq_of_getLsbD_eq
  intro i hi
  rw [Int32.toBitVec_shiftRight, Int32.toBitVec_shiftLeft, Int16.toBitVec_toInt32, Int32.toBitVec_toInt16]
  rw [show (16 : Int32).toBitVec.smod 32 = 16#32 from by decide]
  rw [BitVec.sshiftRight_eq', BitVec.shiftLeft_eq']
  rw [show (16#32).toNat = 16 from rfl]
  rw [BitVec.getLsbD_sshiftRight, BitVec.getLsbD_signExtend, BitVec.msb_eq_getLsbD_last, BitVec.msb_eq_getLsbD_last, BitVec.getLsbD_shiftLeft, BitVec.getLsbD_shiftLeft, BitVec.getLsbD_signExtend, BitVec.getLsbD_signExtend]
  by_cases h : i < 16
  · have h2 : 16 + i < 32 := by omega
    have h3 : 16 + i - 16 = i := by omega
    simp [h, h2, hi, h3, Nat.not_le.mpr hi]
  · have h2 : ¬ 16 + i < 32 := by omega
    simp [h, h2, hi, Nat.not_le.mpr hi]
theorem zb_nar (b v : Int32) (h : b = 8 ∨ b = 16 ∨ b = 32) : (v <<< ((32 - b) &&& 31)) >>> ((32 - b) &&& 31) = fn_Mod_narrowed b v := by
  unfold fn_Mod_narrowed fn_Mod_narrowed_L23
  rcases h with rfl | rfl | rfl
  · rw [if_pos rfl]; exact zb_8 v
  · rw [if_neg (by decide), if_pos rfl]; exact zb_16 v
  · rw [if_neg (by decide), if_neg (by decide), show (32 - 32 : Int32) &&& 31 = 0 from by decide]
    apply Int32.toBitVec_inj.mp
    rw [Int32.toBitVec_shiftRight, Int32.toBitVec_shiftLeft, show (0 : Int32).toBitVec.smod 32 = 0#32 from by decide]
    simp
theorem zI_C5.put {X : IX} {q i : Nat} {v : Int32} (h5 : zI_C5 X) (hq : q < 4) (hi : i < 40) : zI_C5 (zu_st (zu_st X (16 + q) i v) 107 (40 * q + i) v) := by
  intro w hw
  obtain ⟨g1, g2, g3, g4, g5⟩ := h5 w hw
  have r12 : zu_st (zu_st X (16 + q) i v) 107 (40 * q + i) v (12 + w) = X (12 + w) := by rw [zs_other _ _ _ (by omega), zs_other _ _ _ (by omega)]
  rw [r12, zs_other _ (a := 105) _ _ (by decide), zs_other _ (a := 105) _ _ (by omega), zs_other _ (a := 106) _ _ (by decide), zs_other _ (a := 106) _ _ (by omega)]
  refine ⟨g1, g2, g3, g4, fun j hj => ?_⟩
  rw [zs_st, zs_other X (a := 107) _ _ (by omega), zs_other _ (a := 16 + w) _ _ (by omega), zs_st]
  by_cases e : w = q ∧ j = i
  · rw [if_pos (show 107 = 107 ∧ 40 * w + j = 40 * q + i from ⟨rfl, by omega⟩), if_pos (show 16 + w = 16 + q ∧ j = i by omega)]
  · rw [if_neg (show ¬ (107 = 107 ∧ 40 * w + j = 40 * q + i) by omega), if_neg (show ¬ (16 + w = 16 + q ∧ j = i) by omega)]
    exact g5 j hj
theorem st_write {X : IX} {Y : LX} (hI : zI_INV X) (a1 : Int32) (a2 : Int32) (a3 : Int32) : ∃ (v : Int32) (X1 : IX) (X2 : IX), fn_Post_write a1 a2 a3 X = some (v, X1) ∧ fn_Mod_write a1 a2 a3 X1 = some (v, X2) ∧ zI_INV X2 := by
  obtain ⟨X1, X2, e1, e2, e3, e4⟩ := zI_both2 hI (f := -1000001) 0 (by decide) (by decide)
  obtain ⟨X1s, X2s, s1, s2, s3, s4⟩ := zI_both2 hI (f := -1000006) 5 (by decide) (by decide)
  have n10 : ((1 : Int32) = 0) = False := by decide
  have nb : ((-1000001 : Int32) = 0) = False := by decide
  have nm : ((-1000006 : Int32) = 0) = False := by decide
  cases hq : zw 0 a1 3 with
  | false =>
    refine ⟨-1000001, X1, X2, ?_, ?_, e3⟩
    · simp only [fn_Post_write, ze_isSheet, hq, zp_b1, zp_b2, zt_f, e1, ↓reduceIte]
    · simp only [fn_Mod_write, ze_wrongF X1 hq, zp_b1, zp_b2, e2, nb, ↓reduceIte]
  | true =>
    obtain ⟨q, hq1, rfl⟩ := zw_n (m := 3) (by decide) hq
    obtain ⟨g1, g2, g3, g4, g5⟩ := hI.2.2.2.2 q (by omega)
    by_cases hz : X (12 + q) 1 = 0
    · refine ⟨-1000006, X1s, X2s, ?_, ?_, s3⟩
      · simp only [fn_Post_write, ze_isSheet, hq, zp_b1, zp_b2, zt_t, s1, n10, ↓reduceIte, zn_ib (show q < 4 by omega) (by decide), zp_gd, zn_cl (show q < 2 ^ 31 by omega), ze_missing, decide_eq_true hz]
      · have hz2 : X1s 105 q = 0 := by rw [s4 105 (by decide), g1, hz]
        simp only [fn_Mod_write, ze_wrong X1s (show q < 4 by omega), if_pos hz2, zp_b1, zp_b2, s2, nm, ↓reduceIte]
    · obtain ⟨n, hn, en⟩ := g4
      cases hi : zh n a2 with
      | false =>
        refine ⟨-1000001, X1, X2, ?_, ?_, e3⟩
        · simp only [fn_Post_write, ze_isSheet, hq, zp_b1, zp_b2, zt_t, zt_f, e1, n10, ↓reduceIte, zn_ib (show q < 4 by omega) (by decide), zp_gd, zn_cl (show q < 2 ^ 31 by omega), ze_missing, decide_eq_false hz, ze_isWithin, en, zw_zh (show n < 2 ^ 30 by omega), hi]
        · have hz2 : ¬ X1 105 q = 0 := by rw [e4 105 (by decide), g1]; exact hz
          have en2 : X1 106 q = nI n := by rw [e4 106 (by decide), g2, en]
          simp only [fn_Mod_write, ze_wrong X1 (show q < 4 by omega), if_neg hz2, zp_b1, zp_b2, e2, ↓reduceIte, zn_ib (show q < 4 by omega) (by decide), zp_gd, zn_cl (show q < 2 ^ 31 by omega), en2, ze_inN a2 0 _ 0 (nI n - 1) rfl rfl, zw_zh (show n < 2 ^ 30 by omega), hi, zt_f]
      | true =>
        obtain ⟨i, hi1, rfl⟩ := zh_t (by omega) hi
        obtain ⟨x, ex⟩ : ∃ x : Int32, x = fn_Mod_narrowed (X (12 + q) 1) a3 := ⟨_, rfl⟩
        have hx := zb_nar (X (12 + q) 1) a3 (by rcases g3 with h | h | h | h; exact absurd h hz; exact Or.inl h; exact Or.inr (Or.inl h); exact Or.inr (Or.inr h))
        rw [← ex] at hx
        have e40 : ((40 : Int32) * nI q) + nI i = nI (40 * q + i) := by rw [show (40 : Int32) = nI 40 from rfl, pk_mul, nI_add]
        refine ⟨1, zu_st X (12 + q + 4) i x, zu_st (zu_st X (12 + q + 4) i x) 107 (40 * q + i) x, ?_, ?_, ?_⟩
        · simp only [fn_Post_write, fn_Sheet_put, ze_isSheet, hq, zp_b1, zp_nx, zt_t, zt_f, n10, ↓reduceIte, zn_ib (show q < 4 by omega) (by decide), zp_gd, zn_cl (show q < 2 ^ 31 by omega), ze_missing, decide_eq_false hz, ze_isWithin, en, zw_zh (show n < 2 ^ 30 by omega), hi, zn_ib (show i < 40 by omega) (by decide), zn_cl (show i < 2 ^ 31 by omega), hx]
        · have r105 : zu_st X (12 + q + 4) i x 105 q = X (12 + q) 1 := by rw [zs_other _ _ _ (by omega), g1]
          have r106 : zu_st X (12 + q + 4) i x 106 q = nI n := by rw [zs_other _ _ _ (by omega), g2, en]
          have hz2 : ¬ zu_st X (12 + q + 4) i x 105 q = 0 := by rw [r105]; exact hz
          simp only [fn_Mod_write, ze_wrong (zu_st X (12 + q + 4) i x) (show q < 4 by omega), if_neg hz2, if_neg hz, zp_b1, zp_nx, n10, ↓reduceIte, zn_ib (show q < 4 by omega) (by decide), zp_gd, zn_cl (show q < 2 ^ 31 by omega), r105, r106, ze_inN (nI i) 0 _ 0 (nI n - 1) rfl rfl, zw_zh (show n < 2 ^ 30 by omega), hi, zt_t, e40, zn_ib (show 40 * q + i < 160 by omega) (by decide), zn_cl (show 40 * q + i < 2 ^ 31 by omega), ← ex]
        · obtain ⟨h1, h2, h3, h4, h5⟩ := hI
          have p5 := h5.put (v := x) (show q < 4 by omega) (show i < 40 by omega)
          rw [show 16 + q = 12 + q + 4 by omega] at p5
          refine ⟨h1.ag (((zA.rf _ X).st ?_).st rfl), h2.ag (((zA.rf _ X).st ?_).st rfl), h3.ag (((zA.rf _ X).st ?_).st rfl), h4.ag (((zA.rf _ X).st ?_).st rfl), p5⟩
          · unfold zA_1; simp; omega
          · unfold zA_2; simp; omega
          · unfold zA_3; simp; omega
          · unfold zA_4; simp; omega
