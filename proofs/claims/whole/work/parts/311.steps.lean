theorem zc_t {a b : Int32} {n0 : Nat} (h : zc a b = true) : ∃ f, f < 8 ∧ f ≠ 1 ∧ a = nI f ∧ zk_f n0 f b := by
  have le : ∀ m : Nat, m < 2 ^ 31 → zw 0 b (nI m) = true → zI_le b m := fun m hm q => zw_n hm q
  have le1 : ∀ m : Nat, m < 2 ^ 31 → zw 1 b (nI m) = true → zI_le b m ∧ 1 ≤ b.toNatClampNeg := by
    intro m hm q
    obtain ⟨q1, q2⟩ := zw_t q
    have q0 : (0 : Int32) ≤ b := by
      rw [zn_le] at q1 ⊢
      have e1 : (1 : Int32).toInt = 1 := rfl
      have e0 : (0 : Int32).toInt = 0 := rfl
      omega
    obtain ⟨k, hk, rfl⟩ := zn_nat m hm q0 q2
    refine ⟨⟨k, hk, rfl⟩, ?_⟩
    rw [nI_clamp (by omega)]
    exact (nI_leI (a := 1) (b := k) (by omega) (by omega)).mp q1
  unfold zc at h
  by_cases h0 : a = 0
  · rw [if_pos h0] at h
    exact ⟨0, by omega, by omega, h0, le 6 (by omega) h⟩
  rw [if_neg h0] at h
  by_cases h2 : a = 2
  · rw [if_pos h2] at h
    exact ⟨2, by omega, by omega, h2, le1 9 (by omega) h⟩
  rw [if_neg h2] at h
  by_cases h3 : a = 3
  · rw [if_pos h3] at h
    exact ⟨3, by omega, by omega, h3, le1 12 (by omega) h⟩
  rw [if_neg h3] at h
  by_cases h5 : a = 5
  · rw [if_pos h5] at h
    exact ⟨5, by omega, by omega, h5, le 12 (by omega) h⟩
  rw [if_neg h5] at h
  by_cases h4 : a = 4 ∨ a = 6 ∨ a = 7
  · rw [if_pos h4] at h
    rcases h4 with e | e | e
    · exact ⟨4, by omega, by omega, e, le 1 (by omega) h⟩
    · exact ⟨6, by omega, by omega, e, le 1 (by omega) h⟩
    · exact ⟨7, by omega, by omega, e, le 1 (by omega) h⟩
  · rw [if_neg h4] at h
    cases h
/-- a finding on both sides, and that nothing else has changed in the class -/
theorem zI_both2 {X : IX} (hI : zI_INV X) {f : Int32} (j : Nat) (hj : j < 7) (e : (-1000001 : Int32) - f = nI j) : ∃ (X1 X2 : IX), fn_Post_finding f X = some (f, X1) ∧ fn_Mod_finds f X1 = some (f, X2) ∧ zI_INV X2 ∧ ∀ r, r ≠ 11 → X1 r = X r :=
  ⟨_, _, ze_find j hj e X, ze_finds j hj e _, zI_find hI j hj, fun _ hr => zs_other X _ _ hr⟩
theorem st_rule {X : IX} {Y : LX} (hI : zI_INV X) (a1 : Int32) (a2 : Int32) : ∃ (v : Int32) (X1 : IX) (X2 : IX), fn_Post_rule a1 a2 X = some (v, X1) ∧ fn_Mod_rule a1 a2 X1 = some (v, X2) ∧ zI_INV X2 := by
  obtain ⟨X1, X2, e1, e2, e3, e4⟩ := zI_both2 hI (f := -1000001) 0 (by decide) (by decide)
  have hL := zL_h rfl hI.1.1
  by_cases h0 : a1 = 0
  · subst h0
    cases hc : zw 0 a2 23 with
    | false =>
      refine ⟨-1000001, X1, X2, ?_, ?_, e3⟩
      · simp only [fn_Post_rule, fn_Post_rule_L29, fn_Post_rule_L62, ze_isCell, hc, show ((0 : Int32) = 1) = False from by decide, zp_b1, zp_b2, zp_nx, zt_f, zt_t, e1, ↓reduceIte]
        try rfl
      · simp only [fn_Mod_rule, fn_Mod_rule_L26, fn_Mod_rule_L32, ze_inN 0 0 1 0 1 rfl rfl, ze_inN a2 0 23 0 23 rfl rfl, hc, show zw 0 0 1 = true from rfl, zp_b1, zp_b2, zp_nx, zt_f, zt_t, e2, ↓reduceIte]
        try rfl
    | true =>
      obtain ⟨c, hc1, rfl⟩ := zw_n (m := 23) (by decide) hc
      refine ⟨X 96 3, zu_st X 20 6 (nI c), zu_st (zu_st X 20 6 (nI c)) 96 3 (nI c), ?_, ?_, ?_⟩
      · simp only [fn_Post_rule, ze_isCell, hc, zp_b1, zp_nx, zt_t, hL.2.2.2.1, ↓reduceIte]
        rfl
      · have e6 : (3 : Int32) + 0 = nI 3 := rfl
        simp only [fn_Mod_rule, fn_Mod_rule_L26, ze_inN 0 0 1 0 1 rfl rfl, ze_inN (nI c) 0 23 0 23 rfl rfl, show zw 0 0 1 = true from rfl, hc, zp_b1, zp_nx, zt_t, e6, zn_ib (show 3 < 142 by omega) (by decide), zp_gd, zn_cl (show 3 < 2 ^ 31 by omega), zs_other X (r := 20) (a := 96) _ _ (by decide)]
        rfl
      · exact zI_put hI (k := 3) (by omega) (zW_upd hI.1.2 (by omega) (by omega) (zI_le.of hc1) (zd_no hI.1.2 (by omega) (fun t _ => by omega)))
  · by_cases h1 : a1 = 1
    · subst h1
      cases hc : zw 0 a2 9 with
      | false =>
        refine ⟨-1000001, X1, X2, ?_, ?_, e3⟩
        · simp only [fn_Post_rule, fn_Post_rule_L29, fn_Post_rule_L62, ze_isWithin, hc, show ((1 : Int32) = 0) = False from by decide, zp_b1, zp_b2, zp_nx, zt_f, zt_t, e1, ↓reduceIte]
          try rfl
        · simp only [fn_Mod_rule, fn_Mod_rule_L26, fn_Mod_rule_L32, ze_inN 1 0 1 0 1 rfl rfl, ze_inN a2 0 9 0 9 rfl rfl, hc, show zw 0 1 1 = true from rfl, show ((1 : Int32) = 0) = False from by decide, zp_b1, zp_b2, zp_nx, zt_f, zt_t, e2, ↓reduceIte]
          try rfl
      | true =>
        obtain ⟨c, hc1, rfl⟩ := zw_n (m := 9) (by decide) hc
        refine ⟨X 96 4, zu_st X 20 7 (nI c), zu_st (zu_st X 20 7 (nI c)) 96 4 (nI c), ?_, ?_, ?_⟩
        · simp only [fn_Post_rule, fn_Post_rule_L29, ze_isWithin, hc, zp_b1, zp_nx, zt_t, hL.2.2.2.2.1, show ((1 : Int32) = 0) = False from by decide, ↓reduceIte]
        · have e6 : (3 : Int32) + 1 = nI 4 := rfl
          simp only [fn_Mod_rule, fn_Mod_rule_L26, ze_inN 1 0 1 0 1 rfl rfl, ze_inN (nI c) 0 9 0 9 rfl rfl, show zw 0 1 1 = true from rfl, hc, zp_b1, zp_nx, zt_t, e6, zn_ib (show 4 < 142 by omega) (by decide), zp_gd, zn_cl (show 4 < 2 ^ 31 by omega), zs_other X (r := 20) (a := 96) _ _ (by decide), show ((1 : Int32) = 0) = False from by decide, ↓reduceIte]
        · exact zI_put hI (k := 4) (by omega) (zW_upd hI.1.2 (by omega) (by omega) (zI_le.of hc1) (zd_no hI.1.2 (by omega) (fun t _ => by omega)))
    · have hw : zw 0 a1 1 = false := by
        cases q : zw 0 a1 1 with
        | false => rfl
        | true =>
          obtain ⟨k, hk, rfl⟩ := zw_n (m := 1) (by decide) q
          rcases (show k = 0 ∨ k = 1 by omega) with rfl | rfl
          · exact absurd rfl h0
          · exact absurd rfl h1
      refine ⟨-1000001, X1, X2, ?_, ?_, e3⟩
      · simp only [fn_Post_rule, fn_Post_rule_L29, fn_Post_rule_L62, if_neg h0, if_neg h1, zp_b1, zp_b2, zp_nx, zt_f, zt_t, e1, ↓reduceIte]
        try rfl
      · simp only [fn_Mod_rule, fn_Mod_rule_L32, ze_inN a1 0 1 0 1 rfl rfl, hw, zp_b1, zp_b2, zp_nx, zt_f, zt_t, e2, ↓reduceIte]
        try rfl

theorem st_change {X : IX} {Y : LX} (hI : zI_INV X) (a1 : Int32) (a2 : Int32) (a3 : Int32) : ∃ (v : Int32) (X1 : IX) (X2 : IX), fn_Post_change a1 a2 a3 X = some (v, X1) ∧ fn_Mod_change a1 a2 a3 X1 = some (v, X2) ∧ zI_INV X2 := by
  obtain ⟨X1, X2, e1, e2, e3, e4⟩ := zI_both2 hI (f := -1000001) 0 (by decide) (by decide)
  obtain ⟨n1, hn⟩ := zI_1 hI
  obtain ⟨n, en⟩ : ∃ n, n = zN (X 96) 1 := ⟨_, rfl⟩
  rw [← en] at n1 hn
  have t1 : X 20 4 = nI n := by rw [(zL_h rfl hI.1.1).2.1, n1]
  have m1 : X1 96 1 = nI n := by rw [e4 96 (by decide), n1]
  cases ht : zh n a1 with
  | false =>
    refine ⟨-1000001, X1, X2, ?_, ?_, e3⟩
    · simp only [fn_Post_change, fn_Post_change_L16, ze_isThrower t1 hn, ht, zp_b1, zp_b2, zp_nx, zt_f, zt_t, e1, ↓reduceIte]
      try rfl
    · simp only [fn_Mod_change, fn_Mod_change_L16, ze_mThrower m1 hn, ht, zp_b1, zp_b2, zp_nx, zt_f, zt_t, e2, ↓reduceIte]
      try rfl
  | true =>
    cases hc : zc a2 a3 with
    | false =>
      refine ⟨-1000001, X1, X2, ?_, ?_, e3⟩
      · simp only [fn_Post_change, fn_Post_change_L16, ze_isThrower t1 hn, ze_canBecome, ht, hc, zp_b1, zp_b2, zp_nx, zt_f, zt_t, e1, ↓reduceIte]
        try rfl
      · simp only [fn_Mod_change, fn_Mod_change_L16, ze_mThrower m1 hn, ze_isPart, ht, hc, zp_b1, zp_b2, zp_nx, zt_f, zt_t, e2, ↓reduceIte]
        try rfl
    | true =>
      obtain ⟨t, ht1, rfl⟩ := zh_t (by omega) ht
      obtain ⟨f, hf1, hf2, rfl, hf3⟩ := zc_t (n0 := zN (X 96) 0) hc
      have hp := zL_p30 0 t f (by omega) (by omega)
      refine ⟨X 96 (30 + 9 * t + f), zu_st X (zu_th (20 + 6) t + 30) f a3, zu_st (zu_st X (zu_th (20 + 6) t + 30) f a3) 96 (30 + 9 * t + f) a3, ?_, ?_, ?_⟩
      · simp only [fn_Post_change, ze_isThrower t1 hn, ze_canBecome, ht, hc, zp_b1, zt_t, zp_nx, zn_ib (show t < 10 by omega) (by decide), zn_ib (show f < 9 by omega) (by decide), zp_gd, zn_cl (show t < 2 ^ 31 by omega), zn_cl (show f < 2 ^ 31 by omega), zL_fact rfl hI.1.1 (show t < 10 by omega) (show f < 9 by omega)]
        rfl
      · have h96 : zu_st X (zu_th (20 + 6) t + 30) f a3 96 = X 96 := zs_other X _ _ (by unfold zu_th; omega)
        have n1' : zu_st X (zu_th (20 + 6) t + 30) f a3 96 1 = nI n := by rw [h96]; exact n1
        simp only [fn_Mod_change, ze_mThrower n1' hn, ze_isPart, ht, hc, zp_b1, zt_t, zp_nx, ze_its (X := zu_st X (zu_th (20 + 6) t + 30) f a3) (show t < 10 by omega) (show f < 9 by omega), ze_at, zn_ib (show 30 + 9 * t + f < 142 by omega) (by decide), zp_gd, zn_cl (show 30 + 9 * t + f < 2 ^ 31 by omega), h96]
        rfl
      · have q := zI_put hI (k := 30 + 9 * t + f) (by omega) (zW_upd hI.1.2 (v := a3) (by omega) (by omega) ((zk_fact (by omega) (by omega)).mpr (fun _ => hf3)) (zd_no hI.1.2 (by omega) (fun u _ => by omega)))
        rwa [hp.1, hp.2] at q
theorem st_hold {X : IX} {Y : LX} (hI : zI_INV X) (a1 : Int32) (a2 : Int32) : ∃ (v : Int32) (X1 : IX) (X2 : IX), fn_Post_hold a1 a2 X = some (v, X1) ∧ fn_Mod_hold a1 a2 X1 = some (v, X2) ∧ zI_INV X2 := by
  obtain ⟨X1, X2, e1, e2, e3, e4⟩ := zI_both2 hI (f := -1000001) 0 (by decide) (by decide)
  obtain ⟨n1, hn⟩ := zI_1 hI
  obtain ⟨n, en⟩ : ∃ n, n = zN (X 96) 1 := ⟨_, rfl⟩
  rw [← en] at n1 hn
  have t1 : X 20 4 = nI n := by rw [(zL_h rfl hI.1.1).2.1, n1]
  have m1 : X1 96 1 = nI n := by rw [e4 96 (by decide), n1]
  cases hq : zw 0 a1 9 with
  | false =>
    refine ⟨-1000001, X1, X2, ?_, ?_, e3⟩
    · simp only [fn_Post_hold, fn_Post_hold_L23, ze_isWithin, hq, zp_b1, zp_b2, zp_nx, zt_f, zt_t, e1, ↓reduceIte]
      try rfl
    · simp only [fn_Mod_hold, fn_Mod_hold_L25, ze_inN a1 0 9 0 9 rfl rfl, hq, zp_b1, zp_b2, zp_nx, zt_f, zt_t, e2, ↓reduceIte]
      try rfl
  | true =>
    obtain ⟨q, hq1, rfl⟩ := zw_n (m := 9) (by decide) hq
    have e6 : (132 : Int32) + nI q = nI (132 + q) := nI_add 132 q
    have hp := zL_p132 0 q (by omega)
    have h96 : zu_st X (20 + 12) q a2 96 = X 96 := zs_other X _ _ (by decide)
    have fin : ∀ (hv : a2 = -1 ∨ ∃ m, m < n ∧ a2 = nI m), zI_INV (zu_st (zu_st X (20 + 12) q a2) 96 (132 + q) a2) := by
      intro hv
      have q9 := zI_put hI (k := 132 + q) (by omega) (zW_upd hI.1.2 (v := a2) (by omega) (by omega) ((zk_spot (by omega)).mpr (by rw [← en]; exact hv)) (zd_no hI.1.2 (by omega) (fun u _ => by omega)))
      rwa [hp.1, hp.2] at q9
    by_cases hm : a2 = -1
    · refine ⟨1, zu_st X (20 + 12) q a2, zu_st (zu_st X (20 + 12) q a2) 96 (132 + q) a2, ?_, ?_, fin (Or.inl hm)⟩
      · simp only [fn_Post_hold, fn_Post_hold_L30, ze_isWithin, hq, zp_b1, zt_t, zp_nx, if_pos hm, zn_ib (show q < 10 by omega) (by decide), zp_gd, zn_cl (show q < 2 ^ 31 by omega)]
        rfl
      · simp only [fn_Mod_hold, fn_Mod_hold_L32, ze_inN (nI q) 0 9 0 9 rfl rfl, hq, zp_b1, zt_t, zp_nx, if_pos hm, e6, zn_ib (show 132 + q < 142 by omega) (by decide), zp_gd, zn_cl (show 132 + q < 2 ^ 31 by omega)]
        rfl
    · cases ht : zh n a2 with
      | false =>
        refine ⟨-1000001, X1, X2, ?_, ?_, e3⟩
        · simp only [fn_Post_hold, fn_Post_hold_L23, ze_isWithin, hq, if_neg hm, ze_isThrower t1 hn, ht, zp_b1, zp_b2, zp_nx, zt_f, zt_t, e1, ↓reduceIte]
          try rfl
        · simp only [fn_Mod_hold, fn_Mod_hold_L25, ze_inN (nI q) 0 9 0 9 rfl rfl, hq, if_neg hm, ze_mThrower m1 hn, ht, zp_b1, zp_b2, zp_nx, zt_f, zt_t, e2, ↓reduceIte]
          try rfl
      | true =>
        have n1' : zu_st X (20 + 12) q a2 96 1 = nI n := by rw [h96]; exact n1
        refine ⟨1, zu_st X (20 + 12) q a2, zu_st (zu_st X (20 + 12) q a2) 96 (132 + q) a2, ?_, ?_, fin (Or.inr (zh_t (by omega) ht))⟩
        · simp only [fn_Post_hold, fn_Post_hold_L30, ze_isWithin, hq, zp_b1, zt_t, zp_nx, if_neg hm, ze_isThrower t1 hn, ht, zn_ib (show q < 10 by omega) (by decide), zp_gd, zn_cl (show q < 2 ^ 31 by omega)]
          rfl
        · simp only [fn_Mod_hold, fn_Mod_hold_L32, ze_inN (nI q) 0 9 0 9 rfl rfl, hq, zp_b1, zt_t, zp_nx, if_neg hm, ze_mThrower n1' hn, ht, e6, zn_ib (show 132 + q < 142 by omega) (by decide), zp_gd, zn_cl (show 132 + q < 2 ^ 31 by omega)]
          rfl
