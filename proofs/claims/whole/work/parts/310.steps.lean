theorem st_stuff {X : IX} {Y : LX} (hI : zI_INV X) (a1 : Int32) (a2 : Int32) : ∃ (v : Int32) (X1 : IX) (X2 : IX), fn_Post_stuff a1 a2 X = some (v, X1) ∧ fn_Mod_stuff a1 a2 X1 = some (v, X2) ∧ zI_INV X2 := by
  obtain ⟨X1, X2, e1, e2, e3⟩ := zI_both hI (f := -1000001) 0 (by decide) (by decide)
  cases hc : zw 0 a1 23 with
  | false =>
    refine ⟨-1000001, X1, X2, ?_, ?_, e3⟩
    · simp only [fn_Post_stuff, fn_Post_stuff_L16, ze_isCell, hc, zp_b1, zp_b2, zt_f, e1, ↓reduceIte]
    · simp only [fn_Mod_stuff, fn_Mod_stuff_L19, ze_mCell, hc, zp_b1, zp_b2, zt_f, e2, ↓reduceIte]
  | true =>
    cases hv : zw 0 a2 3 with
    | false =>
      refine ⟨-1000001, X1, X2, ?_, ?_, e3⟩
      · simp only [fn_Post_stuff, fn_Post_stuff_L16, ze_isCell, ze_isWithin, hc, hv, zp_b1, zp_b2, zt_f, zt_t, e1, ↓reduceIte]
        rfl
      · simp only [fn_Mod_stuff, fn_Mod_stuff_L19, ze_mCell, ze_inN a2 0 3 0 3 rfl rfl, hc, hv, zp_b1, zp_b2, zt_f, zt_t, e2, ↓reduceIte]
        rfl
    | true =>
      obtain ⟨c, hc1, rfl⟩ := zw_n (m := 23) (by decide) hc
      obtain ⟨v, hv1, rfl⟩ := zw_n (m := 3) (by decide) hv
      refine ⟨X 96 (6 + c), zu_st X (20 + 3) c (nI v), zu_st (zu_st X (20 + 3) c (nI v)) 96 (6 + c) (nI v), ?_, ?_, ?_⟩
      · simp only [fn_Post_stuff, ze_isCell, ze_isWithin, hc, hv, zp_b1, zp_nx, zt_t, zn_ib (show c < 24 by omega) (by decide), zp_gd, zn_cl (show c < 2 ^ 31 by omega), zL_stuff rfl hI.1.1 (show c < 24 by omega)]
        rfl
      · have e6 : (6 : Int32) + nI c = nI (6 + c) := nI_add 6 c
        simp only [fn_Mod_stuff, ze_mCell, ze_inN (nI v) 0 3 0 3 rfl rfl, hc, hv, zp_b1, zp_nx, zt_t, e6, zn_ib (show 6 + c < 142 by omega) (by decide), zp_gd, zn_cl (show 6 + c < 2 ^ 31 by omega), zs_other X (r := 20 + 3) (a := 96) _ _ (by decide)]
        rfl
      · have q := zI_put hI (k := 6 + c) (by omega) (zW_upd hI.1.2 (by omega) (by omega) (zk_stuff (by omega) hv1) (zd_no hI.1.2 (by omega) (fun t _ => by omega)))
        rwa [(zL_p6 0 c (by omega)).1, (zL_p6 0 c (by omega)).2] at q
theorem st_seed {X : IX} {Y : LX} (hI : zI_INV X) (a1 : Int32) : ∃ (v : Int32) (X1 : IX) (X2 : IX), fn_Post_seed a1 X = some (v, X1) ∧ fn_Mod_seed a1 X1 = some (v, X2) ∧ zI_INV X2 := by
  refine ⟨X 96 5, zu_st X 20 9 a1, zu_st (zu_st X 20 9 a1) 96 5 a1, ?_, ?_, ?_⟩
  · simp only [fn_Post_seed, zp_nx, (zL_h rfl hI.1.1).2.2.2.2.2]
  · simp only [fn_Mod_seed, zp_nx, zs_other X (r := 20) (a := 96) _ _ (by decide)]
  · exact zI_put hI (k := 5) (by omega) (zW_upd hI.1.2 (by omega) (by omega) trivial (zd_no hI.1.2 (by omega) (fun t _ => by omega)))
theorem st_tear {X : IX} {Y : LX} (hI : zI_INV X) : ∃ (v : Int32) (X1 : IX) (X2 : IX), fn_Post_tear X = some (v, X1) ∧ fn_Mod_tear X1 = some (v, X2) ∧ zI_INV X2 := by
  obtain ⟨h1, h2, h3, h4, h5⟩ := hI
  refine ⟨X 0 7, zu_st X 0 7 0, zu_st (zu_st X 0 7 0) 95 4 0, ?_, ?_, h1.ag (((zA.rf _ X).st rfl).st rfl), ⟨?_, ?_, ?_⟩, h3.ag (((zA.rf _ X).st rfl).st rfl), h4.ag (((zA.rf _ X).st rfl).st rfl), h5.ag (((zA.rf _ X).st rfl).st rfl)⟩
  · unfold fn_Post_tear fn_Post_tear_L12
    rcases h2.2.1 with e | e
    · rw [if_pos e, zp_nx, e]
    · rw [if_neg (by rw [e]; decide), zp_nx, e]
  · unfold fn_Mod_tear fn_Mod_tear_L12
    rw [zs_other X (r := 0) (a := 95) _ _ (by decide), h2.1]
    rcases h2.2.1 with e | e
    · rw [if_pos e, zp_nx, e]
    · rw [if_neg (by rw [e]; decide), zp_nx, e]
  · simp [zs_st]
  · simp [zs_st]
  · simp [zs_st]
theorem st_wipe {X : IX} {Y : LX} (hI : zI_INV X) : ∃ (v : Int32) (X1 : IX) (X2 : IX), fn_Post_wipe X = some (v, X1) ∧ fn_Mod_wipe X1 = some (v, X2) ∧ zI_INV X2 := by
  obtain ⟨h1, h2, h3, h4, h5⟩ := hI
  refine ⟨X 8 1, zu_st X 8 1 0, zu_st (zu_st X 8 1 0) 95 14 0, ?_, ?_, h1.ag (((zA.rf _ X).st rfl).st rfl), h2.ag (((zA.rf _ X).st rfl).st rfl), h3.ag (((zA.rf _ X).st rfl).st rfl), ⟨?_, ?_, ?_⟩, h5.ag (((zA.rf _ X).st rfl).st rfl)⟩
  · simp only [fn_Post_wipe, zp_nx]
  · simp only [fn_Mod_wipe, zp_nx, zs_other X (r := 8) (a := 95) _ _ (by decide), h4.1]
  · simp [zs_st]
  · rw [zs_st, zs_st]
    exact ⟨0, by omega, rfl⟩
  · rw [zs_st, zs_st]
    intro j hj
    exact absurd hj (by simp)
theorem st_of {X : IX} {Y : LX} (hI : zI_INV X) (a1 : Int32) (a2 : Int32) : ∃ (v : Int32) (X1 : IX) (X2 : IX), fn_Post_of a1 a2 X = some (v, X1) ∧ fn_Mod_of a1 a2 X1 = some (v, X2) ∧ zI_INV X2 := by
  obtain ⟨X1, X2, e1, e2, e3⟩ := zI_both hI (f := -1000001) 0 (by decide) (by decide)
  obtain ⟨n1, hn⟩ := zI_1 hI
  obtain ⟨n, en⟩ : ∃ n, n = zN (X 96) 1 := ⟨_, rfl⟩
  rw [← en] at n1 hn
  have t1 : X 20 4 = nI n := by rw [(zL_h rfl hI.1.1).2.1, n1]
  have m1 : X1 96 1 = nI n := by
    have := Option.some.inj ((ze_find 0 (by decide) (by decide) X).symm.trans e1)
    rw [← (Prod.mk.inj this).2, zs_other X (r := 11) (a := 96) _ _ (by decide), n1]
  cases ht : zh n a1 with
  | false =>
    refine ⟨-1000001, X1, X2, ?_, ?_, e3⟩
    · simp only [fn_Post_of, fn_Post_of_L18, ze_isThrower t1 hn, ht, zp_b1, zp_b2, zp_nx, zt_f, zt_t, e1, ↓reduceIte]
      try rfl
    · simp only [fn_Mod_of, fn_Mod_of_L29, fn_Mod_of_L35, ze_mThrower m1 hn, ht, zp_b1, zp_b2, zp_nx, zt_f, zt_t, e2, ↓reduceIte]
      try rfl
  | true =>
    cases hf : zw 0 a2 8 with
    | false =>
      refine ⟨-1000001, X1, X2, ?_, ?_, e3⟩
      · simp only [fn_Post_of, fn_Post_of_L18, ze_isThrower t1 hn, ze_isWithin, ht, hf, zp_b1, zp_b2, zp_nx, zt_f, zt_t, e1, ↓reduceIte]
        try rfl
      · simp only [fn_Mod_of, fn_Mod_of_L29, fn_Mod_of_L35, ze_mThrower m1 hn, ze_inN a2 0 8 0 8 rfl rfl, ht, hf, zp_b1, zp_b2, zp_nx, zt_f, zt_t, e2, ↓reduceIte]
        try rfl
    | true =>
      obtain ⟨t, ht1, rfl⟩ := zh_t (by omega) ht
      obtain ⟨f, hf1, rfl⟩ := zw_n (m := 8) (by decide) hf
      refine ⟨X 96 (30 + 9 * t + f), X, X, ?_, ?_, hI⟩
      · simp only [fn_Post_of, ze_isThrower t1 hn, ze_isWithin, ht, hf, zp_b1, zt_t, zn_ib (show t < 10 by omega) (by decide), zn_ib (show f < 9 by omega) (by decide), zp_gd, zn_cl (show t < 2 ^ 31 by omega), zn_cl (show f < 2 ^ 31 by omega), zL_fact rfl hI.1.1 (show t < 10 by omega) (show f < 9 by omega)]
        rfl
      · simp only [fn_Mod_of, fn_Mod_of_L35, ze_mThrower n1 hn, ze_inN (nI f) 0 8 0 8 rfl rfl, ht, hf, zp_b1, zt_t, ze_its (X := X) (show t < 10 by omega) (show f < 9 by omega)]
        rfl
theorem st_where {X : IX} {Y : LX} (hI : zI_INV X) (a1 : Int32) : ∃ (v : Int32) (X1 : IX) (X2 : IX), fn_Post_where a1 X = some (v, X1) ∧ fn_Mod_where a1 X1 = some (v, X2) ∧ zI_INV X2 := by
  obtain ⟨X1, X2, e1, e2, e3⟩ := zI_both hI (f := -1000001) 0 (by decide) (by decide)
  obtain ⟨n1, hn⟩ := zI_2 hI
  obtain ⟨n, en⟩ : ∃ n, n = zN (X 96) 2 := ⟨_, rfl⟩
  rw [← en] at n1 hn
  have t1 : X 20 5 = nI n := by rw [(zL_h rfl hI.1.1).2.2.1, n1]
  have m1 : X1 96 2 = nI n := by
    have := Option.some.inj ((ze_find 0 (by decide) (by decide) X).symm.trans e1)
    rw [← (Prod.mk.inj this).2, zs_other X (r := 11) (a := 96) _ _ (by decide), n1]
  cases ht : zh n a1 with
  | false =>
    refine ⟨-1000001, X1, X2, ?_, ?_, e3⟩
    · simp only [fn_Post_where, fn_Post_where_L26, ze_isLetter t1 hn, ht, zp_b1, zp_b2, zp_nx, zt_f, zt_t, e1, ↓reduceIte]
      try rfl
    · simp only [fn_Mod_where, fn_Mod_where_L26, ze_mLetter m1 hn, ht, zp_b1, zp_b2, zp_nx, zt_f, zt_t, e2, ↓reduceIte]
      try rfl
  | true =>
    obtain ⟨t, ht1, rfl⟩ := zh_t (by omega) ht
    refine ⟨X 96 (120 + t), X, X, ?_, ?_, hI⟩
    · simp only [fn_Post_where, fn_Post_where_L26, ze_isLetter t1 hn, ht, zp_b1, zt_t, zn_ib (show t < 12 by omega) (by decide), zp_gd, zn_cl (show t < 2 ^ 31 by omega), zL_let rfl hI.1.1 (show t < 12 by omega)]
      rfl
    · have e6 : (120 : Int32) + nI t = nI (120 + t) := nI_add 120 t
      simp only [fn_Mod_where, fn_Mod_where_L26, ze_mLetter n1 hn, ht, zp_b1, zt_t, e6, zn_ib (show 120 + t < 142 by omega) (by decide), zp_gd, zn_cl (show 120 + t < 2 ^ 31 by omega)]
      rfl
