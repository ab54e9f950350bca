theorem st_stuff {X : IX} {Y : LX} (hI : zI_INV X) (a1 : Int32) (a2 : Int32) : ∃ (v : Int32) (X1 : IX) (X2 : IX), fn_Post_stuff a1 a2 X = some (v, X1) ∧ fn_Mod_stuff a1 a2 X1 = some (v, X2) ∧ zI_INV X2 := by
  obtain ⟨X1, X2, e1, e2, e3⟩ := zI_both hI (f := -1000001) 0 (by decide) (by decide)
  cases hc : zw 0 a1 23 with
  | false =>
    refine ⟨-1000001, X1, X2, ?_, ?_, e3⟩
    · simp only [fn_Post_stuff, fn_Post_stuff_L16, ze_isCell, hc, zp_b1, zp_b2, zt_f, e1, ↓reduceIte]
    · simp only [fn_Mod_stuff, fn_Mod_stuff_L19, ze_mCell, hc, zp_b1, zp_b2, zt_f, e2, ↓reduceIte]
  | true =>
    cases hv : zw 0 a2 3 with
    | false =>
      refine ⟨-1000001, X1, X2, ?_, ?_, e3⟩
      · simp only [fn_Post_stuff, fn_Post_stuff_L16, ze_isCell, ze_isWithin, hc, hv, zp_b1, zp_b2, zt_f, zt_t, e1, ↓reduceIte]
        rfl
      · simp only [fn_Mod_stuff, fn_Mod_stuff_L19, ze_mCell, ze_inN a2 0 3 0 3 rfl rfl, hc, hv, zp_b1, zp_b2, zt_f, zt_t, e2, ↓reduceIte]
        rfl
    | true =>
      obtain ⟨c, hc1, rfl⟩ := zw_n (m := 23) (by decide) hc
      obtain ⟨v, hv1, rfl⟩ := zw_n (m := 3) (by decide) hv
      refine ⟨X 96 (6 + c), zu_st X (20 + 3) c (nI v), zu_st (zu_st X (20 + 3) c (nI v)) 96 (6 + c) (nI v), ?_, ?_, ?_⟩
      · simp only [fn_Post_stuff, ze_isCell, ze_isWithin, hc, hv, zp_b1, zp_nx, zt_t, zn_ib (show c < 24 by omega) (by decide), zp_gd, zn_cl (show c < 2 ^ 31 by omega), zL_stuff rfl hI.1.1 (show c < 24 by omega)]
        rfl
      · have e6 : (6 : Int32) + nI c = nI (6 + c) := nI_add 6 c
        simp only [fn_Mod_stuff, ze_mCell, ze_inN (nI v) 0 3 0 3 rfl rfl, hc, hv, zp_b1, zp_nx, zt_t, e6, zn_ib (show 6 + c < 142 by omega) (by decide), zp_gd, zn_cl (show 6 + c < 2 ^ 31 by omega), zs_other X (r := 20 + 3) (a := 96) _ _ (by decide)]
        rfl
      · have q := zI_put hI (k := 6 + c) (by omega) (zW_upd hI.1.2 (by omega) (by omega) (zk_stuff (by omega) hv1) (zd_no hI.1.2 (by omega) (fun t _ => by omega)))
        rwa [(zL_p6 0 c (by omega)).1, (zL_p6 0 c (by omega)).2] at q
