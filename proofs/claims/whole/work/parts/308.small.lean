/-! an index below a number -/
def zh (n : Nat) (a : Int32) : Bool := decide (0 ≤ a.toInt ∧ a.toInt < (n : Int))
theorem zw_zh {n : Nat} (hn : n < 2 ^ 30) (a : Int32) : zw 0 a (nI n - 1) = zh n a := by
  have e : (nI n - 1 : Int32).toInt = (n : Int) - 1 := pk_sub_toInt (a := n) (b := 1) hn (by omega)
  unfold zw zh
  rw [decide_eq_decide, zn_le, zn_le, e]
  have e0 : (0 : Int32).toInt = 0 := rfl
  rw [e0]
  omega
theorem zh_t {n : Nat} {a : Int32} (hn : n < 2 ^ 31) (h : zh n a = true) : ∃ t, t < n ∧ a = nI t := by
  have q : 0 ≤ a.toInt ∧ a.toInt < (n : Int) := of_decide_eq_true h
  refine ⟨a.toInt.toNat, by omega, ?_⟩
  rw [zn_eq, nI_toInt (by omega)]
  omega
theorem zh_nI {n t : Nat} (ht : t < n) (hn : n < 2 ^ 31) : zh n (nI t) = true := by
  refine decide_eq_true ?_
  rw [nI_toInt (by omega)]
  omega
theorem zh_nIf {n t : Nat} (ht : n ≤ t) (hn : t < 2 ^ 31) : zh n (nI t) = false := by
  refine decide_eq_false ?_
  rw [nI_toInt (by omega)]
  omega
theorem zI_1 {X : IX} (hI : zI_INV X) : X 96 1 = nI (zN (X 96) 1) ∧ zN (X 96) 1 ≤ 10 := hI.1.2.2.1.n (by omega)
theorem zI_2 {X : IX} (hI : zI_INV X) : X 96 2 = nI (zN (X 96) 2) ∧ zN (X 96) 2 ≤ 12 := hI.1.2.2.2.1.n (by omega)
theorem ze_isThrower {X : IX} {n : Nat} (h : X 20 4 = nI n) (hn : n ≤ 10) (a : Int32) : fn_Post_isThrower X a = some (zt (zh n a)) := by
  unfold fn_Post_isThrower
  rw [h, ze_isWithin, zw_zh (by omega), zp_b1, zt_01, zp_gd]
theorem ze_isLetter {X : IX} {n : Nat} (h : X 20 5 = nI n) (hn : n ≤ 12) (a : Int32) : fn_Post_isLetter X a = some (zt (zh n a)) := by
  unfold fn_Post_isLetter
  rw [h, ze_isWithin, zw_zh (by omega), zp_b1, zt_01, zp_gd]
theorem ze_mThrower {X : IX} {n : Nat} (h : X 96 1 = nI n) (hn : n ≤ 10) (a : Int32) : fn_Mod_isThrower X a = some (zt (zh n a)) := by
  unfold fn_Mod_isThrower
  rw [h, ze_inN a 0 _ 0 (nI n - 1) rfl rfl, zw_zh (by omega), zp_b1, zt_01, zp_gd]
theorem ze_mLetter {X : IX} {n : Nat} (h : X 96 2 = nI n) (hn : n ≤ 12) (a : Int32) : fn_Mod_isLetter X a = some (zt (zh n a)) := by
  unfold fn_Mod_isLetter
  rw [h, ze_inN a 0 _ 0 (nI n - 1) rfl rfl, zw_zh (by omega), zp_b1, zt_01, zp_gd]
theorem ze_at (t f : Nat) : fn_Mod_at (nI t) (nI f) = nI (30 + 9 * t + f) := by
  unfold fn_Mod_at
  rw [show (9 : Int32) = nI 9 from rfl, show (30 : Int32) = nI 30 from rfl, pk_mul, nI_add, nI_add]
theorem ze_its {X : IX} {t f : Nat} (ht : t < 10) (hf : f < 9) : fn_Mod_its X (nI t) (nI f) = some (X 96 (30 + 9 * t + f)) := by
  unfold fn_Mod_its
  rw [zp_nx, ze_at, zn_ib (show 30 + 9 * t + f < 142 by omega) (by decide), zp_gd, zn_cl (by omega)]
/-- what a fact may become -/
def zc (a b : Int32) : Bool := if a = 0 then zw 0 b 6 else if a = 2 then zw 1 b 9 else if a = 3 then zw 1 b 12 else if a = 5 then zw 0 b 12 else if a = 4 ∨ a = 6 ∨ a = 7 then zw 0 b 1 else false
theorem zw_m1 (b : Int32) : zw 0 b (-1) = false := by
  refine decide_eq_false ?_
  rw [zn_le, zn_le]
  have e0 : (0 : Int32).toInt = 0 := rfl
  have e1 : (-1 : Int32).toInt = -1 := rfl
  rw [e0, e1]
  omega
theorem ze_canBecome (a b : Int32) : fn_Thr_canBecome a b = some (zt (zc a b)) := by
  unfold fn_Thr_canBecome fn_Thr_canBecome_L31 fn_Thr_canBecome_L32
  rw [ze_isWithin, zp_b1]
  cases h : zw 0 a 8 with
  | false =>
    have hc : zc a b = false := by
      have q := zw_f h
      have n0 : ∀ k : Nat, k ≤ 8 → a ≠ nI k := by
        intro k hk e
        apply q
        rw [e]
        exact ⟨zn_0le (by omega), (nI_leI (a := k) (b := 8) (by omega) (by omega)).mpr hk⟩
      unfold zc
      rw [if_neg (show a ≠ 0 from n0 0 (by omega)), if_neg (show a ≠ 2 from n0 2 (by omega)), if_neg (show a ≠ 3 from n0 3 (by omega)), if_neg (show a ≠ 5 from n0 5 (by omega)), if_neg]
      rintro (e | e | e)
      · exact n0 4 (by omega) e
      · exact n0 6 (by omega) e
      · exact n0 7 (by omega) e
    rw [hc]
    rfl
  | true =>
    obtain ⟨f, hf, rfl⟩ := zw_n (m := 8) (by decide) h
    rw [zt_t, if_neg (by decide), zn_ib (show f < 9 by omega) (by decide), zp_gd, zp_gd, ze_isWithin, zp_b1, zn_cl (by omega)]
    rcases (show f = 0 ∨ f = 1 ∨ f = 2 ∨ f = 3 ∨ f = 4 ∨ f = 5 ∨ f = 6 ∨ f = 7 ∨ f = 8 by omega) with rfl | rfl | rfl | rfl | rfl | rfl | rfl | rfl | rfl
    · show (if zt (zw 0 b 6) = 0 then _ else _) = some (zt (zw 0 b 6))
      cases zw 0 b 6 <;> rfl
    · show (if zt (zw 0 b (-1)) = 0 then _ else _) = some (zt false)
      rw [zw_m1]; rfl
    · show (if zt (zw 1 b 9) = 0 then _ else _) = some (zt (zw 1 b 9))
      cases zw 1 b 9 <;> rfl
    · show (if zt (zw 1 b 12) = 0 then _ else _) = some (zt (zw 1 b 12))
      cases zw 1 b 12 <;> rfl
    · show (if zt (zw 0 b 1) = 0 then _ else _) = some (zt (zw 0 b 1))
      cases zw 0 b 1 <;> rfl
    · show (if zt (zw 0 b 12) = 0 then _ else _) = some (zt (zw 0 b 12))
      cases zw 0 b 12 <;> rfl
    · show (if zt (zw 0 b 1) = 0 then _ else _) = some (zt (zw 0 b 1))
      cases zw 0 b 1 <;> rfl
    · show (if zt (zw 0 b 1) = 0 then _ else _) = some (zt (zw 0 b 1))
      cases zw 0 b 1 <;> rfl
    · show (if zt (zw 0 b (-1)) = 0 then _ else _) = some (zt false)
      rw [zw_m1]; rfl
theorem ze_isPart (a b : Int32) : fn_Mod_isPart a b = some (zt (zc a b)) := by
  unfold fn_Mod_isPart fn_Mod_isPart_L80 fn_Mod_isPart_L97 fn_Mod_isPart_L111 fn_Mod_isPart_L112 zc
  simp only [ze_inN b 0 6 0 6 rfl rfl, ze_inN b 1 9 1 9 rfl rfl, ze_inN b 1 12 1 12 rfl rfl, ze_inN b 0 12 0 12 rfl rfl, ze_inN b 0 1 0 1 rfl rfl, zp_b1, zt_01, zp_gd, zp_01_0, zp_01_1]
  by_cases h0 : a = 0
  · rw [if_pos h0, if_pos h0]
  rw [if_neg h0, if_neg h0]
  by_cases h1 : a = 1
  · subst h1
    rfl
  rw [if_neg h1]
  by_cases h2 : a = 2
  · rw [if_pos h2, if_pos h2]
  rw [if_neg h2, if_neg h2]
  by_cases h3 : a = 3
  · rw [if_pos h3, if_pos h3]
  rw [if_neg h3, if_neg h3]
  by_cases h4 : a = 4
  · subst h4
    cases h : zw 0 b 1 <;> rfl
  rw [if_neg h4]
  by_cases h5 : a = 5
  · rw [if_pos h5, if_pos h5]
  rw [if_neg h5, if_neg h5, if_neg h4]
  by_cases h6 : a = 6
  · subst h6
    cases h : zw 0 b 1 <;> rfl
  rw [if_neg h6]
  by_cases h7 : a = 7
  · subst h7
    cases h : zw 0 b 1 <;> rfl
  rw [if_neg h7, if_neg]
  · rfl
  · rintro (e | e | e)
    · exact h4 e
    · exact h6 e
    · exact h7 e
