theorem zi_bnd (a : Int32) : -2147483648 ≤ a.toInt ∧ a.toInt < 2147483648 := ⟨Int32.le_toInt a, Int32.toInt_lt a⟩
theorem zi_sub {N : Nat} {a : Int32} (hN : N ≤ 1000) (ha : 0 ≤ a.toInt) : (nI N - a).toInt = (N : Int) - a.toInt := by
  have := zi_bnd a
  rw [Int32.toInt_sub, nI_toInt (by omega), Int.bmod_eq_of_le (by omega) (by omega)]
theorem zi_add64 (a b : Int32) : (a.toInt64 + b.toInt64).toInt = a.toInt + b.toInt := by
  have := zi_bnd a
  have := zi_bnd b
  rw [Int64.toInt_add, Int32.toInt_toInt64, Int32.toInt_toInt64, Int.bmod_eq_of_le (by omega) (by omega)]
def zhr (N : Nat) (a b : Int32) : Bool := decide (0 ≤ a.toInt ∧ 0 ≤ b.toInt ∧ a.toInt + b.toInt ≤ N)
theorem ze_hasRow {X : IX} {r N : Nat} (h : X r 2 = nI N) (hN : N ≤ 40) (a b : Int32) : fn_Sheet_hasRow X r a b = some (zt (zhr N a b)) := by
  unfold fn_Sheet_hasRow fn_Sheet_hasRow_L26 fn_Sheet_hasRow_L27 zhr
  have e0 : (0 : Int32).toInt = 0 := rfl
  by_cases h1 : a < 0
  · rw [if_pos h1, decide_eq_false]
    · rfl
    · rw [zn_lt, e0] at h1; omega
  rw [if_neg h1]
  by_cases h2 : b < 0
  · rw [if_pos h2, decide_eq_false]
    · rfl
    · rw [zn_lt, e0] at h2; omega
  rw [if_neg h2]
  have e3 : (0 < lg_cmp (a.toInt64 + b.toInt64) ((X r 2).toInt64)) ↔ (N : Int) < a.toInt + b.toInt := by
    rw [zm_cmp_gt, Int64.lt_iff_toInt_lt, zi_add64, h, Int32.toInt_toInt64, nI_toInt (by omega)]
  by_cases h3 : (N : Int) < a.toInt + b.toInt
  · rw [if_pos (e3.mpr h3), decide_eq_false (by omega)]
    rfl
  · rw [if_neg (fun q => h3 (e3.mp q)), decide_eq_true]
    · rfl
    · rw [zn_lt, e0] at h1 h2; omega
theorem zl_copy2 {q t m : Nat} (hq : q < 4) (htm : t + m ≤ 40) : ∀ (d i n : Nat) (X : IX), i + d = m → d < n → ∃ X', fn_Mod_copy_L158 n (nI q) (nI t) (nI m) (nI i) X = some (nI m, X') ∧ (∀ j, i ≤ j → j < m → X' 107 (40 * q + t + j) = X 108 j) ∧ (∀ k, (k < 40 * q + t + i ∨ 40 * q + t + m ≤ k) → X' 107 k = X 107 k) ∧ ∀ a, a ≠ 107 → X' a = X a := by
  intro d
  induction d with
  | zero =>
    intro i n X hi hn
    obtain ⟨k, rfl⟩ : ∃ k, n = k + 1 := ⟨n - 1, by omega⟩
    obtain rfl : i = m := by omega
    refine ⟨X, ?_, fun j h1 h2 => absurd h2 (by omega), fun _ _ => rfl, fun _ _ => rfl⟩
    show fn_Mod_copy_B158 _ (nI q) (nI t) (nI i) (nI i) X = _
    unfold fn_Mod_copy_B158
    rw [if_pos ((nI_leI (by omega) (by omega)).mpr (Nat.le_refl _))]
  | succ d ih =>
    intro i n X hi hn
    obtain ⟨k, rfl⟩ : ∃ k, n = k + 1 := ⟨n - 1, by omega⟩
    have hlt : ¬ nI m ≤ nI i := nI_ge (a := i) (b := m) (by omega) (by omega)
    have e40 : (((40 : Int32) * nI q) + nI t) + nI i = nI (40 * q + t + i) := by rw [show (40 : Int32) = nI 40 from rfl, pk_mul, nI_add, nI_add]
    obtain ⟨X', e, p1, p2, p3⟩ := ih (i + 1) k (zu_st X 107 (40 * q + t + i) (X 108 i)) (by omega) (by omega)
    refine ⟨X', ?_, ?_, ?_, ?_⟩
    · show fn_Mod_copy_B158 (fn_Mod_copy_L158 k) (nI q) (nI t) (nI m) (nI i) X = _
      unfold fn_Mod_copy_B158
      simp only [if_neg hlt, zn_ib (show i < 40 by omega) (by decide), e40, zn_ib (show 40 * q + t + i < 160 by omega) (by decide), zp_gd, zn_cl (show i < 2 ^ 31 by omega), zn_cl (show 40 * q + t + i < 2 ^ 31 by omega), zp_nx, nI_1]
      exact e
    · intro j h1 h2
      by_cases w : j = i
      · subst w
        rw [p2 _ (by omega), zs_st, if_pos ⟨rfl, rfl⟩]
      · rw [p1 j (by omega) h2, zs_other _ _ _ (by decide)]
    · intro w h1
      rw [p2 w (by omega), zs_st, if_neg (by omega)]
    · intro a ha
      rw [p3 a ha, zs_other _ _ _ ha]
theorem zl_copy1 {p b q t m : Nat} (hp : p < 4) (hbm : b + m ≤ 40) (hq : q < 4) (htm : t + m ≤ 40) : ∀ (d i n : Nat) (X : IX), i + d = m → d < n → ∃ X', fn_Mod_copy_L121 n (nI p) (nI b) (nI q) (nI t) (nI m) (nI i) X = some (nI m, X') ∧ (∀ j, i ≤ j → j < m → X' 107 (40 * q + t + j) = X 107 (40 * p + b + j)) ∧ (∀ j, j < i → X' 107 (40 * q + t + j) = X 108 j) ∧ (∀ k, (k < 40 * q + t ∨ 40 * q + t + m ≤ k) → X' 107 k = X 107 k) ∧ ∀ a, a ≠ 107 → a ≠ 108 → X' a = X a := by
  intro d
  induction d with
  | zero =>
    intro i n X hi hn
    obtain ⟨k, rfl⟩ : ∃ k, n = k + 1 := ⟨n - 1, by omega⟩
    obtain rfl : i = m := by omega
    obtain ⟨X', e, p1, p2, p3⟩ := zl_copy2 (q := q) (t := t) (m := i) hq htm i 0 400 X (by omega) (by omega)
    refine ⟨X', ?_, fun j h1 h2 => absurd h2 (by omega), fun j hj => p1 j (by omega) hj, fun k hk => p2 k (by omega), fun a ha _ => p3 a ha⟩
    show fn_Mod_copy_B121 _ (nI p) (nI b) (nI q) (nI t) (nI i) (nI i) X = _
    unfold fn_Mod_copy_B121
    rw [if_pos ((nI_leI (by omega) (by omega)).mpr (Nat.le_refl _))]
    exact e
  | succ d ih =>
    intro i n X hi hn
    obtain ⟨k, rfl⟩ : ∃ k, n = k + 1 := ⟨n - 1, by omega⟩
    have hlt : ¬ nI m ≤ nI i := nI_ge (a := i) (b := m) (by omega) (by omega)
    have e40 : (((40 : Int32) * nI p) + nI b) + nI i = nI (40 * p + b + i) := by rw [show (40 : Int32) = nI 40 from rfl, pk_mul, nI_add, nI_add]
    obtain ⟨X', e, p1, p1b, p2, p3⟩ := ih (i + 1) k (zu_st X 108 i (X 107 (40 * p + b + i))) (by omega) (by omega)
    refine ⟨X', ?_, ?_, ?_, ?_, ?_⟩
    · show fn_Mod_copy_B121 (fn_Mod_copy_L121 k) (nI p) (nI b) (nI q) (nI t) (nI m) (nI i) X = _
      unfold fn_Mod_copy_B121
      simp only [if_neg hlt, zn_ib (show i < 40 by omega) (by decide), e40, zn_ib (show 40 * p + b + i < 160 by omega) (by decide), zp_gd, zn_cl (show i < 2 ^ 31 by omega), zn_cl (show 40 * p + b + i < 2 ^ 31 by omega), zp_nx, nI_1]
      exact e
    · intro j h1 h2
      by_cases w : j = i
      · subst w
        rw [p1b j (by omega), zs_st, if_pos ⟨rfl, rfl⟩]
      · rw [p1 j (by omega) h2, zs_other _ _ _ (by decide)]
    · intro j h1
      rw [p1b j (by omega), zs_st, if_neg (by omega)]
    · intro w h1
      rw [p2 w h1, zs_other _ _ _ (by decide)]
    · intro a ha ha2
      rw [p3 a ha ha2, zs_other _ _ _ ha2]
theorem st_copy {X : IX} {Y : LX} (hI : zI_INV X) (a1 : Int32) (a2 : Int32) (a3 : Int32) (a4 : Int32) (a5 : Int32) : ∃ (v : Int32) (X1 : IX) (X2 : IX), fn_Post_copy a1 a2 a3 a4 a5 X = some (v, X1) ∧ fn_Mod_copy a1 a2 a3 a4 a5 X1 = some (v, X2) ∧ zI_INV X2 := by
  obtain ⟨X1, X2, e1, e2, e3, e4⟩ := zI_both2 hI (f := -1000001) 0 (by decide) (by decide)
  obtain ⟨X1s, X2s, s1, s2, s3, s4⟩ := zI_both2 hI (f := -1000006) 5 (by decide) (by decide)
  obtain ⟨X1k, X2k, k1, k2, k3, k4⟩ := zI_both2 hI (f := -1000003) 2 (by decide) (by decide)
  have n10 : ((1 : Int32) = 0) = False := by decide
  cases hp : zw 0 a1 3 with
  | false =>
    refine ⟨-1000001, X1, X2, ?_, ?_, e3⟩
    · simp only [fn_Post_copy, fn_Post_copy_L14, ze_isSheet, hp, zp_b1, zp_b2, zp_nx, zt_f, zt_t, e1, ↓reduceIte]
      try rfl
    · simp only [fn_Mod_copy, fn_Mod_copy_L14, ze_mOne, hp, zp_b1, zp_b2, zp_nx, zt_f, zt_t, e2, ↓reduceIte]
      try rfl
  | true =>
  cases hq : zw 0 a3 3 with
  | false =>
    refine ⟨-1000001, X1, X2, ?_, ?_, e3⟩
    · simp only [fn_Post_copy, fn_Post_copy_L14, ze_isSheet, hp, hq, zp_b1, zp_b2, zt_f, zt_t, e1, n10, ↓reduceIte]
    · simp only [fn_Mod_copy, fn_Mod_copy_L14, ze_mOne, hp, hq, zp_b1, zp_b2, zt_f, zt_t, e2, n10, ↓reduceIte]
  | true =>
    obtain ⟨p, hp1, rfl⟩ := zw_n (m := 3) (by decide) hp
    obtain ⟨q, hq1, rfl⟩ := zw_n (m := 3) (by decide) hq
    obtain ⟨f1, f2, f3, f4, f5⟩ := hI.2.2.2.2 p (by omega)
    obtain ⟨g1, g2, g3, g4, g5⟩ := hI.2.2.2.2 q (by omega)
    by_cases zp : X (12 + p) 1 = 0
    · refine ⟨-1000006, X1s, X2s, ?_, ?_, s3⟩
      · simp only [fn_Post_copy, fn_Post_copy_L45, ze_isSheet, hp, hq, zp_b1, zp_b2, zt_t, s1, n10, ↓reduceIte, zn_ib (show p < 4 by omega) (by decide), zn_ib (show q < 4 by omega) (by decide), zp_gd, zn_cl (show p < 2 ^ 31 by omega), zn_cl (show q < 2 ^ 31 by omega), ze_missing, decide_eq_true zp]
      · have z2 : X1s 105 p = 0 := by rw [s4 105 (by decide), f1, zp]
        simp only [fn_Mod_copy, fn_Mod_copy_L39, ze_mOne, hp, hq, zp_b1, zp_b2, zt_t, s2, n10, ↓reduceIte, zn_ib (show p < 4 by omega) (by decide), zp_gd, zn_cl (show p < 2 ^ 31 by omega), if_pos z2]
    by_cases zq : X (12 + q) 1 = 0
    · refine ⟨-1000006, X1s, X2s, ?_, ?_, s3⟩
      · simp only [fn_Post_copy, fn_Post_copy_L45, ze_isSheet, hp, hq, zp_b1, zp_b2, zt_t, zt_f, s1, n10, ↓reduceIte, zn_ib (show p < 4 by omega) (by decide), zn_ib (show q < 4 by omega) (by decide), zp_gd, zn_cl (show p < 2 ^ 31 by omega), zn_cl (show q < 2 ^ 31 by omega), ze_missing, decide_eq_false zp, decide_eq_true zq]
      · have z1 : ¬ X1s 105 p = 0 := by rw [s4 105 (by decide), f1]; exact zp
        have z2 : X1s 105 q = 0 := by rw [s4 105 (by decide), g1, zq]
        simp only [fn_Mod_copy, fn_Mod_copy_L39, ze_mOne, hp, hq, zp_b1, zp_b2, zt_t, s2, n10, ↓reduceIte, zn_ib (show p < 4 by omega) (by decide), zn_ib (show q < 4 by omega) (by decide), zp_gd, zn_cl (show p < 2 ^ 31 by omega), zn_cl (show q < 2 ^ 31 by omega), if_neg z1, if_pos z2]
    by_cases hb : X (12 + p) 1 = X (12 + q) 1
    · obtain ⟨N, hN, eN⟩ := f4
      obtain ⟨M, hM, eM⟩ := g4
      have e0 : (0 : Int32).toInt = 0 := rfl
      have modF : ∀ (h : ¬ (zhr N a2 a5 = true ∧ zhr M a4 a5 = true)), fn_Mod_copy (nI p) a2 (nI q) a4 a5 X1 = some (-1000001, X2) := by
        intro h
        have z1 : ¬ X1 105 p = 0 := by rw [e4 105 (by decide), f1]; exact zp
        have z2 : ¬ X1 105 q = 0 := by rw [e4 105 (by decide), g1]; exact zq
        have z3 : X1 105 p = X1 105 q := by rw [e4 105 (by decide), f1, g1, hb]
        have m1 : X1 106 p = nI N := by rw [e4 106 (by decide), f2, eN]
        have m2 : X1 106 q = nI M := by rw [e4 106 (by decide), g2, eM]
        simp only [fn_Mod_copy, fn_Mod_copy_L111, ze_mOne, hp, hq, zp_b1, zp_b2, zt_t, e2, n10, ↓reduceIte, zn_ib (show p < 4 by omega) (by decide), zn_ib (show q < 4 by omega) (by decide), zp_gd, zn_cl (show p < 2 ^ 31 by omega), zn_cl (show q < 2 ^ 31 by omega), if_neg z1, if_neg z2, if_pos z3, m1, m2]
        by_cases c1 : a2 < 0
        · rw [if_pos c1]
        rw [if_neg c1]
        by_cases c2 : a4 < 0
        · rw [if_pos c2]
        rw [if_neg c2]
        by_cases c3 : a5 < 0
        · rw [if_pos c3]
        rw [if_neg c3]
        rw [zn_lt, e0] at c1 c2 c3
        by_cases c4 : nI N - a2 < a5
        · rw [if_pos c4]
        rw [if_neg c4]
        rw [if_neg]
        intro c5
        rw [zn_lt, zi_sub (by omega) (by omega)] at c4
        rw [zn_le, zi_sub (by omega) (by omega)] at c5
        exact h ⟨decide_eq_true (by omega), decide_eq_true (by omega)⟩
      cases r1 : zhr N a2 a5 with
      | false =>
        refine ⟨-1000001, X1, X2, ?_, modF (by rw [r1]; simp), e3⟩
        simp only [fn_Post_copy, fn_Post_copy_L111, ze_isSheet, hp, hq, zp_b1, zp_b2, zt_t, zt_f, e1, n10, ↓reduceIte, zn_ib (show p < 4 by omega) (by decide), zn_ib (show q < 4 by omega) (by decide), zp_gd, zn_cl (show p < 2 ^ 31 by omega), zn_cl (show q < 2 ^ 31 by omega), ze_missing, decide_eq_false zp, decide_eq_false zq, if_pos hb, ze_hasRow eN hN, r1]
      | true =>
      cases r2 : zhr M a4 a5 with
      | false =>
        refine ⟨-1000001, X1, X2, ?_, modF (by rw [r2]; simp), e3⟩
        simp only [fn_Post_copy, fn_Post_copy_L111, ze_isSheet, hp, hq, zp_b1, zp_b2, zt_t, zt_f, e1, n10, ↓reduceIte, zn_ib (show p < 4 by omega) (by decide), zn_ib (show q < 4 by omega) (by decide), zp_gd, zn_cl (show p < 2 ^ 31 by omega), zn_cl (show q < 2 ^ 31 by omega), ze_missing, decide_eq_false zp, decide_eq_false zq, if_pos hb, ze_hasRow eN hN, ze_hasRow eM hM, r1, r2]
      | true =>
        have v1 : 0 ≤ a2.toInt ∧ 0 ≤ a5.toInt ∧ a2.toInt + a5.toInt ≤ N := of_decide_eq_true r1
        have v2 : 0 ≤ a4.toInt ∧ 0 ≤ a5.toInt ∧ a4.toInt + a5.toInt ≤ M := of_decide_eq_true r2
        have toN : ∀ a : Int32, 0 ≤ a.toInt → a.toInt ≤ 40 → ∃ k, k ≤ 40 ∧ a = nI k ∧ (k : Int) = a.toInt := by
          intro a h1 h2
          refine ⟨a.toInt.toNat, by omega, ?_, by omega⟩
          rw [zn_eq, nI_toInt (by omega)]
          omega
        obtain ⟨b, hb40, eb, ib⟩ := toN a2 v1.1 (by omega)
        obtain ⟨t, ht40, et, it⟩ := toN a4 v2.1 (by omega)
        obtain ⟨m, hm40, em, im⟩ := toN a5 v1.2.1 (by omega)
        obtain ⟨Xg, eg, pg, -, pg2, qg⟩ := zl_copy1 (p := p) (b := b) (q := q) (t := t) (m := m) (by omega) (by omega) (by omega) (by omega) m 0 400 (zu_up X (12 + q + 4) (va_cpy (X (12 + p + 4)) (X (12 + q + 4)) b t m)) (by omega) (by omega)
        refine ⟨a5, zu_up X (12 + q + 4) (va_cpy (X (12 + p + 4)) (X (12 + q + 4)) b t m), Xg, ?_, ?_, ?_⟩
        · have gc : zu_cp a2 a4 a5 40 40 = true := by
            refine decide_eq_true ⟨?_, ?_, ?_, ?_, ?_⟩
            · rw [zn_lt, e0]; omega
            · rw [zn_lt, e0]; omega
            · rw [zn_lt, e0]; omega
            · rw [eb, em, nI_clamp (by omega), nI_clamp (by omega)]; omega
            · rw [et, em, nI_clamp (by omega), nI_clamp (by omega)]; omega
          simp only [fn_Post_copy, ze_isSheet, hp, hq, zp_b1, zp_nx, zt_t, zt_f, n10, ↓reduceIte, zn_ib (show p < 4 by omega) (by decide), zn_ib (show q < 4 by omega) (by decide), zp_gd, zn_cl (show p < 2 ^ 31 by omega), zn_cl (show q < 2 ^ 31 by omega), ze_missing, decide_eq_false zp, decide_eq_false zq, if_pos hb, ze_hasRow eN hN, ze_hasRow eM hM, r1, r2, gc]
          rw [eb, et, em, nI_clamp (by omega), nI_clamp (by omega), nI_clamp (by omega)]
        · have o : ∀ a, a ≠ 12 + q + 4 → zu_up X (12 + q + 4) (va_cpy (X (12 + p + 4)) (X (12 + q + 4)) b t m) a = X a := fun a ha => zu_up_n ha
          have z1 : ¬ zu_up X (12 + q + 4) (va_cpy (X (12 + p + 4)) (X (12 + q + 4)) b t m) 105 p = 0 := by rw [o 105 (by omega), f1]; exact zp
          have z2 : ¬ zu_up X (12 + q + 4) (va_cpy (X (12 + p + 4)) (X (12 + q + 4)) b t m) 105 q = 0 := by rw [o 105 (by omega), g1]; exact zq
          have z3 : zu_up X (12 + q + 4) (va_cpy (X (12 + p + 4)) (X (12 + q + 4)) b t m) 105 p = zu_up X (12 + q + 4) (va_cpy (X (12 + p + 4)) (X (12 + q + 4)) b t m) 105 q := by rw [o 105 (by omega), f1, g1, hb]
          have m1 : zu_up X (12 + q + 4) (va_cpy (X (12 + p + 4)) (X (12 + q + 4)) b t m) 106 p = nI N := by rw [o 106 (by omega), f2, eN]
          have m2 : zu_up X (12 + q + 4) (va_cpy (X (12 + p + 4)) (X (12 + q + 4)) b t m) 106 q = nI M := by rw [o 106 (by omega), g2, eM]
          have c1 : ¬ a2 < 0 := by rw [zn_lt, e0]; omega
          have c2 : ¬ a4 < 0 := by rw [zn_lt, e0]; omega
          have c3 : ¬ a5 < 0 := by rw [zn_lt, e0]; omega
          have c4 : ¬ nI N - a2 < a5 := by rw [zn_lt, zi_sub (by omega) (by omega)]; omega
          have c5 : a5 ≤ nI M - a4 := by rw [zn_le, zi_sub (by omega) (by omega)]; omega
          simp only [fn_Mod_copy, ze_mOne, hp, hq, zp_b1, zt_t, n10, ↓reduceIte, zn_ib (show p < 4 by omega) (by decide), zn_ib (show q < 4 by omega) (by decide), zp_gd, zn_cl (show p < 2 ^ 31 by omega), zn_cl (show q < 2 ^ 31 by omega), if_neg z1, if_neg z2, if_pos z3, m1, m2, if_neg c1, if_neg c2, if_neg c3, if_neg c4, if_pos c5]
          rw [eb, et, em]
          exact eg
        · obtain ⟨h1, h2, h3, h4, h5⟩ := hI
          have row : ∀ r, r ≠ 107 → r ≠ 108 → r ≠ 12 + q + 4 → Xg r = X r := fun r b1 b2 b3 => by rw [qg r b1 b2, zu_up_n b3]
          have keep : ∀ (P : Nat → Nat → Bool), (∀ r j, P r j = true → r ≠ 107 ∧ r ≠ 108 ∧ r ≠ 12 + q + 4) → zA P X Xg := fun P hP r j hr => by
            obtain ⟨b1, b2, b3⟩ := hP r j hr
            rw [row r b1 b2 b3]
          refine ⟨h1.ag (keep _ ?_), h2.ag (keep _ ?_), h3.ag (keep _ ?_), h4.ag (keep _ ?_), ?_⟩
          · intro r j hr
            unfold zA_1 at hr
            simp only [Bool.or_eq_true, Bool.and_eq_true, beq_iff_eq, decide_eq_true_eq] at hr
            omega
          · intro r j hr
            unfold zA_2 at hr
            simp only [Bool.or_eq_true, Bool.and_eq_true, beq_iff_eq, decide_eq_true_eq] at hr
            omega
          · intro r j hr
            unfold zA_3 at hr
            simp only [Bool.or_eq_true, beq_iff_eq] at hr
            omega
          · intro r j hr
            unfold zA_4 at hr
            simp only [Bool.or_eq_true, Bool.and_eq_true, beq_iff_eq] at hr
            omega
          · intro w hw
            obtain ⟨d1, d2, d3, d4, d5⟩ := h5 w hw
            rw [row 105 (by omega) (by omega) (by omega), row 106 (by omega) (by omega) (by omega), row (12 + w) (by omega) (by omega) (by omega)]
            refine ⟨d1, d2, d3, d4, fun i hi => ?_⟩
            have o107 : zu_up X (12 + q + 4) (va_cpy (X (12 + p + 4)) (X (12 + q + 4)) b t m) 107 = X 107 := zu_up_n (by omega)
            by_cases e : w = q
            · subst e
              rw [show 16 + w = 12 + w + 4 by omega, qg (12 + w + 4) (by omega) (by omega), zu_up_s]
              by_cases hin : t ≤ i ∧ i < t + m
              · obtain ⟨j, rfl⟩ : ∃ j, i = t + j := ⟨i - t, by omega⟩
                rw [pk_cpy_in (by omega) (by omega), show 40 * w + (t + j) = 40 * w + t + j by omega, pg j (by omega) (by omega), o107, show 40 * p + b + j = 40 * p + (b + j) by omega, f5 (b + j) (by omega), show 16 + p = 12 + p + 4 by omega, show b + (t + j - t) = b + j by omega]
              · rw [pk_cpy_out (by omega), pg2 _ (by omega), o107, show 12 + w + 4 = 16 + w by omega]
                exact d5 i hi
            · rw [row (16 + w) (by omega) (by omega) (by omega), pg2 _ (by omega), o107]
              exact d5 i hi
    · refine ⟨-1000003, X1k, X2k, ?_, ?_, k3⟩
      · simp only [fn_Post_copy, ze_isSheet, hp, hq, zp_b1, zp_b2, zt_t, zt_f, k1, n10, ↓reduceIte, zn_ib (show p < 4 by omega) (by decide), zn_ib (show q < 4 by omega) (by decide), zp_gd, zn_cl (show p < 2 ^ 31 by omega), zn_cl (show q < 2 ^ 31 by omega), ze_missing, decide_eq_false zp, decide_eq_false zq, if_neg hb]
      · have z1 : ¬ X1k 105 p = 0 := by rw [k4 105 (by decide), f1]; exact zp
        have z2 : ¬ X1k 105 q = 0 := by rw [k4 105 (by decide), g1]; exact zq
        have z3 : ¬ X1k 105 p = X1k 105 q := by rw [k4 105 (by decide), f1, g1]; exact hb
        simp only [fn_Mod_copy, ze_mOne, hp, hq, zp_b1, zp_b2, zt_t, k2, n10, ↓reduceIte, zn_ib (show p < 4 by omega) (by decide), zn_ib (show q < 4 by omega) (by decide), zp_gd, zn_cl (show p < 2 ^ 31 by omega), zn_cl (show q < 2 ^ 31 by omega), if_neg z1, if_neg z2, if_neg z3]
