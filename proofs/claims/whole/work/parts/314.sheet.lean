/-! sheets -/
theorem ze_fill16_L {r : Nat} (a : Int32) : ∀ (d i n : Nat) (X : IX), i + d = 40 → d < n → ∃ X', fn_Arr_fill_16_L5 n r a (nI i) 40 X = some X' ∧ (∀ j, i ≤ j → j < 40 → X' r j = a) ∧ (∀ j, j < i → X' r j = X r j) ∧ ∀ b, b ≠ r → X' b = X b := by
  intro d
  induction d with
  | zero =>
    intro i n X hi hn
    obtain ⟨m, rfl⟩ : ∃ m, n = m + 1 := ⟨n - 1, by omega⟩
    obtain rfl : i = 40 := by omega
    refine ⟨X, ?_, fun j h1 h2 => absurd h2 (by omega), fun _ _ => rfl, fun _ _ => rfl⟩
    show fn_Arr_fill_16_B5 _ r a (nI 40) 40 X = _
    unfold fn_Arr_fill_16_B5
    rw [if_pos (by decide)]
  | succ d ih =>
    intro i n X hi hn
    obtain ⟨m, rfl⟩ : ∃ m, n = m + 1 := ⟨n - 1, by omega⟩
    obtain ⟨X', e, p1, p2, p3⟩ := ih (i + 1) m (zu_st X r i a) (by omega) (by omega)
    refine ⟨X', ?_, ?_, ?_, ?_⟩
    · show fn_Arr_fill_16_B5 (fn_Arr_fill_16_L5 m) r a (nI i) 40 X = _
      unfold fn_Arr_fill_16_B5
      rw [if_neg (show ¬ (40 : Int32) ≤ nI i from nI_ge (a := i) (b := 40) (by omega) (by omega))]
      simp only [zp_nx, zn_ib (show i < 40 by omega) (by decide), zp_gd, zn_cl (show i < 2 ^ 31 by omega), nI_1]
      exact e
    · intro j h1 h2
      by_cases q : j = i
      · subst q
        rw [p2 j (by omega), zs_st, if_pos ⟨rfl, rfl⟩]
      · exact p1 j (by omega) h2
    · intro j h1
      rw [p2 j (by omega), zs_st, if_neg (by omega)]
    · intro b hb
      rw [p3 b hb, zs_other _ _ _ hb]
theorem ze_fill16 (r : Nat) (a : Int32) (X : IX) : ∃ X', fn_Arr_fill_16 r a X = some X' ∧ (∀ j, j < 40 → X' r j = a) ∧ ∀ b, b ≠ r → X' b = X b := by
  obtain ⟨X', e, p1, p2, p3⟩ := ze_fill16_L (r := r) a 40 0 400 X (by omega) (by omega)
  exact ⟨X', e, fun j hj => p1 j (by omega) hj, p3⟩
theorem zl_sheet {q : Nat} (hq : q < 4) : ∀ (d i n : Nat) (X : IX), i + d = 40 → d < n → ∃ X', fn_Mod_sheet_L85 n (nI q) (nI i) X = some (X 106 q, X') ∧ (∀ j, i ≤ j → j < 40 → X' 107 (40 * q + j) = 0) ∧ (∀ k, (k < 40 * q + i ∨ 40 * q + 40 ≤ k) → X' 107 k = X 107 k) ∧ ∀ b, b ≠ 107 → X' b = X b := by
  intro d
  induction d with
  | zero =>
    intro i n X hi hn
    obtain ⟨m, rfl⟩ : ∃ m, n = m + 1 := ⟨n - 1, by omega⟩
    obtain rfl : i = 40 := by omega
    refine ⟨X, ?_, fun j h1 h2 => absurd h2 (by omega), fun _ _ => rfl, fun _ _ => rfl⟩
    show fn_Mod_sheet_B85 _ (nI q) (nI 40) X = _
    unfold fn_Mod_sheet_B85
    rw [if_pos (by decide), zn_ib hq (by decide), zp_gd, zn_cl (by omega)]
  | succ d ih =>
    intro i n X hi hn
    obtain ⟨m, rfl⟩ : ∃ m, n = m + 1 := ⟨n - 1, by omega⟩
    obtain ⟨X', e, p1, p2, p3⟩ := ih (i + 1) m (zu_st X 107 (40 * q + i) 0) (by omega) (by omega)
    have e40 : ((40 : Int32) * nI q) + nI i = nI (40 * q + i) := by rw [show (40 : Int32) = nI 40 from rfl, pk_mul, nI_add]
    refine ⟨X', ?_, ?_, ?_, ?_⟩
    · show fn_Mod_sheet_B85 (fn_Mod_sheet_L85 m) (nI q) (nI i) X = _
      unfold fn_Mod_sheet_B85
      rw [if_neg (show ¬ (40 : Int32) ≤ nI i from nI_ge (a := i) (b := 40) (by omega) (by omega))]
      simp only [zp_nx, e40, zn_ib (show 40 * q + i < 160 by omega) (by decide), zp_gd, zn_cl (show 40 * q + i < 2 ^ 31 by omega), nI_1]
      rw [zs_other X (r := 107) (a := 106) _ _ (by decide)] at e
      exact e
    · intro j h1 h2
      by_cases w : j = i
      · subst w
        rw [p2 _ (by omega), zs_st, if_pos ⟨rfl, rfl⟩]
      · exact p1 j (by omega) h2
    · intro k h1
      rw [p2 k (by omega), zs_st, if_neg (by omega)]
    · intro b hb
      rw [p3 b hb, zs_other _ _ _ hb]
def zwd (a : Int32) : Bool := decide (a = 0 ∨ a = 8 ∨ a = 16 ∨ a = 32)
theorem ze_isWidth (a : Int32) : fn_Sheet_isWidth a = some (zt (zwd a)) := by
  unfold fn_Sheet_isWidth fn_Sheet_isWidth_L22 fn_Sheet_isWidth_L27 zwd
  by_cases h0 : a = 0
  · rw [if_pos h0, decide_eq_true (Or.inl h0)]; rfl
  rw [if_neg h0]
  by_cases h1 : a = 8
  · rw [if_pos h1, decide_eq_true (Or.inr (Or.inl h1))]; rfl
  rw [if_neg h1]
  by_cases h2 : a = 16
  · rw [if_pos h2, decide_eq_true (Or.inr (Or.inr (Or.inl h2)))]; rfl
  rw [if_neg h2]
  by_cases h3 : a = 32
  · rw [if_pos h3, decide_eq_true (Or.inr (Or.inr (Or.inr h3)))]; rfl
  rw [if_neg h3, decide_eq_false (by rintro (q | q | q | q); exact h0 q; exact h1 q; exact h2 q; exact h3 q)]; rfl
theorem ze_mSheet (a1 a2 a3 : Int32) (X : IX) (h1 : zw 0 a1 3 = true) (h2 : zwd a2 = true) : fn_Mod_sheet a1 a2 a3 X = fn_Mod_sheet_L36 a1 a2 a3 X := by
  unfold fn_Mod_sheet
  rw [ze_mOne, h1, zt_t, zp_b1, if_neg (by decide)]
  rcases (of_decide_eq_true h2 : a2 = 0 ∨ a2 = 8 ∨ a2 = 16 ∨ a2 = 32) with e | e | e | e
  · rw [if_pos e]
  · rw [if_neg (by rw [e]; decide), if_pos e]
  · rw [if_neg (by rw [e]; decide), if_neg (by rw [e]; decide), if_pos e]
  · rw [if_neg (by rw [e]; decide), if_neg (by rw [e]; decide), if_neg (by rw [e]; decide), if_pos e]
theorem ze_mSheetF (a1 a2 a3 : Int32) (X : IX) (h1 : zw 0 a1 3 = true) (h2 : zwd a2 = false) : fn_Mod_sheet a1 a2 a3 X = fn_Mod_sheet_L29 X := by
  unfold fn_Mod_sheet
  have q := (of_decide_eq_false h2 : ¬ (a2 = 0 ∨ a2 = 8 ∨ a2 = 16 ∨ a2 = 32))
  rw [ze_mOne, h1, zt_t, zp_b1, if_neg (by decide), if_neg (fun e => q (Or.inl e)), if_neg (fun e => q (Or.inr (Or.inl e))), if_neg (fun e => q (Or.inr (Or.inr (Or.inl e)))), if_neg (fun e => q (Or.inr (Or.inr (Or.inr e))))]
theorem st_sheet {X : IX} {Y : LX} (hI : zI_INV X) (a1 : Int32) (a2 : Int32) (a3 : Int32) : ∃ (v : Int32) (X1 : IX) (X2 : IX), fn_Post_sheet a1 a2 a3 X = some (v, X1) ∧ fn_Mod_sheet a1 a2 a3 X1 = some (v, X2) ∧ zI_INV X2 := by
  obtain ⟨X1, X2, e1, e2, e3, e4⟩ := zI_both2 hI (f := -1000001) 0 (by decide) (by decide)
  obtain ⟨X1s, X2s, s1, s2, s3, s4⟩ := zI_both2 hI (f := -1000007) 6 (by decide) (by decide)
  cases hq : zw 0 a1 3 with
  | false =>
    refine ⟨-1000001, X1, X2, ?_, ?_, e3⟩
    · simp only [fn_Post_sheet, fn_Post_sheet_L14, ze_isSheet, hq, zp_b1, zp_b2, zp_nx, zt_f, zt_t, e1, ↓reduceIte]
      try rfl
    · simp only [fn_Mod_sheet, fn_Mod_sheet_L29, ze_mOne, hq, zp_b1, zp_b2, zp_nx, zt_f, zt_t, e2, ↓reduceIte]
      try rfl
  | true =>
    cases hw : zwd a2 with
    | false =>
      refine ⟨-1000001, X1, X2, ?_, ?_, e3⟩
      · simp only [fn_Post_sheet, fn_Post_sheet_L14, ze_isSheet, ze_isWidth, hq, hw, zp_b1, zp_b2, zp_nx, zt_f, zt_t, e1, ↓reduceIte]
        try rfl
      · rw [ze_mSheetF _ _ _ _ hq hw]
        simp only [fn_Mod_sheet_L29, e2, zp_b2]
    | true =>
      by_cases h0 : 0 ≤ a3
      · by_cases h40 : a3 ≤ 40
        · obtain ⟨q, hq1, rfl⟩ := zw_n (m := 3) (by decide) hq
          obtain ⟨k, hk, rfl⟩ := zn_nat 40 (by decide) h0 h40
          obtain ⟨v, ev⟩ : ∃ v : Int32, v = if a2 = 0 then 0 else nI k := ⟨_, rfl⟩
          have hv : zI_le v 40 := by
            rw [ev]
            by_cases z : a2 = 0
            · rw [if_pos z]; exact ⟨0, by omega, rfl⟩
            · rw [if_neg z]; exact ⟨k, hk, rfl⟩
          obtain ⟨Xf, ef, pf, qf⟩ := ze_fill16 (12 + q + 4) 0 (zu_st (zu_st X (12 + q) 1 a2) (12 + q) 2 v)
          obtain ⟨Xg, eg, pg, pg2, qg⟩ := zl_sheet (q := q) (by omega) 40 0 400 (zu_st (zu_st Xf 105 q a2) 106 q v) (by omega) (by omega)
          refine ⟨v, Xf, Xg, ?_, ?_, ?_⟩
          · have er : fn_Sheet_renew (12 + q) a2 (nI k) X = some Xf := by
              unfold fn_Sheet_renew fn_Sheet_renew_L15
              by_cases z : a2 = 0
              · rw [if_pos z] at ev
                subst ev
                simp only [zp_nx, if_pos z, ef, zp_b1]
              · rw [if_neg z] at ev
                subst ev
                simp only [zp_nx, if_neg z, ef, zp_b1]
            simp only [fn_Post_sheet, ze_isSheet, ze_isWidth, hq, hw, zp_b1, zt_t, if_pos h0, if_pos h40, zn_ib (show q < 4 by omega) (by decide), zp_gd, zn_cl (show q < 2 ^ 31 by omega), er, show ((1 : Int32) = 0) = False from by decide, ↓reduceIte]
            rw [qf (12 + q) (by omega), zs_st, if_pos ⟨rfl, rfl⟩]
          · rw [ze_mSheet _ _ _ _ hq hw]
            unfold fn_Mod_sheet_L36 fn_Mod_sheet_L81
            rw [if_pos h0, if_pos h40]
            rw [zs_st, if_pos ⟨rfl, rfl⟩] at eg
            rw [show nI 0 = (0 : Int32) from rfl] at eg
            by_cases z : a2 = 0
            · rw [if_pos z] at ev
              subst ev
              simp only [zp_nx, if_pos z, zn_ib (show q < 4 by omega) (by decide), zp_gd, zn_cl (show q < 2 ^ 31 by omega)]
              exact eg
            · rw [if_neg z] at ev
              subst ev
              simp only [zp_nx, if_neg z, zn_ib (show q < 4 by omega) (by decide), zp_gd, zn_cl (show q < 2 ^ 31 by omega)]
              exact eg
          · obtain ⟨h1, h2, h3, h4, h5⟩ := hI
            have row : ∀ r, r ≠ 107 → r ≠ 106 → r ≠ 105 → r ≠ 12 + q → r ≠ 12 + q + 4 → Xg r = X r := by
              intro r a b c d e
              rw [qg r a, zs_other _ _ _ b, zs_other _ _ _ c, qf r e, zs_other _ _ _ d, zs_other _ _ _ d]
            have keep : ∀ (P : Nat → Nat → Bool), (∀ r j, P r j = true → r ≠ 107 ∧ r ≠ 106 ∧ r ≠ 105 ∧ r ≠ 12 + q ∧ r ≠ 12 + q + 4) → zA P X Xg := fun P hP r j hr => by
              obtain ⟨b1, b2, b3, b4, b5⟩ := hP r j hr
              rw [row r b1 b2 b3 b4 b5]
            refine ⟨h1.ag (keep _ ?_), h2.ag (keep _ ?_), h3.ag (keep _ ?_), h4.ag (keep _ ?_), ?_⟩
            · intro r j hr
              unfold zA_1 at hr
              simp only [Bool.or_eq_true, Bool.and_eq_true, beq_iff_eq, decide_eq_true_eq] at hr
              omega
            · intro r j hr
              unfold zA_2 at hr
              simp only [Bool.or_eq_true, Bool.and_eq_true, beq_iff_eq, decide_eq_true_eq] at hr
              omega
            · intro r j hr
              unfold zA_3 at hr
              simp only [Bool.or_eq_true, beq_iff_eq] at hr
              omega
            · intro r j hr
              unfold zA_4 at hr
              simp only [Bool.or_eq_true, Bool.and_eq_true, beq_iff_eq] at hr
              omega
            · intro w hw2
              by_cases e : w = q
              · subst e
                have a12 : Xg (12 + w) = zu_st (zu_st X (12 + w) 1 a2) (12 + w) 2 v (12 + w) := by rw [qg _ (by omega), zs_other _ _ _ (by omega), zs_other _ _ _ (by omega), qf _ (by omega)]
                have c1 : Xg (12 + w) 1 = a2 := by rw [a12, zs_st, if_neg (by omega), zs_st, if_pos ⟨rfl, rfl⟩]
                have c2 : Xg (12 + w) 2 = v := by rw [a12, zs_st, if_pos ⟨rfl, rfl⟩]
                rw [c1, c2]
                refine ⟨?_, ?_, of_decide_eq_true hw, hv, fun i hi => ?_⟩
                · rw [qg 105 (by decide), zs_other _ _ _ (by decide), zs_st, if_pos ⟨rfl, rfl⟩]
                · rw [qg 106 (by decide), zs_st, if_pos ⟨rfl, rfl⟩]
                · rw [pg i (by omega) hi, qg _ (by omega), zs_other _ _ _ (by omega), zs_other _ _ _ (by omega), show 16 + w = 12 + w + 4 by omega, pf i hi]
              · obtain ⟨g1, g2, g3, g4, g5⟩ := h5 w hw2
                have r12 : Xg (12 + w) = X (12 + w) := row _ (by omega) (by omega) (by omega) (by omega) (by omega)
                have r16 : Xg (16 + w) = X (16 + w) := row _ (by omega) (by omega) (by omega) (by omega) (by omega)
                rw [r12, r16]
                refine ⟨?_, ?_, g3, g4, fun i hi => ?_⟩
                · rw [qg 105 (by decide), zs_other _ _ _ (by decide), zs_st, if_neg (by omega), qf 105 (by omega), zs_other _ _ _ (by omega), zs_other _ _ _ (by omega)]
                  exact g1
                · rw [qg 106 (by decide), zs_st, if_neg (by omega), zs_other _ _ _ (by decide), qf 106 (by omega), zs_other _ _ _ (by omega), zs_other _ _ _ (by omega)]
                  exact g2
                · rw [pg2 _ (by omega), zs_other _ _ _ (by decide), zs_other _ _ _ (by decide), qf 107 (by omega), zs_other _ _ _ (by omega), zs_other _ _ _ (by omega)]
                  exact g5 i hi
        · refine ⟨-1000001, X1, X2, ?_, ?_, e3⟩
          · simp only [fn_Post_sheet, ze_isSheet, ze_isWidth, hq, hw, zp_b1, zp_b2, zt_t, e1, if_pos h0, if_neg h40]
            rfl
          · rw [ze_mSheet _ _ _ _ hq hw]
            unfold fn_Mod_sheet_L36
            rw [if_pos h0, if_neg h40, e2, zp_b2]
      · refine ⟨-1000007, X1s, X2s, ?_, ?_, s3⟩
        · simp only [fn_Post_sheet, ze_isSheet, ze_isWidth, hq, hw, zp_b1, zp_b2, zt_t, s1, if_neg h0]
          rfl
        · rw [ze_mSheet _ _ _ _ hq hw]
          unfold fn_Mod_sheet_L36
          rw [if_neg h0, s2, zp_b2]
