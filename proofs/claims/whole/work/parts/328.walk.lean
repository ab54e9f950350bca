/-! the tape is fed -/
def zby (a : Int32) (d : Nat) : Int32 := (a >>> (((8 : Int32) * nI d) &&& 31)) &&& (255 : Int32)
theorem zby_le (a : Int32) (d : Nat) : zI_le (zby a d) 255 := by
  obtain ⟨j, hj, e⟩ := pk_andE (a >>> (((8 : Int32) * nI d) &&& 31)) (m := 255) 8 rfl
  exact ⟨j, by omega, e⟩
theorem zA_n4 {r j : Nat} (h : zA_1 r j = true ∨ zA_2 r j = true ∨ zA_3 r j = true ∨ zA_5 r j = true) : ¬ (r = 8 ∧ j = 1) ∧ r ≠ 9 ∧ ¬ (r = 95 ∧ j = 14) ∧ r ≠ 104 := by
  rcases h with h | h | h | h
  · unfold zA_1 at h
    simp only [Bool.or_eq_true, Bool.and_eq_true, beq_iff_eq, decide_eq_true_eq] at h
    omega
  · unfold zA_2 at h
    simp only [Bool.or_eq_true, Bool.and_eq_true, beq_iff_eq, decide_eq_true_eq] at h
    omega
  · unfold zA_3 at h
    simp only [Bool.or_eq_true, beq_iff_eq] at h
    omega
  · unfold zA_5 at h
    simp only [Bool.or_eq_true, Bool.and_eq_true, beq_iff_eq, decide_eq_true_eq] at h
    omega
theorem zl_feed_P (a : Int32) : ∀ (d n L : Nat) (X : IX), X 8 1 = nI L → L + d ≤ 120 → d < n → ∃ X', fn_Post_feed_L41 n a (nI d - 1) X = some (nI (L + d), X') ∧ X' 8 1 = nI (L + d) ∧ (∀ j, L ≤ j → j < L + d → X' 9 j = zby a (L + d - 1 - j)) ∧ (∀ j, j < L → X' 9 j = X 9 j) ∧ ∀ r j, ¬ (r = 8 ∧ j = 1) → r ≠ 9 → X' r j = X r j := by
  intro d
  induction d with
  | zero =>
    intro n L X hX hL hn
    obtain ⟨m, rfl⟩ : ∃ m, n = m + 1 := ⟨n - 1, by omega⟩
    refine ⟨X, ?_, hX, fun j h1 h2 => absurd h2 (by omega), fun _ _ => rfl, fun _ _ _ _ => rfl⟩
    show fn_Post_feed_B41 _ _ _ _ = _
    unfold fn_Post_feed_B41
    rw [if_pos (show nI 0 - 1 < (0 : Int32) by decide), hX]
    rfl
  | succ d ih =>
    intro n L X hX hL hn
    obtain ⟨m, rfl⟩ : ∃ m, n = m + 1 := ⟨n - 1, by omega⟩
    obtain ⟨A, hA⟩ : ∃ A : IX, A = zu_st X 9 L (zby a d) := ⟨_, rfl⟩
    obtain ⟨B, hB⟩ : ∃ B : IX, B = zu_st A 8 1 (nI (L + 1)) := ⟨_, rfl⟩
    have a1 : A 8 1 = nI L := by rw [hA, zs_other _ _ _ (by decide)]; exact hX
    have em : nI d + (-1 : Int32) = nI d - 1 := by rw [Int32.sub_eq_add_neg]
    have ey : (a >>> (((8 : Int32) * nI d) &&& 31)) &&& (255 : Int32) = zby a d := rfl
    obtain ⟨X', e, p1, p2, p3, p4⟩ := ih m (L + 1) B (by rw [hB, zs_st, if_pos ⟨rfl, rfl⟩]) (by omega) (by omega)
    refine ⟨X', ?_, by rw [p1]; congr 1; omega, ?_, ?_, ?_⟩
    · show fn_Post_feed_B41 (fn_Post_feed_L41 m) _ _ _ = _
      unfold fn_Post_feed_B41
      rw [nI_pred, if_neg (nI_pos (by omega)), hX, zn_ib (show L < 120 by omega) (by decide), zp_gd, zn_cl (by omega)]
      simp only [zp_nx, ey, ← hA, a1, nI_1, ← hB, em]
      rw [e]
      congr 3
      omega
    · intro j h1 h2
      by_cases q : j = L
      · subst q
        rw [p3 j (by omega), hB, zs_other _ _ _ (by decide), hA, zs_st, if_pos ⟨rfl, rfl⟩]
        congr 1
        omega
      · rw [p2 j (by omega) (by omega)]
        congr 1
        omega
    · intro j hj
      rw [p3 j (by omega), hB, zs_other _ _ _ (by decide), hA, zs_st, if_neg (by omega)]
    · intro r j h1 h2
      rw [p4 r j h1 h2, hB, zs_st, if_neg h1, hA, zs_other _ _ _ h2]
theorem zl_feed_M (a : Int32) : ∀ (d n L : Nat) (X : IX), X 95 14 = nI L → L + d ≤ 120 → d < n → ∃ X', fn_Mod_feed_L41 n a (nI d - 1) X = some (nI (L + d), X') ∧ X' 95 14 = nI (L + d) ∧ (∀ j, L ≤ j → j < L + d → X' 104 j = zby a (L + d - 1 - j)) ∧ (∀ j, j < L → X' 104 j = X 104 j) ∧ ∀ r j, ¬ (r = 95 ∧ j = 14) → r ≠ 104 → X' r j = X r j := by
  intro d
  induction d with
  | zero =>
    intro n L X hX hL hn
    obtain ⟨m, rfl⟩ : ∃ m, n = m + 1 := ⟨n - 1, by omega⟩
    refine ⟨X, ?_, hX, fun j h1 h2 => absurd h2 (by omega), fun _ _ => rfl, fun _ _ _ _ => rfl⟩
    show fn_Mod_feed_B41 _ _ _ _ = _
    unfold fn_Mod_feed_B41
    rw [if_pos (show nI 0 - 1 < (0 : Int32) by decide), hX]
    rfl
  | succ d ih =>
    intro n L X hX hL hn
    obtain ⟨m, rfl⟩ : ∃ m, n = m + 1 := ⟨n - 1, by omega⟩
    obtain ⟨A, hA⟩ : ∃ A : IX, A = zu_st X 104 L (zby a d) := ⟨_, rfl⟩
    obtain ⟨B, hB⟩ : ∃ B : IX, B = zu_st A 95 14 (nI (L + 1)) := ⟨_, rfl⟩
    have a1 : A 95 14 = nI L := by rw [hA, zs_other _ _ _ (by decide)]; exact hX
    have em : nI d + (-1 : Int32) = nI d - 1 := by rw [Int32.sub_eq_add_neg]
    have ey : (a >>> (((8 : Int32) * nI d) &&& 31)) &&& (255 : Int32) = zby a d := rfl
    obtain ⟨X', e, p1, p2, p3, p4⟩ := ih m (L + 1) B (by rw [hB, zs_st, if_pos ⟨rfl, rfl⟩]) (by omega) (by omega)
    refine ⟨X', ?_, by rw [p1]; congr 1; omega, ?_, ?_, ?_⟩
    · show fn_Mod_feed_B41 (fn_Mod_feed_L41 m) _ _ _ = _
      unfold fn_Mod_feed_B41
      rw [nI_pred, if_neg (nI_pos (by omega)), hX, zn_ib (show L < 120 by omega) (by decide), zp_gd, zn_cl (by omega)]
      simp only [zp_nx, ey, ← hA, a1, nI_1, ← hB, em]
      rw [e]
      congr 3
      omega
    · intro j h1 h2
      by_cases q : j = L
      · subst q
        rw [p3 j (by omega), hB, zs_other _ _ _ (by decide), hA, zs_st, if_pos ⟨rfl, rfl⟩]
        congr 1
        omega
      · rw [p2 j (by omega) (by omega)]
        congr 1
        omega
    · intro j hj
      rw [p3 j (by omega), hB, zs_other _ _ _ (by decide), hA, zs_st, if_neg (by omega)]
    · intro r j h1 h2
      rw [p4 r j h1 h2, hB, zs_st, if_neg h1, hA, zs_other _ _ _ h2]
theorem st_feed {X : IX} {Y : LX} (hI : zI_INV X) (a1 : Int32) (a2 : Int32) : ∃ (v : Int32) (X1 : IX) (X2 : IX), fn_Post_feed a1 a2 X = some (v, X1) ∧ fn_Mod_feed a1 a2 X1 = some (v, X2) ∧ zI_INV X2 := by
  have n10 : ((1 : Int32) = 0) = False := by decide
  obtain ⟨X1, X2, e1, e2, e3, e4⟩ := zI_both2 hI (f := -1000001) 0 (by decide) (by decide)
  obtain ⟨X1s, X2s, s1, s2, s3, s4⟩ := zI_both2 hI (f := -1000002) 1 (by decide) (by decide)
  obtain ⟨g1, ⟨L, hL, eL⟩, g3⟩ := hI.2.2.2.1
  rcases (Bool.eq_false_or_eq_true (zw 1 a2 4)).symm with hg | hg
  · refine ⟨-1000001, X1, X2, ?_, ?_, e3⟩
    · simp only [fn_Post_feed, ze_isWithin, hg, zp_b1, zp_b2, zt_f, e1, ↓reduceIte]
    · simp only [fn_Mod_feed, ze_inN a2 1 4 1 4 rfl rfl, hg, zp_b1, zp_b2, zt_f, e2, ↓reduceIte]
  obtain ⟨N, h1, hN, rfl⟩ := zw_1n (m := 4) (by decide) hg
  have c1 : nI L + nI N ≤ (120 : Int32) ↔ L + N ≤ 120 := by
    rw [nI_add]
    exact nI_leI (b := 120) (by omega) (by omega)
  by_cases q : L + N ≤ 120
  · obtain ⟨Xa, ea, pa1, pa2, pa3, pa4⟩ := zl_feed_P a1 N 400 L X eL q (by omega)
    have ml : Xa 95 14 = nI L := by rw [pa4 95 14 (by decide) (by decide), g1, eL]
    obtain ⟨Xb, eb, pb1, pb2, pb3, pb4⟩ := zl_feed_M a1 N 400 L Xa ml q (by omega)
    refine ⟨nI (L + N), Xa, Xb, ?_, ?_, ?_⟩
    · simp only [fn_Post_feed, ze_isWithin, hg, zp_b1, zt_t, n10, ↓reduceIte, eL, c1, q, zp_nx]
      exact ea
    · simp only [fn_Mod_feed, ze_inN (nI N) 1 4 1 4 rfl rfl, hg, zp_b1, zt_t, n10, ↓reduceIte, ml, c1, q, zp_nx]
      exact eb
    · obtain ⟨i1, i2, i3, i4, i5⟩ := hI
      have row : ∀ r j, ¬ (r = 8 ∧ j = 1) → r ≠ 9 → ¬ (r = 95 ∧ j = 14) → r ≠ 104 → Xb r j = X r j := fun r j b1 b2 b3 b4 => by rw [pb4 r j b3 b4, pa4 r j b1 b2]
      have l8 : Xb 8 1 = nI (L + N) := by rw [pb4 8 1 (by decide) (by decide), pa1]
      have rw2 : ∀ r j, (zA_1 r j = true ∨ zA_2 r j = true ∨ zA_3 r j = true ∨ zA_5 r j = true) → Xb r j = X r j := fun r j hr => by
        have w := zA_n4 hr
        exact row r j w.1 w.2.1 w.2.2.1 w.2.2.2
      refine ⟨i1.ag (fun r j hr => rw2 r j (Or.inl hr)), i2.ag (fun r j hr => rw2 r j (Or.inr (Or.inl hr))), i3.ag (fun r j hr => rw2 r j (Or.inr (Or.inr (Or.inl hr)))), ⟨?_, ?_, ?_⟩, i5.ag (fun r j hr => rw2 r j (Or.inr (Or.inr (Or.inr hr))))⟩
      · rw [pb1, l8]
      · rw [l8]; exact ⟨L + N, q, rfl⟩
      · rw [l8, zn_cl (by omega)]
        intro j hj
        have r9 : Xb 9 j = Xa 9 j := pb4 9 j (by omega) (by decide)
        rw [r9]
        by_cases w : j < L
        · rw [pb3 j w, pa4 104 j (by omega) (by decide), pa3 j w]
          refine i4.2.2 j ?_
          rw [eL, zn_cl (by omega)]
          exact w
        · rw [pb2 j (by omega) hj, pa2 j (by omega) hj]
          exact ⟨rfl, zby_le _ _⟩
  · refine ⟨-1000002, X1s, X2s, ?_, ?_, s3⟩
    · simp only [fn_Post_feed, ze_isWithin, hg, zp_b1, zp_b2, zt_t, n10, ↓reduceIte, eL, c1, q, s1]
    · have ml : X1s 95 14 = nI L := by rw [s4 95 (by decide), g1, eL]
      simp only [fn_Mod_feed, ze_inN (nI N) 1 4 1 4 rfl rfl, hg, zp_b1, zp_b2, zt_t, n10, ↓reduceIte, ml, c1, q, s2]
/-! letters by where they are -/
def zS_lt (S : Nat → Int32) (w : Int32) : Nat → Nat → Int32 → Int32
  | 0, _, a => a
  | d + 1, i, a => zS_lt S w d (i + 1) (if nI (zS_ps S (zN S (120 + i))) = w then a + 1 else a)
theorem zW_l {S : Nat → Int32} (h : zI_WF S) {i : Nat} (hi : i < zN S 2) : S (120 + i) = nI (zN S (120 + i)) ∧ zN S (120 + i) ≤ 23 := (h.2.2.2.2.2.2.2.1 i hi).n (by omega)
theorem zl_letters_P {X : IX} {S : Nat → Int32} (hL : zI_LI X 0 S) (h : zI_WF S) (w : Int32) : ∀ (d i n : Nat) (a : Int32), i + d = zN S 2 → d < n → fn_Post_letters_L20 n w a (nI i) X = some (zS_lt S w d i a, X) := by
  have n2 := zW_2 h
  have t1 : X 20 5 = nI (zN S 2) := by rw [(zL_h rfl hL).2.2.1]; exact n2.1
  intro d
  induction d with
  | zero =>
    intro i n a hi hd
    obtain ⟨m, rfl⟩ : ∃ m, n = m + 1 := ⟨n - 1, by omega⟩
    show fn_Post_letters_B20 _ _ _ _ _ = _
    unfold fn_Post_letters_B20
    rw [t1, if_pos ((nI_leI (by omega) (by omega)).mpr (by omega))]
    rfl
  | succ d ih =>
    intro i n a hi hd
    obtain ⟨m, rfl⟩ : ∃ m, n = m + 1 := ⟨n - 1, by omega⟩
    have c := zW_l h (show i < zN S 2 by omega)
    show fn_Post_letters_B20 (fn_Post_letters_L20 m) _ _ _ _ = some (zS_lt S w d (i + 1) _, X)
    unfold fn_Post_letters_B20 fn_Post_letters_L54
    rw [t1, if_neg (nI_ge (a := i) (by omega) (by omega)), zn_ib (show i < 12 by omega) (by decide), zp_gd, zn_cl (by omega), zL_let rfl hL (by omega), c.1, ze_ps rfl hL h (by omega), zp_b1]
    simp only [zp_nx, nI_1, ih (i + 1) m _ (by omega) (by omega)]
    split <;> rfl
theorem zl_letters_M {X : IX} {S : Nat → Int32} (e : X 96 = S) (h : zI_WF S) (w : Int32) : ∀ (d i n : Nat) (a : Int32), i + d = zN S 2 → d < n → fn_Mod_letters_L23 n w a (nI i) X = some (zS_lt S w d i a, X) := by
  have n2 := zW_2 h
  have w3 := zW_3 h
  intro d
  induction d with
  | zero =>
    intro i n a hi hd
    obtain ⟨m, rfl⟩ : ∃ m, n = m + 1 := ⟨n - 1, by omega⟩
    show fn_Mod_letters_B23 _ _ _ _ _ = _
    unfold fn_Mod_letters_B23
    rw [e, n2.1, if_pos ((nI_leI (by omega) (by omega)).mpr (by omega))]
    rfl
  | succ d ih =>
    intro i n a hi hd
    obtain ⟨m, rfl⟩ : ∃ m, n = m + 1 := ⟨n - 1, by omega⟩
    have c := zW_l h (show i < zN S 2 by omega)
    have w6 := zW_6 h (show zN S (120 + i) < 24 by omega)
    have e6 : (120 : Int32) + nI i = nI (120 + i) := nI_add 120 i
    have e7 : (6 : Int32) + nI (zN S (120 + i)) = nI (6 + zN S (120 + i)) := nI_add 6 _
    have c1 : nI (zN S (120 + i)) = nI (zN S 3) ↔ zN S (120 + i) = zN S 3 := nI_eq (by omega) (by omega)
    have c2 : nI (zN S (6 + zN S (120 + i))) = (1 : Int32) ↔ zN S (6 + zN S (120 + i)) = 1 := nI_eq (b := 1) (by omega) (by omega)
    show fn_Mod_letters_B23 (fn_Mod_letters_L23 m) _ _ _ _ = some (zS_lt S w d (i + 1) _, X)
    unfold fn_Mod_letters_B23 fn_Mod_letters_L78 fn_Mod_letters_L92
    rw [e, n2.1, if_neg (nI_ge (a := i) (by omega) (by omega)), e6, zn_ib (show 120 + i < 142 by omega) (by decide), zp_gd, zn_cl (by omega), zp_nx, c.1, w3.1, e7, zn_ib (show 6 + zN S (120 + i) < 142 by omega) (by decide), zp_gd, zn_cl (by omega), w6.1]
    simp only [zp_nx, nI_1, c1, c2, ih (i + 1) m _ (by omega) (by omega), Int32.add_zero]
    unfold zS_ps
    by_cases q1 : zN S (120 + i) = zN S 3
    · rw [if_pos q1, if_pos q1]
      show (if (0 : Int32) = w then _ else _) = some (zS_lt S w d (i + 1) (if (0 : Int32) = w then _ else _), X)
      split <;> rfl
    · rw [if_neg q1, if_neg q1]
      by_cases q2 : zN S (6 + zN S (120 + i)) = 1
      · rw [if_pos q2, if_pos q2]
        show (if (1 : Int32) = w then _ else _) = some (zS_lt S w d (i + 1) (if (1 : Int32) = w then _ else _), X)
        split <;> rfl
      · rw [if_neg q2, if_neg q2]
        show (if (2 : Int32) = w then _ else _) = some (zS_lt S w d (i + 1) (if (2 : Int32) = w then _ else _), X)
        split <;> rfl
theorem st_letters {X : IX} {Y : LX} (hI : zI_INV X) (a1 : Int32) : ∃ (v : Int32) (X1 : IX) (X2 : IX), fn_Post_letters a1 X = some (v, X1) ∧ fn_Mod_letters a1 X1 = some (v, X2) ∧ zI_INV X2 := by
  have n10 : ((1 : Int32) = 0) = False := by decide
  obtain ⟨X1, X2, e1, e2, e3, e4⟩ := zI_both2 hI (f := -1000001) 0 (by decide) (by decide)
  have hW := hI.1.2
  have n2 := zW_2 hW
  rcases (Bool.eq_false_or_eq_true (zw 0 a1 2)).symm with hg | hg
  · refine ⟨-1000001, X1, X2, ?_, ?_, e3⟩
    · simp only [fn_Post_letters, ze_isWithin, hg, zp_b1, zp_b2, zt_f, e1, ↓reduceIte]
    · simp only [fn_Mod_letters, ze_inN a1 0 2 0 2 rfl rfl, hg, zp_b1, zp_b2, zt_f, e2, ↓reduceIte]
  refine ⟨zS_lt (X 96) a1 (zN (X 96) 2) 0 0, X, X, ?_, ?_, hI⟩
  · simp only [fn_Post_letters, ze_isWithin, hg, zp_b1, zt_t, n10, ↓reduceIte]
    exact zl_letters_P hI.1.1 hW a1 (zN (X 96) 2) 0 400 0 (by omega) (by omega)
  · simp only [fn_Mod_letters, ze_inN a1 0 2 0 2 rfl rfl, hg, zp_b1, zt_t, n10, ↓reduceIte]
    exact zl_letters_M rfl hW a1 (zN (X 96) 2) 0 400 0 (by omega) (by omega)
/-! who stands on a cell -/
def zS_fs (S : Nat → Int32) (c : Nat) : Nat → Nat → Option Nat
  | 0, _ => none
  | d + 1, t => if zF S t 1 = c then some t else zS_fs S c d (t + 1)
theorem zS_fs_s {S : Nat → Int32} {c : Nat} : ∀ d t u, zS_fs S c d t = some u → t ≤ u ∧ u < t + d ∧ zF S u 1 = c := by
  intro d
  induction d with
  | zero => intro t u e; cases e
  | succ d ih =>
    intro t u e
    unfold zS_fs at e
    split at e
    · rename_i q
      cases e
      exact ⟨Nat.le_refl _, by omega, q⟩
    · have := ih (t + 1) u e
      omega
theorem zS_fs_n {S : Nat → Int32} {c : Nat} : ∀ d t, zS_fs S c d t = none → ∀ u, t ≤ u → u < t + d → zF S u 1 ≠ c := by
  intro d
  induction d with
  | zero => intro t _ u h1 h2; omega
  | succ d ih =>
    intro t e u h1 h2
    unfold zS_fs at e
    split at e
    · cases e
    · rename_i q
      by_cases w : u = t
      · subst w; exact q
      · exact ih (t + 1) e u (by omega) (by omega)
def zS_sd (S : Nat → Int32) (c : Nat) : Option Nat := zS_fs S c (zN S 1) 0
theorem zl_sd_P {X : IX} {S : Nat → Int32} {o r : Nat} (hr : r = 20 + o) (hL : zI_LI X o S) (h : zI_WF S) {c : Nat} (hc : c < 24) : ∀ (d t n : Nat), t + d = zN S 1 → d < n → fn_Land_standingOn_L2 X n r (nI c) (nI t) = some (zO (zS_fs S c d t)) := by
  have n1 := zW_1 h
  have t1 : X r 4 = nI (zN S 1) := by rw [(zL_h hr hL).2.1]; exact n1.1
  intro d
  induction d with
  | zero =>
    intro t n ht hd
    obtain ⟨m, rfl⟩ : ∃ m, n = m + 1 := ⟨n - 1, by omega⟩
    show fn_Land_standingOn_B2 _ _ _ _ _ = _
    unfold fn_Land_standingOn_B2
    rw [t1, if_pos ((nI_leI (by omega) (by omega)).mpr (by omega))]
    rfl
  | succ d ih =>
    intro t n ht hd
    obtain ⟨m, rfl⟩ : ∃ m, n = m + 1 := ⟨n - 1, by omega⟩
    have b := zF_all h (show t < zN S 1 by omega)
    show fn_Land_standingOn_B2 X (fn_Land_standingOn_L2 X m) _ _ _ = some (zO (if zF S t 1 = c then some t else zS_fs S c d (t + 1)))
    unfold fn_Land_standingOn_B2
    have c1 : nI (zF S t 1) = nI c ↔ zF S t 1 = c := nI_eq (by omega) (by omega)
    rw [t1, if_neg (nI_ge (a := t) (by omega) (by omega)), zn_ib (show t < 10 by omega) (by decide), zp_gd, zn_cl (by omega), zf_P hr hL h (by omega) (by omega)]
    simp only [c1, zp_nx, nI_1, ih (t + 1) m (by omega) (by omega)]
    split <;> rfl
theorem ze_sd {X : IX} {S : Nat → Int32} {o r : Nat} (hr : r = 20 + o) (hL : zI_LI X o S) (h : zI_WF S) {c : Nat} (hc : c < 24) : fn_Land_standingOn X r (nI c) = some (zO (zS_sd S c)) := zl_sd_P hr hL h hc (zN S 1) 0 400 (by omega) (by have := (zW_1 h).2; omega)
theorem zl_sd_M {X : IX} {S : Nat → Int32} (e : X 96 = S) (h : zI_WF S) {c : Nat} (hc : c < 24) : ∀ (d t n : Nat) (a : Option Nat), t + d = zN S 1 → d < n → fn_Mod_standing_L4 X n (nI c) (zO a) (nI t) = some (zO (match zS_fs S c d t with | some u => some u | none => a)) := by
  have n1 := zW_1 h
  intro d
  induction d with
  | zero =>
    intro t n a ht hd
    obtain ⟨m, rfl⟩ : ∃ m, n = m + 1 := ⟨n - 1, by omega⟩
    show fn_Mod_standing_B4 _ _ _ _ _ = _
    unfold fn_Mod_standing_B4
    rw [e, n1.1, if_pos ((nI_leI (by omega) (by omega)).mpr (by omega))]
    rfl
  | succ d ih =>
    intro t n a ht hd
    obtain ⟨m, rfl⟩ : ∃ m, n = m + 1 := ⟨n - 1, by omega⟩
    have b := zF_all h (show t < zN S 1 by omega)
    have f1 : fn_Mod_its X (nI t) (1 : Int32) = _ := zf_M e h (show t < zN S 1 by omega) (f := 1) (by omega)
    have c1 : nI (zF S t 1) = nI c ↔ zF S t 1 = c := nI_eq (by omega) (by omega)
    have i1 : fn_Mod_standing_L4 X m (nI c) (nI t) (nI (t + 1)) = _ := ih (t + 1) m (some t) (by omega) (by omega)
    show fn_Mod_standing_B4 X (fn_Mod_standing_L4 X m) _ _ _ = some (zO (match (if zF S t 1 = c then some t else zS_fs S c d (t + 1)) with | some u => some u | none => a))
    unfold fn_Mod_standing_B4 fn_Mod_standing_L29
    rw [e, n1.1, if_neg (nI_ge (a := t) (by omega) (by omega)), f1, zp_b1]
    simp only [c1, zp_nx, nI_1, i1, ih (t + 1) m a (by omega) (by omega)]
    by_cases q : zF S t 1 = c
    · rw [if_pos q, if_pos q]
      cases hf : zS_fs S c d (t + 1) with
      | none => rfl
      | some u =>
        have hu := zS_fs_s _ _ _ hf
        have b2 := zF_all h (show u < zN S 1 by omega)
        have := h.2.2.2.2.2.2.2.2.2 t u (by omega) (by omega) (by rw [b.2.1 1 (by omega), b2.2.1 1 (by omega), q, hu.2.2])
        omega
    · rw [if_neg q, if_neg q]
theorem zm_sd {X : IX} {S : Nat → Int32} (e : X 96 = S) (h : zI_WF S) {c : Nat} (hc : c < 24) : fn_Mod_standing X (nI c) = some (zO (zS_sd S c)) := by
  have q : fn_Mod_standing X (nI c) = _ := zl_sd_M e h hc (zN S 1) 0 400 none (by omega) (by have := (zW_1 h).2; omega)
  rw [q]
  unfold zS_sd
  cases zS_fs S c (zN S 1) 0 <;> rfl
theorem zS_sd_s {S : Nat → Int32} {c u : Nat} (h : zS_sd S c = some u) : u < zN S 1 ∧ zF S u 1 = c := by
  have := zS_fs_s _ _ _ h
  omega
theorem zS_sd_n {S : Nat → Int32} {c : Nat} (h : zS_sd S c = none) : ∀ u, u < zN S 1 → zF S u 1 ≠ c := fun u hu => zS_fs_n _ _ h u (by omega) (by omega)
theorem st_walk {X : IX} {Y : LX} (hI : zI_INV X) (a1 : Int32) (a2 : Int32) : ∃ (v : Int32) (X1 : IX) (X2 : IX), fn_Post_walk a1 a2 X = some (v, X1) ∧ fn_Mod_walk a1 a2 X1 = some (v, X2) ∧ zI_INV X2 := by
  have n10 : ((1 : Int32) = 0) = False := by decide
  obtain ⟨X1, X2, e1, e2, e3, e4⟩ := zI_both2 hI (f := -1000001) 0 (by decide) (by decide)
  obtain ⟨X1s, X2s, s1, s2, s3, s4⟩ := zI_both2 hI (f := -1000005) 4 (by decide) (by decide)
  obtain ⟨n1, hn⟩ := zI_1 hI
  obtain ⟨n, en⟩ : ∃ n, n = zN (X 96) 1 := ⟨_, rfl⟩
  rw [← en] at n1 hn
  have t1 : X 20 4 = nI n := by rw [(zL_h rfl hI.1.1).2.1, n1]
  have m1 : X1 96 1 = nI n := by rw [e4 96 (by decide), n1]
  rcases (Bool.eq_false_or_eq_true (zh n a1 && zw 0 a2 23)).symm with hg | hg
  · refine ⟨-1000001, X1, X2, ?_, ?_, e3⟩
    · cases h1 : zh n a1 <;> cases h2 : zw 0 a2 23 <;> first
        | exact absurd hg (by rw [h1, h2]; decide)
        | simp only [fn_Post_walk, fn_Post_walk_L15, ze_isThrower t1 hn, ze_isCell, h1, h2, zp_b1, zp_b2, zp_nx, zt_f, zt_t, e1, n10, Bool.and_true, Bool.and_false, Bool.true_and, Bool.false_and, ↓reduceIte]
    · cases h1 : zh n a1 <;> cases h2 : zw 0 a2 23 <;> first
        | exact absurd hg (by rw [h1, h2]; decide)
        | simp only [fn_Mod_walk, fn_Mod_walk_L15, ze_mThrower m1 hn, ze_mCell, h1, h2, zp_b1, zp_b2, zp_nx, zt_f, zt_t, e2, n10, Bool.and_true, Bool.and_false, Bool.true_and, Bool.false_and, ↓reduceIte]
  simp only [Bool.and_eq_true] at hg
  obtain ⟨h1, h2⟩ := hg
  obtain ⟨t, ht, rfl⟩ := zh_t (by omega) h1
  obtain ⟨c, hc, rfl⟩ := zw_n (m := 23) (by decide) h2
  have hW := hI.1.2
  have tn : t < zN (X 96) 1 := by rw [← en]; exact ht
  have sp := ze_sd rfl hI.1.1 hW (show c < 24 by omega)
  have good : (∀ u, u < zN (X 96) 1 → u ≠ t → zF (X 96) u 1 ≠ c) → fn_Post_walk (nI t) (nI c) X = fn_Post_walk_L48 (nI t) (nI c) X → (∀ X', X' 96 = X 96 → fn_Mod_walk (nI t) (nI c) X' = fn_Mod_walk_L44 (nI t) (nI c) X') → ∃ (v : Int32) (X1 : IX) (X2 : IX), fn_Post_walk (nI t) (nI c) X = some (v, X1) ∧ fn_Mod_walk (nI t) (nI c) X1 = some (v, X2) ∧ zI_INV X2 := by
    intro free P M
    have hp := zL_p30 0 t 1 (by omega) (by omega)
    have h96 : zu_st X (zu_th (20 + 6) t + 30) 1 (nI c) 96 = X 96 := zs_other X _ _ (by unfold zu_th; omega)
    have ei : ∀ X', fn_Mod_its X' (nI t) (1 : Int32) = some (X' 96 (30 + 9 * t + 1)) := fun X' => ze_its (f := 1) (show t < 10 by omega) (by omega)
    have ea : fn_Mod_at (nI t) (1 : Int32) = nI (30 + 9 * t + 1) := ze_at t 1
    refine ⟨X 96 (30 + 9 * t + 1), zu_st X (zu_th (20 + 6) t + 30) 1 (nI c), zu_st (zu_st X (zu_th (20 + 6) t + 30) 1 (nI c)) 96 (30 + 9 * t + 1) (nI c), ?_, ?_, ?_⟩
    · rw [P]
      simp only [fn_Post_walk_L48, zn_ib (show t < 10 by omega) (show 10 < 2 ^ 31 by decide), zp_gd, zn_cl (show t < 2 ^ 31 by omega), zp_nx, zL_fact rfl hI.1.1 (show t < 10 by omega) (show 1 < 9 by omega)]
    · rw [M _ h96]
      simp only [fn_Mod_walk_L44, ei, zp_b1, zp_nx, ea, zn_ib (show 30 + 9 * t + 1 < 142 by omega) (show 142 < 2 ^ 31 by decide), zp_gd, zn_cl (show 30 + 9 * t + 1 < 2 ^ 31 by omega), h96]
    · have q := zI_put hI (k := 30 + 9 * t + 1) (v := nI c) (by omega) (zW_upd hW (by omega) (by omega) ((zk_fact (by omega) (by omega)).mpr (fun _ => zI_le.of hc)) (fun u w hu hw q => by
        have bu := zF_all hW hu
        have bw := zF_all hW hw
        have key : ∀ x, x < zN (X 96) 1 → x ≠ t → upd (X 96) (30 + 9 * t + 1) (nI c) (30 + 9 * x + 1) ≠ nI c := by
          intro x hx hne qq
          have bx := zF_all hW hx
          rw [pk_un (by omega), bx.2.1 1 (by omega), nI_eq (by omega) (by omega)] at qq
          exact free x hx hne qq
        by_cases wu : u = t
        · by_cases ww : w = t
          · omega
          · subst wu
            rw [pk_us] at q
            exact absurd q.symm (key w hw ww)
        · by_cases ww : w = t
          · subst ww
            rw [pk_us (k := 30 + 9 * w + 1)] at q
            exact absurd q (key u hu wu)
          · rw [pk_un (by omega), pk_un (by omega)] at q
            exact hW.2.2.2.2.2.2.2.2.2 u w hu hw q))
      rwa [hp.1, hp.2] at q
  cases hs : zS_sd (X 96) c with
  | none =>
    refine good (fun u hu _ => zS_sd_n hs u hu) ?_ ?_
    · rw [hs] at sp
      simp only [fn_Post_walk, ze_isThrower t1 hn, ze_isCell, h1, h2, zp_b1, zt_t, n10, ↓reduceIte, sp, if_pos (show zO none = (-1 : Int32) from rfl)]
    · intro X' e
      have mm : X' 96 1 = nI n := by rw [e]; exact n1
      have sm := zm_sd e hW (show c < 24 by omega)
      rw [hs] at sm
      simp only [fn_Mod_walk, ze_mThrower mm hn, ze_mCell, h1, h2, zp_b1, zt_t, n10, ↓reduceIte, sm, if_pos (show zO none < (0 : Int32) by decide)]
  | some u =>
    have hu := zS_sd_s hs
    rw [hs] at sp
    have cu : zO (some u) = nI t ↔ u = t := nI_eq (by omega) (by omega)
    by_cases ut : u = t
    · refine good (fun w hw hne hcw => ?_) ?_ ?_
      · have bu := zF_all hW hu.1
        have bw := zF_all hW hw
        have := hW.2.2.2.2.2.2.2.2.2 w u hw hu.1 (by rw [bw.2.1 1 (by omega), bu.2.1 1 (by omega), hcw, hu.2])
        omega
      · simp only [fn_Post_walk, ze_isThrower t1 hn, ze_isCell, h1, h2, zp_b1, zt_t, n10, ↓reduceIte, sp, if_neg (show ¬ zO (some u) = (-1 : Int32) from zO_m1 (by omega)), if_pos (cu.mpr ut)]
      · intro X' e
        have mm : X' 96 1 = nI n := by rw [e]; exact n1
        have sm := zm_sd e hW (show c < 24 by omega)
        rw [hs] at sm
        simp only [fn_Mod_walk, ze_mThrower mm hn, ze_mCell, h1, h2, zp_b1, zt_t, n10, ↓reduceIte, sm, if_neg (show ¬ zO (some u) < (0 : Int32) from nI_pos (by omega)), if_pos (cu.mpr ut)]
    · refine ⟨-1000005, X1s, X2s, ?_, ?_, s3⟩
      · simp only [fn_Post_walk, ze_isThrower t1 hn, ze_isCell, h1, h2, zp_b1, zp_b2, zt_t, n10, ↓reduceIte, sp, if_neg (show ¬ zO (some u) = (-1 : Int32) from zO_m1 (by omega)), if_neg (fun q => ut (cu.mp q)), s1]
      · have e := s4 96 (by decide)
        have mm : X1s 96 1 = nI n := by rw [e]; exact n1
        have sm := zm_sd e hW (show c < 24 by omega)
        rw [hs] at sm
        simp only [fn_Mod_walk, ze_mThrower mm hn, ze_mCell, h1, h2, zp_b1, zp_b2, zt_t, n10, ↓reduceIte, sm, if_neg (show ¬ zO (some u) < (0 : Int32) from nI_pos (by omega)), if_neg (fun q => ut (cu.mp q)), s2]
