/-! kinds -/
def zS_isA (own k : Nat) : Bool := decide (k = 0 ∨ own = k ∨ (k = 1 ∧ own = 3) ∨ (k = 2 ∧ own = 4))
theorem zS_isA_X (X : IX) : ∀ (n : Nat) (a b c : Int32), fn_Thr_isA_L9 X n a b c = fn_Thr_isA_L9 (fun _ _ => 0) n a b c := by
  intro n
  induction n with
  | zero => intro a b c; rfl
  | succ n ih =>
    intro a b c
    have e : fn_Thr_isA_L9 X n = fn_Thr_isA_L9 (fun _ _ => 0) n := by
      funext a b c
      exact ih a b c
    show fn_Thr_isA_B9 X (fn_Thr_isA_L9 X n) a b c = fn_Thr_isA_B9 (fun _ _ => 0) (fn_Thr_isA_L9 (fun _ _ => 0) n) a b c
    rw [e]
    rfl
theorem zS_isA_P : ∀ own : Fin 7, ∀ k : Fin 7, fn_Thr_isA_L9 (fun _ _ => 0) 400 (nI k.val) (nI own.val) 0 = some (zt (zS_isA own.val k.val)) := by decide +kernel
theorem ze_isA {X : IX} {S : Nat → Int32} {o r : Nat} (hr : r = 20 + o) (hL : zI_LI X o S) (h : zI_WF S) {t k : Nat} (ht : t < zN S 1) (hk : k ≤ 6) : fn_Thr_isA X (zu_th (r + 6) t) (nI k) = some (zt (zS_isA (zF S t 0) k)) := by
  have a := zF_all h ht
  unfold fn_Thr_isA
  rw [zp_nx, zf_P hr hL h ht (by omega), zS_isA_X]
  exact zS_isA_P ⟨zF S t 0, by omega⟩ ⟨k, by omega⟩
theorem zm_isA {own k : Nat} (ho : own ≤ 6) (hk : k ≤ 6) (v : Int32) (X : IX) : (if nI k = 0 then fn_Mod_as_L94 v X else if nI own = nI k then fn_Mod_as_L94 v X else if nI k = (1 : Int32) then (if nI own = (3 : Int32) then fn_Mod_as_L94 v X else fn_Mod_as_L83 (nI k) v (nI own) X) else fn_Mod_as_L83 (nI k) v (nI own) X) = fn_Mod_as_L99 v (zt (zS_isA own k)) X := by
  have c0 : nI k = (0 : Int32) ↔ k = 0 := nI_eq (b := 0) (by omega) (by omega)
  have c1 : nI k = (1 : Int32) ↔ k = 1 := nI_eq (b := 1) (by omega) (by omega)
  have c2 : nI k = (2 : Int32) ↔ k = 2 := nI_eq (b := 2) (by omega) (by omega)
  have c3 : nI own = (3 : Int32) ↔ own = 3 := nI_eq (b := 3) (by omega) (by omega)
  have c4 : nI own = (4 : Int32) ↔ own = 4 := nI_eq (b := 4) (by omega) (by omega)
  have c5 : nI own = nI k ↔ own = k := nI_eq (by omega) (by omega)
  unfold fn_Mod_as_L83 fn_Mod_as_L94 fn_Mod_as_L98
  simp only [c0, c1, c2, c3, c4, c5]
  unfold zS_isA
  by_cases q0 : k = 0
  · rw [if_pos q0, decide_eq_true (Or.inl q0)]; rfl
  rw [if_neg q0]
  by_cases q5 : own = k
  · rw [if_pos q5, decide_eq_true (Or.inr (Or.inl q5))]; rfl
  rw [if_neg q5]
  by_cases q1 : k = 1
  · rw [if_pos q1]
    by_cases q3 : own = 3
    · rw [if_pos q3, decide_eq_true (by omega)]; rfl
    · rw [if_neg q3, if_neg (by omega), decide_eq_false (by omega)]; rfl
  · rw [if_neg q1]
    by_cases q2 : k = 2
    · rw [if_pos q2]
      by_cases q4 : own = 4
      · rw [if_pos q4, decide_eq_true (by omega)]; rfl
      · rw [if_neg q4, decide_eq_false (by omega)]; rfl
    · rw [if_neg q2, decide_eq_false (by omega)]; rfl
theorem st_as {X : IX} {Y : LX} (hI : zI_INV X) (a1 : Int32) (a2 : Int32) : ∃ (v : Int32) (X1 : IX) (X2 : IX), fn_Post_as a1 a2 X = some (v, X1) ∧ fn_Mod_as a1 a2 X1 = some (v, X2) ∧ zI_INV X2 := by
  have n10 : ((1 : Int32) = 0) = False := by decide
  obtain ⟨X1, X2, e1, e2, e3, e4⟩ := zI_both2 hI (f := -1000001) 0 (by decide) (by decide)
  obtain ⟨X1s, X2s, s1, s2, s3, s4⟩ := zI_both2 hI (f := -1000006) 5 (by decide) (by decide)
  obtain ⟨X1u, X2u, u1, u2, u3, u4⟩ := zI_both2 hI (f := -1000003) 2 (by decide) (by decide)
  rcases (Bool.eq_false_or_eq_true (zw 0 a1 9 && zw 0 a2 6)).symm with hg | hg
  · refine ⟨-1000001, X1, X2, ?_, ?_, e3⟩
    · cases h1 : zw 0 a1 9 <;> cases h2 : zw 0 a2 6 <;> first
        | exact absurd hg (by rw [h1, h2]; decide)
        | simp only [fn_Post_as, fn_Post_as_L17, ze_isWithin, ze_isKind, h1, h2, zp_b1, zp_b2, zp_nx, zt_f, zt_t, e1, n10, Bool.and_true, Bool.and_false, Bool.true_and, Bool.false_and, ↓reduceIte]
    · cases h1 : zw 0 a1 9 <;> cases h2 : zw 0 a2 6 <;> first
        | exact absurd hg (by rw [h1, h2]; decide)
        | simp only [fn_Mod_as, fn_Mod_as_L24, ze_inN a1 0 9 0 9 rfl rfl, ze_inN a2 0 6 0 6 rfl rfl, h1, h2, zp_b1, zp_b2, zp_nx, zt_f, zt_t, e2, n10, Bool.and_true, Bool.and_false, Bool.true_and, Bool.false_and, ↓reduceIte]
  simp only [Bool.and_eq_true] at hg
  obtain ⟨h1, h2⟩ := hg
  obtain ⟨q, hq, rfl⟩ := zw_n (m := 9) (by decide) h1
  obtain ⟨k, hk, rfl⟩ := zw_n (m := 6) (by decide) h2
  have hW := hI.1.2
  have n1 := zW_1 hW
  have t1 : X 20 4 = nI (zN (X 96) 1) := by rw [(zL_h rfl hI.1.1).2.1]; exact n1.1
  have e6 : (132 : Int32) + nI q = nI (132 + q) := nI_add 132 q
  have sp : X (20 + 12) q = X 96 (132 + q) := zL_spot rfl hI.1.1 (by omega)
  rcases hW.2.2.2.2.2.2.2.2.1 q (by omega) with hm | ⟨t, ht, hm⟩
  · refine ⟨-1000006, X1s, X2s, ?_, ?_, s3⟩
    · have z : zh (zN (X 96) 1) (-1 : Int32) = false := decide_eq_false (by
        have e1 : (-1 : Int32).toInt = -1 := rfl
        rw [e1]; omega)
      simp only [fn_Post_as, ze_isWithin, ze_isKind, h1, h2, zp_b1, zp_b2, zt_t, n10, ↓reduceIte, zn_ib (show q < 10 by omega) (show 10 < 2 ^ 31 by decide), zp_gd, zn_cl (show q < 2 ^ 31 by omega), zp_nx, sp, hm, ze_isThrower t1 n1.2, z, zt_f, s1]
    · have sq : X1s 96 (132 + q) = -1 := by rw [s4 96 (by decide)]; exact hm
      simp only [fn_Mod_as, ze_inN (nI q) 0 9 0 9 rfl rfl, ze_inN (nI k) 0 6 0 6 rfl rfl, h1, h2, zp_b1, zp_b2, zt_t, n10, ↓reduceIte, e6, zn_ib (show 132 + q < 142 by omega) (show 142 < 2 ^ 31 by decide), zp_gd, zn_cl (show 132 + q < 2 ^ 31 by omega), zp_nx, sq, if_neg (show ¬ (0 : Int32) ≤ -1 by decide), s2]
  · have ht10 : t < 10 := by omega
    have a := zF_all hW ht
    have P : fn_Post_as (nI q) (nI k) X = if zt (zS_isA (zF (X 96) t 0) k) = 0 then (zu_b2 (fn_Post_finding (-1000003 : Int32) X) fun v X' => some (v, X')) else some (nI t, X) := by
      simp only [fn_Post_as, fn_Post_as_L75, ze_isWithin, ze_isKind, h1, h2, zp_b1, zt_t, n10, ↓reduceIte, zn_ib (show q < 10 by omega) (show 10 < 2 ^ 31 by decide), zp_gd, zn_cl (show q < 2 ^ 31 by omega), zp_nx, sp, hm, ze_isThrower t1 n1.2, zh_nI ht (show zN (X 96) 1 < 2 ^ 31 by omega), zn_ib ht10 (show 10 < 2 ^ 31 by decide), zn_cl (show t < 2 ^ 31 by omega), ze_isA rfl hI.1.1 hW ht hk]
    have M : ∀ X' : IX, X' 96 = X 96 → fn_Mod_as (nI q) (nI k) X' = fn_Mod_as_L99 (nI t) (zt (zS_isA (zF (X 96) t 0) k)) X' := by
      intro X' e
      have sq : X' 96 (132 + q) = nI t := by rw [e]; exact hm
      have it : fn_Mod_its X' (nI t) (0 : Int32) = _ := zf_M e hW ht (f := 0) (by omega)
      simp only [fn_Mod_as, ze_inN (nI q) 0 9 0 9 rfl rfl, ze_inN (nI k) 0 6 0 6 rfl rfl, h1, h2, zp_b1, zt_t, n10, ↓reduceIte, e6, zn_ib (show 132 + q < 142 by omega) (show 142 < 2 ^ 31 by decide), zp_gd, zn_cl (show 132 + q < 2 ^ 31 by omega), zp_nx, sq, if_pos (show (0 : Int32) ≤ nI t from zn_0le (by omega)), it]
      exact zm_isA (by omega) hk (nI t) X'
    rw [P]
    cases hA : zS_isA (zF (X 96) t 0) k with
    | true =>
      refine ⟨nI t, X, X, rfl, ?_, hI⟩
      rw [M X rfl, hA]
      rfl
    | false =>
      refine ⟨-1000003, X1u, X2u, ?_, ?_, u3⟩
      · rw [zt_f, if_pos rfl, u1]; rfl
      · rw [M X1u (u4 96 (by decide)), hA]
        unfold fn_Mod_as_L99 fn_Mod_as_L117
        rw [zt_f, if_pos rfl, u2]
        rfl
/-! counts -/
theorem ze_sum {X : IX} {S : Nat → Int32} {o r : Nat} (hr : r = 20 + o) (hL : zI_LI X o S) (h : zI_WF S) {f : Nat} (hf : f < 9) : ∀ (d t n : Nat) (a : Int32), t + d = zN S 1 → d < n → fn_Land_sumOf_L4 X n r (nI f) a (nI t) = some (zq (fun t => S (30 + 9 * t + f)) d t a) := by
  have n1 := zW_1 h
  have t1 : X r 4 = nI (zN S 1) := by rw [(zL_h hr hL).2.1]; exact n1.1
  intro d
  induction d with
  | zero =>
    intro t n a ht hd
    obtain ⟨m, rfl⟩ : ∃ m, n = m + 1 := ⟨n - 1, by omega⟩
    show fn_Land_sumOf_B4 _ _ _ _ _ _ = _
    unfold fn_Land_sumOf_B4
    rw [t1, if_pos ((nI_leI (by omega) (by omega)).mpr (by omega))]
    rfl
  | succ d ih =>
    intro t n a ht hd
    obtain ⟨m, rfl⟩ : ∃ m, n = m + 1 := ⟨n - 1, by omega⟩
    show fn_Land_sumOf_B4 X (fn_Land_sumOf_L4 X m) _ _ _ _ = _
    unfold fn_Land_sumOf_B4
    rw [t1, if_neg (nI_ge (a := t) (by omega) (by omega))]
    simp only [zn_ib (show t < 10 by omega) (show 10 < 2 ^ 31 by decide), zn_ib hf (show 9 < 2 ^ 31 by decide), zp_gd, zn_cl (show t < 2 ^ 31 by omega), zn_cl (show f < 2 ^ 31 by omega), zL_fact hr hL (show t < 10 by omega) hf, zp_nx, nI_1]
    exact ih (t + 1) m _ (by omega) (by omega)
theorem zm_ills {X : IX} {S : Nat → Int32} (e : X 96 = S) (h : zI_WF S) : ∀ (d t n : Nat) (a : Int32), t + d = zN S 1 → d < n → fn_Mod_ills_L4 X n a (nI t) = some (zq (fun t => S (30 + 9 * t + 7)) d t a) := by
  have n1 := zW_1 h
  have t1 : X 96 1 = nI (zN S 1) := by rw [e]; exact n1.1
  intro d
  induction d with
  | zero =>
    intro t n a ht hd
    obtain ⟨m, rfl⟩ : ∃ m, n = m + 1 := ⟨n - 1, by omega⟩
    show fn_Mod_ills_B4 _ _ _ _ = _
    unfold fn_Mod_ills_B4
    rw [t1, if_pos ((nI_leI (by omega) (by omega)).mpr (by omega))]
    rfl
  | succ d ih =>
    intro t n a ht hd
    obtain ⟨m, rfl⟩ : ∃ m, n = m + 1 := ⟨n - 1, by omega⟩
    have it : fn_Mod_its X (nI t) (7 : Int32) = some (X 96 (30 + 9 * t + 7)) := ze_its (f := 7) (show t < 10 by omega) (by omega)
    show fn_Mod_ills_B4 X (fn_Mod_ills_L4 X m) _ _ = _
    unfold fn_Mod_ills_B4
    rw [t1, if_neg (nI_ge (a := t) (by omega) (by omega)), it, zp_b1, zp_nx, zp_nx, nI_1, e]
    exact ih (t + 1) m _ (by omega) (by omega)
theorem zm_thanks {S : Nat → Int32} (h : zI_WF S) : ∀ (d t n : Nat) (a : Int32) (X : IX), X 96 = S → t + d = zN S 1 → d < n → ∃ X', fn_Mod_thanksOf_L4 n a (nI t) X = some (zq (fun t => S (30 + 9 * t + 8)) d t a, X') ∧ (∀ u, t ≤ u → u < zN S 1 → X' 103 u = S (30 + 9 * u + 8)) ∧ (∀ u, u < t → X' 103 u = X 103 u) ∧ ∀ b, b ≠ 103 → X' b = X b := by
  have n1 := zW_1 h
  intro d
  induction d with
  | zero =>
    intro t n a X e ht hd
    obtain ⟨m, rfl⟩ : ∃ m, n = m + 1 := ⟨n - 1, by omega⟩
    have t1 : X 96 1 = nI (zN S 1) := by rw [e]; exact n1.1
    refine ⟨X, ?_, fun u h1 h2 => absurd h2 (by omega), fun _ _ => rfl, fun _ _ => rfl⟩
    show fn_Mod_thanksOf_B4 _ _ _ _ = _
    unfold fn_Mod_thanksOf_B4
    rw [t1, if_pos ((nI_leI (by omega) (by omega)).mpr (by omega))]
    rfl
  | succ d ih =>
    intro t n a X e ht hd
    obtain ⟨m, rfl⟩ : ∃ m, n = m + 1 := ⟨n - 1, by omega⟩
    have t1 : X 96 1 = nI (zN S 1) := by rw [e]; exact n1.1
    have it : fn_Mod_its X (nI t) (8 : Int32) = some (X 96 (30 + 9 * t + 8)) := ze_its (f := 8) (show t < 10 by omega) (by omega)
    obtain ⟨A, hA⟩ : ∃ A : IX, A = zu_st X 103 t (S (30 + 9 * t + 8)) := ⟨_, rfl⟩
    have a0 : A 103 t = S (30 + 9 * t + 8) := by rw [hA, zs_st, if_pos ⟨rfl, rfl⟩]
    obtain ⟨X', e1, p1, p2, p3⟩ := ih (t + 1) m (a + S (30 + 9 * t + 8)) A (by rw [hA, zs_other _ _ _ (by decide)]; exact e) (by omega) (by omega)
    refine ⟨X', ?_, ?_, ?_, ?_⟩
    · show fn_Mod_thanksOf_B4 (fn_Mod_thanksOf_L4 m) _ _ _ = _
      unfold fn_Mod_thanksOf_B4
      rw [t1, if_neg (nI_ge (a := t) (by omega) (by omega)), it, zp_b1, e]
      simp only [zn_ib (show t < 10 by omega) (show 10 < 2 ^ 31 by decide), zp_gd, zn_cl (show t < 2 ^ 31 by omega), zp_nx, ← hA, a0, nI_1]
      exact e1
    · intro u h1 h2
      by_cases q : u = t
      · subst q; rw [p2 u (by omega), a0]
      · exact p1 u (by omega) h2
    · intro u hu
      rw [p2 u (by omega), hA, zs_st, if_neg (by omega)]
    · intro b hb
      rw [p3 b hb, hA, zs_other _ _ _ hb]
def zS_hs (S : Nat → Int32) : Nat → Nat → Int32 → Int32
  | 0, _, a => a
  | d + 1, i, a => zS_hs S d (i + 1) (if S (132 + i) = -1 then a else a + 1)
theorem ze_held {X : IX} {S : Nat → Int32} {o r : Nat} (hr : r = 20 + o) (hL : zI_LI X o S) : ∀ (d i n : Nat) (a : Int32), i + d = 10 → d < n → fn_Land_heldSpots_L4 X n r a (nI i) = some (zS_hs S d i a) := by
  intro d
  induction d with
  | zero =>
    intro i n a hi hd
    obtain ⟨m, rfl⟩ : ∃ m, n = m + 1 := ⟨n - 1, by omega⟩
    obtain rfl : i = 10 := by omega
    rfl
  | succ d ih =>
    intro i n a hi hd
    obtain ⟨m, rfl⟩ : ∃ m, n = m + 1 := ⟨n - 1, by omega⟩
    show fn_Land_heldSpots_B4 X (fn_Land_heldSpots_L4 X m) _ _ _ = some (zS_hs S d (i + 1) _)
    unfold fn_Land_heldSpots_B4 fn_Land_heldSpots_L23
    rw [if_neg (show ¬ (10 : Int32) ≤ nI i from nI_ge (a := i) (b := 10) (by omega) (by omega)), zn_ib (show i < 10 by omega) (by decide), zp_gd, zn_cl (by omega), zL_spot hr hL (by omega)]
    simp only [zp_nx, nI_1, ih (i + 1) m _ (by omega) (by omega)]
    split <;> rfl
theorem zm_held {X : IX} {S : Nat → Int32} (e : X 96 = S) (h : zI_WF S) : ∀ (d i n : Nat) (a : Int32), i + d = 10 → d < n → fn_Mod_held_L4 X n a (nI i) = some (zS_hs S d i a) := by
  have n1 := zW_1 h
  intro d
  induction d with
  | zero =>
    intro i n a hi hd
    obtain ⟨m, rfl⟩ : ∃ m, n = m + 1 := ⟨n - 1, by omega⟩
    obtain rfl : i = 10 := by omega
    rfl
  | succ d ih =>
    intro i n a hi hd
    obtain ⟨m, rfl⟩ : ∃ m, n = m + 1 := ⟨n - 1, by omega⟩
    have e6 : (132 : Int32) + nI i = nI (132 + i) := nI_add 132 i
    show fn_Mod_held_B4 X (fn_Mod_held_L4 X m) _ _ = some (zS_hs S d (i + 1) _)
    unfold fn_Mod_held_B4 fn_Mod_held_L29
    rw [if_neg (show ¬ (10 : Int32) ≤ nI i from nI_ge (a := i) (b := 10) (by omega) (by omega)), e6, zn_ib (show 132 + i < 142 by omega) (by decide), zp_gd, zn_cl (by omega), e]
    simp only [zp_nx, nI_1, ih (i + 1) m _ (by omega) (by omega), Int32.add_zero]
    rcases h.2.2.2.2.2.2.2.2.1 i (by omega) with q | ⟨t, ht, q⟩
    · rw [q, if_pos rfl, if_neg (show ¬ (0 : Int32) ≤ -1 by decide)]
    · rw [q, if_neg (zO_m1 (by omega)), if_pos (show (0 : Int32) ≤ nI t from zn_0le (by omega))]
theorem st_count {X : IX} {Y : LX} (hI : zI_INV X) (a1 : Int32) : ∃ (v : Int32) (X1 : IX) (X2 : IX), fn_Post_count a1 X = some (v, X1) ∧ fn_Mod_count a1 X1 = some (v, X2) ∧ zI_INV X2 := by
  have n10 : ((1 : Int32) = 0) = False := by decide
  obtain ⟨X1, X2, e1, e2, e3, e4⟩ := zI_both2 hI (f := -1000001) 0 (by decide) (by decide)
  have hW := hI.1.2
  have n1 := zW_1 hW
  obtain ⟨g8, g4, g5, g6, g7, g9⟩ := zL_h (r := 20) rfl hI.1.1
  by_cases c0 : a1 = 0
  · subst c0
    exact ⟨X 96 0, X, X, by rw [← g8]; rfl, rfl, hI⟩
  by_cases c1 : a1 = 1
  · subst c1
    exact ⟨X 96 1, X, X, by rw [← g4]; rfl, rfl, hI⟩
  by_cases c2 : a1 = 2
  · subst c2
    exact ⟨X 96 2, X, X, by rw [← g5]; rfl, rfl, hI⟩
  by_cases c3 : a1 = 3
  · subst c3
    have P : fn_Land_sumOf X 20 (8 : Int32) = _ := ze_sum rfl hI.1.1 hW (f := 8) (by omega) (zN (X 96) 1) 0 400 0 (by omega) (by omega)
    obtain ⟨Xb, M, _, _, p3⟩ := zm_thanks hW (zN (X 96) 1) 0 400 0 X rfl (by omega) (by omega)
    have M' : fn_Mod_thanksOf X = _ := M
    refine ⟨zq (fun t => X 96 (30 + 9 * t + 8)) (zN (X 96) 1) 0 0, X, Xb, ?_, ?_, hI.keep (fun r j q => ?_)⟩
    · show zu_b1 (zu_b1 (fn_Land_sumOf X 20 (8 : Int32)) fun v1 => some v1) _ = _
      rw [P]
      rfl
    · show zu_b2 (fn_Mod_thanksOf X) _ = _
      rw [M']
      rfl
    · rw [p3 r (fun e => by subst e; cases q)]
  by_cases c4 : a1 = 4
  · subst c4
    have P : fn_Land_sumOf X 20 (7 : Int32) = _ := ze_sum rfl hI.1.1 hW (f := 7) (by omega) (zN (X 96) 1) 0 400 0 (by omega) (by omega)
    have M : fn_Mod_ills X = _ := zm_ills rfl hW (zN (X 96) 1) 0 400 0 (by omega) (by omega)
    refine ⟨zq (fun t => X 96 (30 + 9 * t + 7)) (zN (X 96) 1) 0 0, X, X, ?_, ?_, hI⟩
    · show zu_b1 (zu_b1 (fn_Land_sumOf X 20 (7 : Int32)) fun v1 => some v1) _ = _
      rw [P]
      rfl
    · show zu_b1 (fn_Mod_ills X) _ = _
      rw [M]
      rfl
  by_cases c5 : a1 = 5
  · subst c5
    exact ⟨X 8 1, X, X, rfl, by rw [← hI.2.2.2.1.1]; rfl, hI⟩
  by_cases c6 : a1 = 6
  · subst c6
    exact ⟨X 96 5, X, X, by rw [← g9]; rfl, rfl, hI⟩
  by_cases c7 : a1 = 7
  · subst c7
    have P : fn_Land_heldSpots X 20 = _ := ze_held rfl hI.1.1 10 0 400 0 (by omega) (by omega)
    have M : fn_Mod_held X = _ := zm_held rfl hW 10 0 400 0 (by omega) (by omega)
    refine ⟨zS_hs (X 96) 10 0 0, X, X, ?_, ?_, hI⟩
    · show zu_b1 (fn_Land_heldSpots X 20) _ = _
      rw [P]
      rfl
    · show zu_b1 (fn_Mod_held X) _ = _
      rw [M]
      rfl
  refine ⟨-1000001, X1, X2, ?_, ?_, e3⟩
  · unfold fn_Post_count
    rw [if_neg c0, if_neg c1, if_neg c2, if_neg c3, if_neg c4, if_neg c5, if_neg c6, if_neg c7, e1]
    rfl
  · unfold fn_Mod_count
    rw [if_neg c0, if_neg c1, if_neg c2, if_neg c3, if_neg c4, if_neg c5, if_neg c6, if_neg c7, e2]
    rfl
