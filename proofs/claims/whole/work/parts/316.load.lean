theorem zW_stuffs {S T : Nat → Int32} (h : zI_WF S) (e : ∀ k, k < 6 ∨ 30 ≤ k → T k = S k) (hs : ∀ c, c < 24 → zI_le (T (6 + c)) 3) : zI_WF T := by
  obtain ⟨h0, h1, h2, h3, h4, h5, h6, h7, h8, h9⟩ := h
  have z : ∀ k, k < 6 ∨ 30 ≤ k → zN T k = zN S k := fun k hk => by unfold zN; rw [e k hk]
  refine ⟨by rw [e 0 (by omega)]; exact h0, by rw [e 1 (by omega)]; exact h1, by rw [e 2 (by omega)]; exact h2, by rw [e 3 (by omega)]; exact h3, by rw [e 4 (by omega)]; exact h4, hs, fun t ht => ?_, fun i hi => ?_, fun q hq => ?_, fun t u ht hu => ?_⟩
  · rw [z 1 (by omega)] at ht
    unfold zI_th
    rw [e _ (by omega), e _ (by omega), e _ (by omega), e _ (by omega), e _ (by omega), e _ (by omega), e _ (by omega), e _ (by omega), e _ (by omega), z _ (by omega), z _ (by omega), z _ (by omega)]
    exact h6 t ht
  · rw [z 2 (by omega)] at hi
    rw [e _ (by omega)]
    exact h7 i hi
  · rw [z 1 (by omega), e _ (by omega)]
    exact h8 q hq
  · rw [z 1 (by omega)] at ht hu
    rw [e _ (by omega), e _ (by omega)]
    exact h9 t u ht hu
/-- how many numbers of a row, from i on and at most d, are stuffs: where that ends -/
def zl (f : Nat → Int32) : Nat → Nat → Nat
  | 0, i => i
  | d + 1, i => if zw 0 (f i) 3 = true then zl f d (i + 1) else i
theorem zl_ge (f : Nat → Int32) : ∀ d i, i ≤ zl f d i ∧ zl f d i ≤ i + d ∧ ∀ j, i ≤ j → j < zl f d i → zw 0 (f j) 3 = true := by
  intro d
  induction d with
  | zero => intro i; exact ⟨Nat.le_refl _, Nat.le_refl _, fun j h1 h2 => by simp only [zl] at h2; omega⟩
  | succ d ih =>
    intro i
    unfold zl
    by_cases h : zw 0 (f i) 3 = true
    · rw [if_pos h]
      obtain ⟨a, b, c⟩ := ih (i + 1)
      refine ⟨by omega, by omega, fun j h1 h2 => ?_⟩
      by_cases e : j = i
      · subst e; exact h
      · exact c j (by omega) h2
    · rw [if_neg h]
      exact ⟨by omega, by omega, fun j h1 h2 => absurd h2 (by omega)⟩
theorem zl_load_P {q m : Nat} (hq : q < 4) (hm : m ≤ 24) : ∀ (d i n : Nat) (X : IX), i + d = m → d < n → ∃ X', fn_Post_load_L50 n (nI q) (nI i) (nI m) X = some (nI (zl (X (12 + q + 4)) d i), X') ∧ (∀ j, i ≤ j → j < zl (X (12 + q + 4)) d i → X' 23 j = X (12 + q + 4) j) ∧ (∀ j, (j < i ∨ zl (X (12 + q + 4)) d i ≤ j) → X' 23 j = X 23 j) ∧ ∀ a, a ≠ 23 → X' a = X a := by
  intro d
  induction d with
  | zero =>
    intro i n X hi hn
    obtain ⟨k, rfl⟩ : ∃ k, n = k + 1 := ⟨n - 1, by omega⟩
    obtain rfl : i = m := by omega
    refine ⟨X, ?_, fun j h1 h2 => absurd h2 (by simp only [zl]; omega), fun _ _ => rfl, fun _ _ => rfl⟩
    show fn_Post_load_B50 _ (nI q) (nI i) (nI i) X = _
    unfold fn_Post_load_B50 fn_Post_load_L100
    rw [if_pos ((nI_leI (by omega) (by omega)).mpr (Nat.le_refl _))]
    rfl
  | succ d ih =>
    intro i n X hi hn
    obtain ⟨k, rfl⟩ : ∃ k, n = k + 1 := ⟨n - 1, by omega⟩
    have hlt : ¬ nI m ≤ nI i := nI_ge (a := i) (b := m) (by omega) (by omega)
    cases h : zw 0 (X (12 + q + 4) i) 3 with
    | false =>
      have ez : zl (X (12 + q + 4)) (d + 1) i = i := by unfold zl; rw [if_neg (by rw [h]; decide)]
      rw [ez]
      refine ⟨X, ?_, fun j h1 h2 => absurd h2 (by omega), fun _ _ => rfl, fun _ _ => rfl⟩
      show fn_Post_load_B50 _ (nI q) (nI i) (nI m) X = _
      unfold fn_Post_load_B50 fn_Post_load_L100
      simp only [if_neg hlt, zn_ib (show q < 4 by omega) (by decide), zn_ib (show i < 40 by omega) (by decide), zp_gd, zn_cl (show q < 2 ^ 31 by omega), zn_cl (show i < 2 ^ 31 by omega), ze_isWithin, h, zp_b1, zt_f, ↓reduceIte]
    | true =>
      have ez : zl (X (12 + q + 4)) (d + 1) i = zl (X (12 + q + 4)) d (i + 1) := by
        conv => lhs; unfold zl
        rw [if_pos h]
      obtain ⟨X', e, p1, p2, p3⟩ := ih (i + 1) k (zu_st X 23 i (X (12 + q + 4) i)) (by omega) (by omega)
      have er : zu_st X 23 i (X (12 + q + 4) i) (12 + q + 4) = X (12 + q + 4) := zs_other _ _ _ (by omega)
      rw [er] at e p1 p2
      obtain ⟨g1, g2, g3⟩ := zl_ge (X (12 + q + 4)) d (i + 1)
      rw [ez]
      refine ⟨X', ?_, ?_, ?_, ?_⟩
      · show fn_Post_load_B50 (fn_Post_load_L50 k) (nI q) (nI i) (nI m) X = _
        unfold fn_Post_load_B50
        simp only [if_neg hlt, zn_ib (show q < 4 by omega) (by decide), zn_ib (show i < 40 by omega) (by decide), zn_ib (show i < 24 by omega) (by decide), zp_gd, zn_cl (show q < 2 ^ 31 by omega), zn_cl (show i < 2 ^ 31 by omega), ze_isWithin, h, zp_b1, zt_t, zp_nx, nI_1]
        rw [if_neg (by decide)]
        exact e
      · intro j h1 h2
        by_cases w : j = i
        · subst w
          rw [p2 j (by omega), zs_st, if_pos ⟨rfl, rfl⟩]
        · exact p1 j (by omega) h2
      · intro j h1
        rw [p2 j (by omega), zs_st, if_neg (by omega)]
      · intro a ha
        rw [p3 a ha, zs_other _ _ _ ha]
theorem zl_load_M {q m N : Nat} (hq : q < 4) (hN : N ≤ 40) (hm : m = min 24 N) : ∀ (d i n : Nat) (X : IX), X 106 q = nI N → i + d = m → d < n → ∃ X', fn_Mod_load_L18 n (nI q) (nI i) X = some (nI (zl (fun j => X 107 (40 * q + j)) d i), X') ∧ (∀ j, i ≤ j → j < zl (fun j => X 107 (40 * q + j)) d i → X' 96 (6 + j) = X 107 (40 * q + j)) ∧ (∀ k, (k < 6 + i ∨ 6 + zl (fun j => X 107 (40 * q + j)) d i ≤ k) → X' 96 k = X 96 k) ∧ ∀ a, a ≠ 96 → X' a = X a := by
  intro d
  induction d with
  | zero =>
    intro i n X hX hi hn
    obtain ⟨k, rfl⟩ : ∃ k, n = k + 1 := ⟨n - 1, by omega⟩
    refine ⟨X, ?_, fun j h1 h2 => absurd h2 (by simp only [zl]; omega), fun _ _ => rfl, fun _ _ => rfl⟩
    show fn_Mod_load_B18 _ (nI q) (nI i) X = _
    unfold fn_Mod_load_B18 fn_Mod_load_L82
    rw [zn_ib (show q < 4 by omega) (by decide), zp_gd, zn_cl (by omega), hX]
    by_cases hNi : N ≤ i
    · rw [if_pos ((nI_leI (by omega) (by omega)).mpr hNi)]
      rfl
    · rw [if_neg (nI_ge (by omega) (by omega)), if_pos (show (24 : Int32) ≤ nI i from (nI_leI (a := 24) (b := i) (by omega) (by omega)).mpr (by omega))]
      rfl
  | succ d ih =>
    intro i n X hX hi hn
    obtain ⟨k, rfl⟩ : ∃ k, n = k + 1 := ⟨n - 1, by omega⟩
    have hlt : ¬ nI N ≤ nI i := nI_ge (a := i) (b := N) (by omega) (by omega)
    have hlt2 : ¬ (24 : Int32) ≤ nI i := nI_ge (a := i) (b := 24) (by omega) (by omega)
    have e40 : ((40 : Int32) * nI q) + nI i = nI (40 * q + i) := by rw [show (40 : Int32) = nI 40 from rfl, pk_mul, nI_add]
    have e6 : (6 : Int32) + nI i = nI (6 + i) := nI_add 6 i
    cases h : zw 0 (X 107 (40 * q + i)) 3 with
    | false =>
      have ez : zl (fun j => X 107 (40 * q + j)) (d + 1) i = i := by unfold zl; rw [if_neg (by rw [h]; decide)]
      rw [ez]
      refine ⟨X, ?_, fun j h1 h2 => absurd h2 (by omega), fun _ _ => rfl, fun _ _ => rfl⟩
      show fn_Mod_load_B18 _ (nI q) (nI i) X = _
      unfold fn_Mod_load_B18 fn_Mod_load_L82
      simp only [zn_ib (show q < 4 by omega) (by decide), zp_gd, zn_cl (show q < 2 ^ 31 by omega), hX, if_neg hlt, if_neg hlt2, e40, zn_ib (show 40 * q + i < 160 by omega) (by decide), zn_cl (show 40 * q + i < 2 ^ 31 by omega), ze_inN (X 107 (40 * q + i)) 0 3 0 3 rfl rfl, h, zp_b1, zt_f, ↓reduceIte]
    | true =>
      have ez : zl (fun j => X 107 (40 * q + j)) (d + 1) i = zl (fun j => X 107 (40 * q + j)) d (i + 1) := by
        conv => lhs; unfold zl
        rw [if_pos h]
      obtain ⟨X', e, p1, p2, p3⟩ := ih (i + 1) k (zu_st X 96 (6 + i) (X 107 (40 * q + i))) (by rw [zs_other _ _ _ (by decide)]; exact hX) (by omega) (by omega)
      have er : zu_st X 96 (6 + i) (X 107 (40 * q + i)) 107 = X 107 := zs_other _ _ _ (by decide)
      rw [er] at e p1 p2
      obtain ⟨g1, g2, g3⟩ := zl_ge (fun j => X 107 (40 * q + j)) d (i + 1)
      rw [ez]
      refine ⟨X', ?_, ?_, ?_, ?_⟩
      · show fn_Mod_load_B18 (fn_Mod_load_L18 k) (nI q) (nI i) X = _
        unfold fn_Mod_load_B18
        simp only [zn_ib (show q < 4 by omega) (by decide), zp_gd, zn_cl (show q < 2 ^ 31 by omega), hX, if_neg hlt, if_neg hlt2, e40, e6, zn_ib (show 40 * q + i < 160 by omega) (by decide), zn_ib (show 6 + i < 142 by omega) (by decide), zn_cl (show 40 * q + i < 2 ^ 31 by omega), zn_cl (show 6 + i < 2 ^ 31 by omega), ze_inN (X 107 (40 * q + i)) 0 3 0 3 rfl rfl, h, zp_b1, zt_t, zp_nx, nI_1]
        rw [if_neg (by decide)]
        exact e
      · intro j h1 h2
        by_cases w : j = i
        · subst w
          rw [p2 _ (by omega), zs_st, if_pos ⟨rfl, rfl⟩]
        · rw [p1 j (by omega) h2]
      · intro w h1
        rw [p2 w (by omega), zs_st, if_neg (by omega)]
      · intro a ha
        rw [p3 a ha, zs_other _ _ _ ha]
theorem zl_cg {f g : Nat → Int32} : ∀ d i, (∀ j, i ≤ j → j < i + d → f j = g j) → zl f d i = zl g d i := by
  intro d
  induction d with
  | zero => intro i _; rfl
  | succ d ih =>
    intro i h
    unfold zl
    rw [h i (by omega) (by omega), ih (i + 1) (fun j h1 h2 => h j (by omega) (by omega))]
theorem st_load {X : IX} {Y : LX} (hI : zI_INV X) (a1 : Int32) : ∃ (v : Int32) (X1 : IX) (X2 : IX), fn_Post_load a1 X = some (v, X1) ∧ fn_Mod_load a1 X1 = some (v, X2) ∧ zI_INV X2 := by
  obtain ⟨X1, X2, e1, e2, e3, e4⟩ := zI_both2 hI (f := -1000001) 0 (by decide) (by decide)
  obtain ⟨X1s, X2s, s1, s2, s3, s4⟩ := zI_both2 hI (f := -1000006) 5 (by decide) (by decide)
  have n10 : ((1 : Int32) = 0) = False := by decide
  have nb : ((-1000001 : Int32) = 0) = False := by decide
  have nm : ((-1000006 : Int32) = 0) = False := by decide
  cases hq : zw 0 a1 3 with
  | false =>
    refine ⟨-1000001, X1, X2, ?_, ?_, e3⟩
    · simp only [fn_Post_load, ze_isSheet, hq, zp_b1, zp_b2, zt_f, e1, ↓reduceIte]
    · simp only [fn_Mod_load, ze_wrongF X1 hq, zp_b1, zp_b2, e2, nb, ↓reduceIte]
  | true =>
    obtain ⟨q, hq1, rfl⟩ := zw_n (m := 3) (by decide) hq
    obtain ⟨g1, g2, g3, g4, g5⟩ := hI.2.2.2.2 q (by omega)
    by_cases hz : X (12 + q) 1 = 0
    · refine ⟨-1000006, X1s, X2s, ?_, ?_, s3⟩
      · simp only [fn_Post_load, ze_isSheet, hq, zp_b1, zp_b2, zt_t, s1, n10, ↓reduceIte, zn_ib (show q < 4 by omega) (by decide), zp_gd, zn_cl (show q < 2 ^ 31 by omega), ze_missing, decide_eq_true hz]
      · have hz2 : X1s 105 q = 0 := by rw [s4 105 (by decide), g1, hz]
        simp only [fn_Mod_load, ze_wrong X1s (show q < 4 by omega), if_pos hz2, zp_b1, zp_b2, s2, nm, ↓reduceIte]
    · obtain ⟨N, hN, eN⟩ := g4
      obtain ⟨m, em⟩ : ∃ m, m = min 24 N := ⟨_, rfl⟩
      obtain ⟨Xa, ea, pa1, pa2, pa3⟩ := zl_load_P (q := q) (m := m) (by omega) (by omega) m 0 400 X (by omega) (by omega)
      obtain ⟨Xb, eb, pb1, pb2, pb3⟩ := zl_load_M (q := q) (m := m) (N := N) (by omega) hN em m 0 400 Xa (by rw [pa3 106 (by decide), g2, eN]) (by omega) (by omega)
      have r107 : Xa 107 = X 107 := pa3 107 (by decide)
      have hg : ∀ j, j < m → (fun j => Xa 107 (40 * q + j)) j = X (12 + q + 4) j := by
        intro j hj
        show Xa 107 (40 * q + j) = _
        rw [r107, g5 j (by omega), show 16 + q = 12 + q + 4 by omega]
      have ec : zl (fun j => Xa 107 (40 * q + j)) m 0 = zl (X (12 + q + 4)) m 0 := zl_cg m 0 (fun j _ hj => hg j (by omega))
      rw [ec] at eb pb1 pb2
      obtain ⟨c, hc⟩ : ∃ c, c = zl (X (12 + q + 4)) m 0 := ⟨_, rfl⟩
      obtain ⟨l1, l2, l3⟩ := zl_ge (X (12 + q + 4)) m 0
      rw [← hc] at ea eb pa1 pa2 pb1 pb2 l1 l2 l3
      refine ⟨nI c, Xa, Xb, ?_, ?_, ?_⟩
      · have emin : (if (24 : Int32) < nI N then (24 : Int32) else nI N) = nI m := by
          by_cases h : 24 < N
          · rw [if_pos (show (24 : Int32) < nI N from (nI_ltI (a := 24) (b := N) (by omega) (by omega)).mpr h), em, Nat.min_eq_left (by omega)]
            rfl
          · rw [if_neg (show ¬ (24 : Int32) < nI N from nI_nlt (a := 24) (b := N) (by omega) (by omega)), em, Nat.min_eq_right (by omega)]
        simp only [fn_Post_load, ze_isSheet, hq, zp_b1, zt_t, n10, ↓reduceIte, zn_ib (show q < 4 by omega) (by decide), zp_gd, zn_cl (show q < 2 ^ 31 by omega), ze_missing, decide_eq_false hz, zt_f, zp_nx, eN, emin]
        exact ea
      · have hz2 : ¬ Xa 105 q = 0 := by rw [pa3 105 (by decide), g1]; exact hz
        simp only [fn_Mod_load, ze_wrong Xa (show q < 4 by omega), if_neg hz2, zp_b1, ↓reduceIte]
        exact eb
      · obtain ⟨h1, h2, h3, h4, h5⟩ := hI
        have row : ∀ r, r ≠ 23 → r ≠ 96 → Xb r = X r := fun r b1 b2 => by rw [pb3 r b2, pa3 r b1]
        have keep : ∀ (P : Nat → Nat → Bool), (∀ r j, P r j = true → r ≠ 23 ∧ r ≠ 96) → zA P X Xb := fun P hP r j hr => by
          obtain ⟨b1, b2⟩ := hP r j hr
          rw [row r b1 b2]
        have sIn : ∀ j, j < c → Xb 96 (6 + j) = X (12 + q + 4) j := fun j hj => by rw [pb1 j (by omega) hj]; exact hg j (by omega)
        have sOut : ∀ k, (k < 6 ∨ 6 + c ≤ k) → Xb 96 k = X 96 k := fun k hk => by rw [pb2 k (by omega), pa3 96 (by decide)]
        refine ⟨⟨fun k hk => ?_, ?_⟩, h2.ag (keep _ ?_), h3.ag (keep _ ?_), h4.ag (keep _ ?_), h5.ag (keep _ ?_)⟩
        · by_cases hin : 6 ≤ k ∧ k < 30
          · obtain ⟨j, rfl⟩ : ∃ j, k = 6 + j := ⟨k - 6, by omega⟩
            rw [(zL_p6 0 j (by omega)).1, (zL_p6 0 j (by omega)).2, pb3 _ (by decide)]
            show Xa 23 j = _
            by_cases hj : j < c
            · rw [sIn j hj, pa1 j (by omega) hj]
            · rw [sOut _ (by omega), pa2 j (by omega)]
              exact zL_stuff (r := 20) rfl h1.1 (by omega)
          · have hp : zI_pr 0 k ≠ 23 ∧ zI_pr 0 k ≠ 96 := by
              have key : ∀ k : Fin 142, ¬ (6 ≤ k.val ∧ k.val < 30) → zI_pr 0 k.val ≠ 23 ∧ zI_pr 0 k.val ≠ 96 := by decide +kernel
              exact key ⟨k, hk⟩ hin
            rw [row _ hp.1 hp.2, sOut k (by omega)]
            exact h1.1 k hk
        · refine zW_stuffs h1.2 (fun k hk => sOut k (by omega)) (fun j hj => ?_)
          by_cases hjc : j < c
          · rw [sIn j hjc]
            exact zw_n (m := 3) (by decide) (l3 j (by omega) hjc)
          · rw [sOut _ (by omega)]
            exact h1.2.2.2.2.2.2.1 j hj
        · intro r j hr
          unfold zA_2 at hr
          simp only [Bool.or_eq_true, Bool.and_eq_true, beq_iff_eq, decide_eq_true_eq] at hr
          omega
        · intro r j hr
          unfold zA_3 at hr
          simp only [Bool.or_eq_true, beq_iff_eq] at hr
          omega
        · intro r j hr
          unfold zA_4 at hr
          simp only [Bool.or_eq_true, Bool.and_eq_true, beq_iff_eq] at hr
          omega
        · intro r j hr
          unfold zA_5 at hr
          simp only [Bool.or_eq_true, Bool.and_eq_true, beq_iff_eq, decide_eq_true_eq] at hr
          omega
