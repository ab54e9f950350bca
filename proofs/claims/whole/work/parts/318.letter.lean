theorem zW_n2 {S : Nat → Int32} (h : zI_WF S) {n : Nat} (hn : n ≤ 12) (hl : ∀ i, i < n → zI_le (S (120 + i)) 23) : zI_WF (upd S 2 (nI n)) := by
  obtain ⟨h0, h1, h2, h3, h4, h5, h6, h7, h8, h9⟩ := h
  have e : ∀ i, i ≠ 2 → upd S 2 (nI n) i = S i := fun i hi => pk_un hi
  have eN : ∀ i, i ≠ 2 → zN (upd S 2 (nI n)) i = zN S i := fun i hi => by unfold zN; rw [e i hi]
  refine ⟨by rw [e 0 (by omega)]; exact h0, by rw [e 1 (by omega)]; exact h1, by rw [pk_us]; exact ⟨n, hn, rfl⟩, by rw [e 3 (by omega)]; exact h3, by rw [e 4 (by omega)]; exact h4, fun i hi => by rw [e _ (by omega)]; exact h5 i hi, fun t ht => ?_, fun i hi => ?_, fun q hq => ?_, fun t u ht hu => ?_⟩
  · rw [eN 1 (by omega)] at ht
    unfold zI_th
    rw [e _ (by omega), e _ (by omega), e _ (by omega), e _ (by omega), e _ (by omega), e _ (by omega), e _ (by omega), e _ (by omega), e _ (by omega), eN _ (by omega), eN _ (by omega), eN _ (by omega)]
    exact h6 t ht
  · have : zN (upd S 2 (nI n)) 2 = n := by unfold zN; rw [pk_us, nI_clamp (by omega)]
    rw [this] at hi
    rw [e _ (by omega)]
    exact hl i hi
  · rw [eN 1 (by omega), e _ (by omega)]; exact h8 q hq
  · rw [eN 1 (by omega)] at ht hu
    rw [e _ (by omega), e _ (by omega)]
    exact h9 t u ht hu
theorem st_letter {X : IX} {Y : LX} (hI : zI_INV X) (a1 : Int32) : ∃ (v : Int32) (X1 : IX) (X2 : IX), fn_Post_letter a1 X = some (v, X1) ∧ fn_Mod_letter a1 X1 = some (v, X2) ∧ zI_INV X2 := by
  obtain ⟨X1, X2, e1, e2, e3, e4⟩ := zI_both2 hI (f := -1000001) 0 (by decide) (by decide)
  obtain ⟨X1s, X2s, s1, s2, s3, s4⟩ := zI_both2 hI (f := -1000002) 1 (by decide) (by decide)
  have n10 : ((1 : Int32) = 0) = False := by decide
  obtain ⟨n1, hn⟩ := zI_2 hI
  obtain ⟨n, en⟩ : ∃ n, n = zN (X 96) 2 := ⟨_, rfl⟩
  rw [← en] at n1 hn
  have t1 : X 20 5 = nI n := by rw [(zL_h rfl hI.1.1).2.2.1, n1]
  cases hc : zw 0 a1 23 with
  | false =>
    refine ⟨-1000001, X1, X2, ?_, ?_, e3⟩
    · simp only [fn_Post_letter, ze_isCell, hc, zp_b1, zp_b2, zp_nx, zt_f, zt_t, e1, ↓reduceIte]
      try rfl
    · simp only [fn_Mod_letter, ze_mCell, hc, zp_b1, zp_b2, zp_nx, zt_f, zt_t, e2, ↓reduceIte]
      try rfl
  | true =>
    obtain ⟨c, hc1, rfl⟩ := zw_n (m := 23) (by decide) hc
    by_cases h12 : n = 12
    · subst h12
      refine ⟨-1000002, X1s, X2s, ?_, ?_, s3⟩
      · simp only [fn_Post_letter, fn_Post_letter_L38, fn_Land_addLetter, ze_isCell, hc, zp_b1, zp_b2, zt_t, n10, ↓reduceIte, t1, if_neg (show ¬ nI 12 < (12 : Int32) by decide), s1]
      · have m1 : X1s 96 2 = 12 := by rw [s4 96 (by decide), n1]; rfl
        simp only [fn_Mod_letter, ze_mCell, hc, zp_b1, zp_b2, zt_t, n10, ↓reduceIte, if_pos m1, s2]
    · have hlt : nI n < (12 : Int32) := (nI_ltI (a := n) (b := 12) (by omega) (by omega)).mpr (by omega)
      have hp := zL_p120 0 n (by omega)
      have e1' : nI (n + 1) - 1 = nI n := nI_pred n
      obtain ⟨Xa, ea⟩ : ∃ Xa : IX, Xa = zu_st (zu_st X (20 + 9) n (nI c)) 20 5 (nI (n + 1)) := ⟨_, rfl⟩
      have a96 : Xa 96 = X 96 := by rw [ea, zs_other _ _ _ (by decide), zs_other _ _ _ (by decide)]
      have a5 : Xa 20 5 = nI (n + 1) := by rw [ea, zs_st, if_pos ⟨rfl, rfl⟩]
      refine ⟨nI n, Xa, zu_st (zu_st Xa 96 (120 + n) (nI c)) 96 2 (nI (n + 1)), ?_, ?_, ?_⟩
      · have ead : fn_Land_addLetter 20 (nI c) X = some (nI n, Xa) := by
          unfold fn_Land_addLetter
          have q5 : zu_st X (20 + 9) n (nI c) 20 5 = nI n := by rw [zs_other _ _ _ (by decide)]; exact t1
          simp only [t1, if_pos hlt, zn_ib (show n < 12 by omega) (by decide), zp_gd, zp_nx, zn_cl (show n < 2 ^ 31 by omega), q5, nI_1, ← ea, a5, e1']
        have nm : ¬ nI n = (-1 : Int32) := by
          intro q
          have := congrArg Int32.toInt q
          rw [nI_toInt (by omega)] at this
          have e1 : (-1 : Int32).toInt = -1 := rfl
          omega
        simp only [fn_Post_letter, fn_Post_letter_L38, ze_isCell, hc, zp_b1, zp_b2, zt_t, n10, ↓reduceIte, ead, if_neg nm]
      · have e6 : (120 : Int32) + nI n = nI (120 + n) := nI_add 120 n
        have m1 : Xa 96 2 = nI n := by rw [a96, n1]
        have m2 : ¬ nI n = (12 : Int32) := fun q => h12 ((nI_eq (a := n) (b := 12) (by omega) (by omega)).mp q)
        have m3 : zu_st Xa 96 (120 + n) (nI c) 96 2 = nI n := by rw [zs_st, if_neg (by omega)]; exact m1
        have m4 : zu_st (zu_st Xa 96 (120 + n) (nI c)) 96 2 (nI (n + 1)) 96 2 = nI (n + 1) := by rw [zs_st, if_pos ⟨rfl, rfl⟩]
        simp only [fn_Mod_letter, ze_mCell, hc, zp_b1, zt_t, n10, ↓reduceIte, m1, if_neg m2, e6, zn_ib (show 120 + n < 142 by omega) (by decide), zp_gd, zp_nx, zn_cl (show 120 + n < 2 ^ 31 by omega), m3, nI_1, m4, e1']
      · have q1 := zI_put hI (k := 120 + n) (v := nI c) (by omega) (zW_upd hI.1.2 (by omega) (by omega) ((zk_let (by omega)).mpr (fun _ => ⟨c, hc1, rfl⟩)) (zd_no hI.1.2 (by omega) (fun u _ => by omega)))
        rw [hp.1, hp.2] at q1
        have r96 : zu_st (zu_st X (20 + 0 + 9) n (nI c)) 96 (120 + n) (nI c) 96 = upd (X 96) (120 + n) (nI c) := by rw [zs_row, zs_other _ _ _ (by decide)]
        have q2 := zI_put q1 (k := 2) (v := nI (n + 1)) (by omega) (by
          refine zW_n2 q1.1.2 (by omega) (fun i hi => ?_)
          rw [r96]
          by_cases e : i = n
          · subst e; rw [pk_us]; exact ⟨c, hc1, rfl⟩
          · rw [pk_un (by omega)]
            exact hI.1.2.2.2.2.2.2.2.2.1 i (by rw [← en]; omega))
        have e3' : zu_st (zu_st Xa 96 (120 + n) (nI c)) 96 2 (nI (n + 1)) = zu_st (zu_st (zu_st (zu_st X (20 + 0 + 9) n (nI c)) 96 (120 + n) (nI c)) (zI_pr 0 2) (zI_ps 2) (nI (n + 1))) 96 2 (nI (n + 1)) := by
          rw [ea]
          show zu_st (zu_st (zu_st (zu_st X 29 n (nI c)) 20 5 (nI (n + 1))) 96 (120 + n) (nI c)) 96 2 (nI (n + 1)) = zu_st (zu_st (zu_st (zu_st X 29 n (nI c)) 96 (120 + n) (nI c)) 20 5 (nI (n + 1))) 96 2 (nI (n + 1))
          rw [zs_comm (zu_st X 29 n (nI c)) (a := 20) (b := 96) 5 (120 + n) (nI (n + 1)) (nI c) (by decide)]
        rw [e3']
        exact q2
/-! taking a letter: those behind it come forward -/
theorem zl_take_P {m : Nat} (hm : m < 12) (v : Int32) : ∀ (d i n : Nat) (X : IX), X 20 5 = nI m → i + d = m → d < n → ∃ X', fn_Post_take_L40 n v (nI i) X = some (v, X') ∧ (∀ j, i ≤ j → j < m → X' 29 j = X 29 (j + 1)) ∧ (∀ j, (j < i ∨ m ≤ j) → X' 29 j = X 29 j) ∧ ∀ a, a ≠ 29 → X' a = X a := by
  intro d
  induction d with
  | zero =>
    intro i n X hX hi hn
    obtain ⟨k, rfl⟩ : ∃ k, n = k + 1 := ⟨n - 1, by omega⟩
    obtain rfl : i = m := by omega
    refine ⟨X, ?_, fun j h1 h2 => absurd h2 (by omega), fun _ _ => rfl, fun _ _ => rfl⟩
    show fn_Post_take_B40 _ v (nI i) X = _
    unfold fn_Post_take_B40
    rw [hX, if_pos ((nI_leI (by omega) (by omega)).mpr (Nat.le_refl _))]
  | succ d ih =>
    intro i n X hX hi hn
    obtain ⟨k, rfl⟩ : ∃ k, n = k + 1 := ⟨n - 1, by omega⟩
    have hlt : ¬ nI m ≤ nI i := nI_ge (a := i) (b := m) (by omega) (by omega)
    obtain ⟨X', e, p1, p2, p3⟩ := ih (i + 1) k (zu_st X (20 + 9) i (X (20 + 9) (i + 1))) (by rw [zs_other _ _ _ (by decide)]; exact hX) (by omega) (by omega)
    refine ⟨X', ?_, ?_, ?_, ?_⟩
    · show fn_Post_take_B40 (fn_Post_take_L40 k) v (nI i) X = _
      unfold fn_Post_take_B40
      simp only [hX, if_neg hlt, nI_1, zn_ib (show i + 1 < 12 by omega) (by decide), zn_ib (show i < 12 by omega) (by decide), zp_gd, zp_nx, zn_cl (show i + 1 < 2 ^ 31 by omega), zn_cl (show i < 2 ^ 31 by omega)]
      exact e
    · intro j h1 h2
      by_cases w : j = i
      · subst w
        rw [p2 j (by omega)]
        exact zs_st X 29 j _ 29 j ▸ if_pos ⟨rfl, rfl⟩
      · rw [p1 j (by omega) h2]
        show zu_st X 29 i _ 29 (j + 1) = _
        rw [zs_st, if_neg (by omega)]
    · intro j h1
      rw [p2 j (by omega)]
      show zu_st X 29 i _ 29 j = _
      rw [zs_st, if_neg (by omega)]
    · intro a ha
      rw [p3 a ha, zs_other _ _ _ ha]
theorem zl_take_M {m : Nat} (hm : m < 12) (v : Int32) : ∀ (d i n : Nat) (X : IX), X 96 2 = nI m → i + d = m → d < n → ∃ X', fn_Mod_take_L37 n v (nI i) X = some (v, X') ∧ (∀ j, i ≤ j → j < m → X' 96 (120 + j) = X 96 (120 + j + 1)) ∧ (∀ k, (k < 120 + i ∨ 120 + m ≤ k) → X' 96 k = X 96 k) ∧ ∀ a, a ≠ 96 → X' a = X a := by
  intro d
  induction d with
  | zero =>
    intro i n X hX hi hn
    obtain ⟨k, rfl⟩ : ∃ k, n = k + 1 := ⟨n - 1, by omega⟩
    obtain rfl : i = m := by omega
    refine ⟨X, ?_, fun j h1 h2 => absurd h2 (by omega), fun _ _ => rfl, fun _ _ => rfl⟩
    show fn_Mod_take_B37 _ v (nI i) X = _
    unfold fn_Mod_take_B37
    rw [hX, if_pos ((nI_leI (by omega) (by omega)).mpr (Nat.le_refl _))]
  | succ d ih =>
    intro i n X hX hi hn
    obtain ⟨k, rfl⟩ : ∃ k, n = k + 1 := ⟨n - 1, by omega⟩
    have hlt : ¬ nI m ≤ nI i := nI_ge (a := i) (b := m) (by omega) (by omega)
    have e6 : (120 : Int32) + nI i = nI (120 + i) := nI_add 120 i
    obtain ⟨X', e, p1, p2, p3⟩ := ih (i + 1) k (zu_st X 96 (120 + i) (X 96 (120 + i + 1))) (by rw [zs_st, if_neg (by omega)]; exact hX) (by omega) (by omega)
    refine ⟨X', ?_, ?_, ?_, ?_⟩
    · show fn_Mod_take_B37 (fn_Mod_take_L37 k) v (nI i) X = _
      unfold fn_Mod_take_B37
      simp only [hX, if_neg hlt, e6, nI_1, zn_ib (show 120 + i + 1 < 142 by omega) (by decide), zn_ib (show 120 + i < 142 by omega) (by decide), zp_gd, zp_nx, zn_cl (show 120 + i + 1 < 2 ^ 31 by omega), zn_cl (show 120 + i < 2 ^ 31 by omega)]
      exact e
    · intro j h1 h2
      by_cases w : j = i
      · subst w
        rw [p2 _ (by omega), zs_st, if_pos ⟨rfl, rfl⟩]
      · rw [p1 j (by omega) h2, zs_st, if_neg (by omega)]
    · intro w h1
      rw [p2 w (by omega), zs_st, if_neg (by omega)]
    · intro a ha
      rw [p3 a ha, zs_other _ _ _ ha]
theorem zI_C1.cg {X' : IX} (hX : ∀ k, k < 142 → X' (zI_pr 0 k) (zI_ps k) = X' 96 k) (hW : zI_WF (X' 96)) : zI_C1 X' := ⟨hX, hW⟩
theorem zW_letters {S T : Nat → Int32} (h : zI_WF S) {n : Nat} (hn : n ≤ 12) (e2 : T 2 = nI n) (e : ∀ k, k ≠ 2 → (k < 120 ∨ 132 ≤ k) → T k = S k) (hl : ∀ i, i < n → zI_le (T (120 + i)) 23) : zI_WF T := by
  obtain ⟨h0, h1, h2, h3, h4, h5, h6, h7, h8, h9⟩ := h
  have n1 := (h1.n (by omega)).2
  have z : ∀ k, k ≠ 2 → (k < 120 ∨ 132 ≤ k) → zN T k = zN S k := fun k hk hk2 => by unfold zN; rw [e k hk hk2]
  refine ⟨by rw [e 0 (by omega) (by omega)]; exact h0, by rw [e 1 (by omega) (by omega)]; exact h1, by rw [e2]; exact ⟨n, hn, rfl⟩, by rw [e 3 (by omega) (by omega)]; exact h3, by rw [e 4 (by omega) (by omega)]; exact h4, fun i hi => by rw [e _ (by omega) (by omega)]; exact h5 i hi, fun t ht => ?_, fun i hi => ?_, fun q hq => ?_, fun t u ht hu => ?_⟩
  · rw [z 1 (by omega) (by omega)] at ht
    have h10 : t < 10 := by unfold zN at ht; omega
    unfold zI_th
    rw [e _ (by omega) (by omega), e _ (by omega) (by omega), e _ (by omega) (by omega), e _ (by omega) (by omega), e _ (by omega) (by omega), e _ (by omega) (by omega), e _ (by omega) (by omega), e _ (by omega) (by omega), e _ (by omega) (by omega), z _ (by omega) (by omega), z _ (by omega) (by omega), z _ (by omega) (by omega)]
    exact h6 t ht
  · have : zN T 2 = n := by unfold zN; rw [e2, nI_clamp (by omega)]
    rw [this] at hi
    exact hl i hi
  · rw [z 1 (by omega) (by omega), e _ (by omega) (by omega)]; exact h8 q hq
  · rw [z 1 (by omega) (by omega)] at ht hu
    have a1 : t < 10 := by unfold zN at ht; omega
    have a2 : u < 10 := by unfold zN at hu; omega
    rw [e _ (by omega) (by omega), e _ (by omega) (by omega)]
    exact h9 t u ht hu
theorem st_take {X : IX} {Y : LX} (hI : zI_INV X) (a1 : Int32) : ∃ (v : Int32) (X1 : IX) (X2 : IX), fn_Post_take a1 X = some (v, X1) ∧ fn_Mod_take a1 X1 = some (v, X2) ∧ zI_INV X2 := by
  obtain ⟨X1, X2, e1, e2, e3, e4⟩ := zI_both2 hI (f := -1000001) 0 (by decide) (by decide)
  obtain ⟨n1, hn⟩ := zI_2 hI
  obtain ⟨n, en⟩ : ∃ n, n = zN (X 96) 2 := ⟨_, rfl⟩
  rw [← en] at n1 hn
  have n10 : ((1 : Int32) = 0) = False := by decide
  have t1 : X 20 5 = nI n := by rw [(zL_h rfl hI.1.1).2.2.1, n1]
  have m1 : X1 96 2 = nI n := by rw [e4 96 (by decide), n1]
  cases ht : zh n a1 with
  | false =>
    refine ⟨-1000001, X1, X2, ?_, ?_, e3⟩
    · simp only [fn_Post_take, ze_isLetter t1 hn, ht, zp_b1, zp_b2, zp_nx, zt_f, zt_t, e1, ↓reduceIte]
      try rfl
    · simp only [fn_Mod_take, ze_mLetter m1 hn, ht, zp_b1, zp_b2, zp_nx, zt_f, zt_t, e2, ↓reduceIte]
      try rfl
  | true =>
    obtain ⟨t, ht1, rfl⟩ := zh_t (by omega) ht
    obtain ⟨m, rfl⟩ : ∃ m, n = m + 1 := ⟨n - 1, by omega⟩
    have ep : nI (m + 1) - 1 = nI m := nI_pred m
    have e6 : (120 : Int32) + nI t = nI (120 + t) := nI_add 120 t
    have l0 := hI.1.1
    obtain ⟨Xa, ea, pa1, pa2, pa3⟩ := zl_take_P (m := m) (by omega) (X 96 (120 + t)) (m - t) t 400 (zu_st X 20 5 (nI m)) (by rw [zs_st, if_pos ⟨rfl, rfl⟩]) (by omega) (by omega)
    have a96 : Xa 96 = X 96 := by rw [pa3 96 (by decide), zs_other _ _ _ (by decide)]
    obtain ⟨Xb, eb, pb1, pb2, pb3⟩ := zl_take_M (m := m) (by omega) (X 96 (120 + t)) (m - t) t 400 (zu_st Xa 96 2 (nI m)) (by rw [zs_st, if_pos ⟨rfl, rfl⟩]) (by omega) (by omega)
    have s2 : Xb 96 2 = nI m := by rw [pb2 2 (by omega), zs_st, if_pos ⟨rfl, rfl⟩]
    have sIn : ∀ j, t ≤ j → j < m → Xb 96 (120 + j) = X 96 (120 + (j + 1)) := fun j h1 h2 => by rw [pb1 j h1 h2, zs_st, if_neg (by omega), a96]; rfl
    have sOut : ∀ k, k ≠ 2 → (k < 120 + t ∨ 120 + m ≤ k) → Xb 96 k = X 96 k := fun k hk h => by rw [pb2 k h, zs_st, if_neg (by omega), a96]
    refine ⟨X 96 (120 + t), Xa, Xb, ?_, ?_, ?_⟩
    · simp only [fn_Post_take, ze_isLetter t1 hn, ht, zp_b1, zt_t, n10, ↓reduceIte, zn_ib (show t < 12 by omega) (by decide), zp_gd, zp_nx, zn_cl (show t < 2 ^ 31 by omega), t1, ep, zL_let rfl l0 (show t < 12 by omega)]
      exact ea
    · have q1 : Xa 96 2 = nI (m + 1) := by rw [a96, n1]
      simp only [fn_Mod_take, ze_mLetter q1 hn, ht, zp_b1, zt_t, n10, ↓reduceIte, e6, zn_ib (show 120 + t < 142 by omega) (by decide), zp_gd, zp_nx, zn_cl (show 120 + t < 2 ^ 31 by omega), q1, ep]
      rw [a96]
      exact eb
    · obtain ⟨h1, h2, h3, h4, h5⟩ := hI
      have row : ∀ r, r ≠ 96 → r ≠ 29 → r ≠ 20 → Xb r = X r := fun r b1 b2 b3 => by rw [pb3 r b1, zs_other _ _ _ b1, pa3 r b2, zs_other _ _ _ b3]
      have keep : ∀ (P : Nat → Nat → Bool), (∀ r j, P r j = true → r ≠ 96 ∧ r ≠ 29 ∧ r ≠ 20) → zA P X Xb := fun P hP r j hr => by
        obtain ⟨b1, b2, b3⟩ := hP r j hr
        rw [row r b1 b2 b3]
      refine ⟨zI_C1.cg (fun k hk => ?_) ?_, h2.ag (keep _ ?_), h3.ag (keep _ ?_), h4.ag (keep _ ?_), h5.ag (keep _ ?_)⟩
      · by_cases k2 : k = 2
        · subst k2
          rw [s2]
          show Xb 20 5 = _
          rw [pb3 20 (by decide), zs_other _ _ _ (by decide), pa3 20 (by decide), zs_st, if_pos ⟨rfl, rfl⟩]
        · by_cases kl : 120 ≤ k ∧ k < 132
          · obtain ⟨j, rfl⟩ : ∃ j, k = 120 + j := ⟨k - 120, by omega⟩
            rw [(zL_p120 0 j (by omega)).1, (zL_p120 0 j (by omega)).2]
            show Xb 29 j = _
            rw [pb3 29 (by decide), zs_other _ _ _ (by decide)]
            by_cases hj : t ≤ j ∧ j < m
            · rw [sIn j hj.1 hj.2, pa1 j hj.1 hj.2, zs_other _ _ _ (by decide)]
              exact zL_let (r := 20) rfl l0 (by omega)
            · rw [sOut _ (by omega) (by omega), pa2 j (by omega), zs_other _ _ _ (by decide)]
              exact zL_let (r := 20) rfl l0 (by omega)
          · rw [sOut k k2 (by omega), ← h1.1 k hk]
            by_cases k6 : k < 6
            · have hp : zI_pr 0 k = 20 ∧ zI_ps k ≠ 5 := by
                have key : ∀ k : Fin 6, k.val ≠ 2 → zI_pr 0 k.val = 20 ∧ zI_ps k.val ≠ 5 := by decide
                exact key ⟨k, k6⟩ k2
              rw [hp.1, pb3 20 (by decide), zs_other _ _ _ (by decide), pa3 20 (by decide), zs_st, if_neg (fun q => hp.2 q.2)]
            · have hp : zI_pr 0 k ≠ 96 ∧ zI_pr 0 k ≠ 29 ∧ zI_pr 0 k ≠ 20 := by
                have key : ∀ k : Fin 142, ¬ k.val < 6 → ¬ (120 ≤ k.val ∧ k.val < 132) → zI_pr 0 k.val ≠ 96 ∧ zI_pr 0 k.val ≠ 29 ∧ zI_pr 0 k.val ≠ 20 := by decide +kernel
                exact key ⟨k, hk⟩ k6 kl
              rw [row _ hp.1 hp.2.1 hp.2.2]
      · refine zW_letters h1.2 (by omega) s2 (fun k a b => sOut k a (by omega)) (fun i hi => ?_)
        have old := h1.2.2.2.2.2.2.2.2.1
        by_cases hj : t ≤ i ∧ i < m
        · rw [sIn i hj.1 hj.2]; exact old (i + 1) (by rw [← en]; omega)
        · rw [sOut _ (by omega) (by omega)]; exact old i (by rw [← en]; omega)
      · intro r j hr
        unfold zA_2 at hr
        simp only [Bool.or_eq_true, Bool.and_eq_true, beq_iff_eq, decide_eq_true_eq] at hr
        omega
      · intro r j hr
        unfold zA_3 at hr
        simp only [Bool.or_eq_true, beq_iff_eq] at hr
        omega
      · intro r j hr
        unfold zA_4 at hr
        simp only [Bool.or_eq_true, Bool.and_eq_true, beq_iff_eq] at hr
        omega
      · intro r j hr
        unfold zA_5 at hr
        simp only [Bool.or_eq_true, Bool.and_eq_true, beq_iff_eq, decide_eq_true_eq] at hr
        omega
