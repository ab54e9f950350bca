theorem zs_comm (X : IX) {a b : Nat} (i j : Nat) (u v : Int32) (h : a ≠ b) : zu_st (zu_st X a i u) b j v = zu_st (zu_st X b j v) a i u := by
  funext r k
  simp only [zs_st]
  by_cases h1 : r = b ∧ k = j
  · have h2 : ¬ (r = a ∧ k = i) := fun q => h (q.1.symm.trans h1.1)
    rw [if_pos h1, if_neg h2, if_pos h1]
  · rw [if_neg h1]
    by_cases h2 : r = a ∧ k = i
    · rw [if_pos h2, if_pos h2]
    · rw [if_neg h2, if_neg h2, if_neg h1]
theorem st_undo {X : IX} {Y : LX} (hI : zI_INV X) : ∃ (v : Int32) (X1 : IX) (X2 : IX), fn_Post_undo X = some (v, X1) ∧ fn_Mod_undo X1 = some (v, X2) ∧ zI_INV X2 := by
  obtain ⟨h1, h2, h3, h4, h5⟩ := id hI
  rcases h2.2.1 with hk | hk
  · obtain ⟨X1, X2, e1, e2, e3, e4⟩ := zI_both2 hI (f := -1000004) 3 (by decide) (by decide)
    refine ⟨-1000004, X1, X2, ?_, ?_, e3⟩
    · unfold fn_Post_undo
      rw [if_pos hk, e1, zp_b2]
    · unfold fn_Mod_undo
      rw [e4 95 (by decide), h2.1, if_pos hk, e2, zp_b2]
  · obtain ⟨Xa, ea, pa, qa⟩ := ze_become (o0 := 0) (o1 := 1) X (by omega) (by omega) (by omega)
    obtain ⟨Xb, eb, pb, pb2, pb3, qb⟩ := zl_cp_undo 142 0 400 Xa (by omega) (by omega)
    obtain ⟨k1, k2⟩ := h2.2.2 hk
    have big : ∀ a, 95 ≤ a → zR 0 a = false := fun a ha => zR_of (by omega) (by omega) (by omega) (by omega) (by omega)
    have e96 : ∀ k, k < 142 → Xb 96 k = X 97 k := fun k hk => by rw [pb k (by omega) hk, qa 97 (big 97 (by omega))]
    refine ⟨X 97 0, Xa, Xb, ?_, ?_, ?_⟩
    · unfold fn_Post_undo
      rw [if_neg (by rw [hk]; decide), ea, zp_b1]
      have q := pa 0 (by omega)
      have q2 := k1 0 (by omega)
      rw [show Xa 20 8 = X 97 0 from q.trans q2]
    · unfold fn_Mod_undo
      rw [qa 95 (big 95 (by omega)), h2.1, if_neg (by rw [hk]; decide)]
      rw [show (0 : Int32) = nI 0 from rfl, eb, e96 0 (by omega)]
    · have keep : ∀ (P : Nat → Nat → Bool), (∀ r j, P r j = true → zR 0 r = false ∧ r ≠ 96) → zA P X Xb := by
        intro P hP r j hr
        obtain ⟨a1, a2⟩ := hP r j hr
        rw [qb r a2, qa r a1]
      refine ⟨⟨fun k hk => ?_, k2.cg e96⟩, h2.ag (keep _ ?_), h3.ag (keep _ ?_), h4.ag (keep _ ?_), h5.ag (keep _ ?_)⟩
      · have hpr := zI_pr0 k hk
        rw [e96 k hk, qb _ (by omega), pa k hk, k1 k hk]
      · intro r j hr
        unfold zA_2 at hr
        simp only [Bool.or_eq_true, Bool.and_eq_true, beq_iff_eq, decide_eq_true_eq] at hr
        exact ⟨zR_of (by omega) (by omega) (by omega) (by omega) (by omega), by omega⟩
      · intro r j hr
        unfold zA_3 at hr
        simp only [Bool.or_eq_true, beq_iff_eq] at hr
        exact ⟨zR_of (by omega) (by omega) (by omega) (by omega) (by omega), by omega⟩
      · intro r j hr
        unfold zA_4 at hr
        simp only [Bool.or_eq_true, Bool.and_eq_true, beq_iff_eq] at hr
        exact ⟨zR_of (by omega) (by omega) (by omega) (by omega) (by omega), by omega⟩
      · intro r j hr
        unfold zA_5 at hr
        simp only [Bool.or_eq_true, Bool.and_eq_true, beq_iff_eq, decide_eq_true_eq] at hr
        exact ⟨zR_of (by omega) (by omega) (by omega) (by omega) (by omega), by omega⟩
/-! sums along a row -/
def zq (f : Nat → Int32) : Nat → Nat → Int32 → Int32
  | 0, _, a => a
  | d + 1, i, a => zq f d (i + 1) (a + f i)
theorem zq_cg {f g : Nat → Int32} : ∀ (d i : Nat) (a : Int32), (∀ j, i ≤ j → j < i + d → f j = g j) → zq f d i a = zq g d i a := by
  intro d
  induction d with
  | zero => intro i a _; rfl
  | succ d ih =>
    intro i a h
    unfold zq
    rw [h i (by omega) (by omega), ih (i + 1) _ (fun j h1 h2 => h j (by omega) (by omega))]
theorem zl_status_P (X : IX) : ∀ (d i n : Nat) (a : Int32), i + d = 7 → d < n → fn_Post_status_L33 n a (nI i) X = some (zq (X 11) d i a, X) := by
  intro d
  induction d with
  | zero =>
    intro i n a hi hn
    obtain ⟨m, rfl⟩ : ∃ m, n = m + 1 := ⟨n - 1, by omega⟩
    obtain rfl : i = 7 := by omega
    show fn_Post_status_B33 _ a (nI 7) X = _
    unfold fn_Post_status_B33
    rw [if_pos (by decide)]
    rfl
  | succ d ih =>
    intro i n a hi hn
    obtain ⟨m, rfl⟩ : ∃ m, n = m + 1 := ⟨n - 1, by omega⟩
    show fn_Post_status_B33 (fn_Post_status_L33 m) a (nI i) X = _
    unfold fn_Post_status_B33
    rw [if_neg (show ¬ (7 : Int32) ≤ nI i from nI_ge (a := i) (b := 7) (by omega) (by omega))]
    simp only [zp_nx, zn_ib (show i < 7 by omega) (by decide), zp_gd, zn_cl (show i < 2 ^ 31 by omega), nI_1]
    exact ih (i + 1) m _ (by omega) (by omega)
theorem zl_status_M (X : IX) (w : Int32) : ∀ (d i n : Nat) (a : Int32), i + d = 7 → d < n → fn_Mod_status_L25 n w a (nI i) X = some (zq (fun j => if w < 0 ∨ nI j = w then X 99 j else 0) d i a, X) := by
  intro d
  induction d with
  | zero =>
    intro i n a hi hn
    obtain ⟨m, rfl⟩ : ∃ m, n = m + 1 := ⟨n - 1, by omega⟩
    obtain rfl : i = 7 := by omega
    show fn_Mod_status_B25 _ w a (nI 7) X = _
    unfold fn_Mod_status_B25
    rw [if_pos (by decide)]
    rfl
  | succ d ih =>
    intro i n a hi hn
    obtain ⟨m, rfl⟩ : ∃ m, n = m + 1 := ⟨n - 1, by omega⟩
    show fn_Mod_status_B25 (fn_Mod_status_L25 m) w a (nI i) X = _
    unfold fn_Mod_status_B25 fn_Mod_status_L41 fn_Mod_status_L51
    rw [if_neg (show ¬ (7 : Int32) ≤ nI i from nI_ge (a := i) (b := 7) (by omega) (by omega))]
    simp only [zp_nx, zn_ib (show i < 7 by omega) (by decide), zp_gd, zn_cl (show i < 2 ^ 31 by omega), nI_1]
    have e : zq (fun j => if w < 0 ∨ nI j = w then X 99 j else 0) (d + 1) i a = zq (fun j => if w < 0 ∨ nI j = w then X 99 j else 0) d (i + 1) (a + if w < 0 ∨ nI i = w then X 99 i else 0) := rfl
    rw [e]
    by_cases c1 : w < 0
    · rw [if_pos c1, if_pos (Or.inl c1)]
      exact ih (i + 1) m _ (by omega) (by omega)
    · rw [if_neg c1]
      by_cases c2 : nI i = w
      · rw [if_pos c2, if_pos (Or.inr c2)]
        exact ih (i + 1) m _ (by omega) (by omega)
      · rw [if_neg c2, if_neg (by rintro (q | q); exact c1 q; exact c2 q)]
        exact ih (i + 1) m _ (by omega) (by omega)
theorem st_status {X : IX} {Y : LX} (hI : zI_INV X) (a1 : Int32) : ∃ (v : Int32) (X1 : IX) (X2 : IX), fn_Post_status a1 X = some (v, X1) ∧ fn_Mod_status a1 X1 = some (v, X2) ∧ zI_INV X2 := by
  obtain ⟨X1, X2, e1, e2, e3, e4⟩ := zI_both2 hI (f := -1000001) 0 (by decide) (by decide)
  have h3 := hI.2.2.1
  by_cases hm : a1 = -1
  · subst hm
    refine ⟨zq (X 11) 7 0 0, X, X, ?_, ?_, hI⟩
    · unfold fn_Post_status
      rw [ze_isWithin, zp_b1, show zw 0 (-1) 6 = false from by decide, zt_f, if_pos rfl, if_pos rfl]
      exact zl_status_P X 7 0 400 0 (by omega) (by omega)
    · unfold fn_Mod_status
      rw [ze_inN (-1) (-1) 6 (-1) 6 (by decide) rfl, zp_b1, show zw (-1) (-1) 6 = true from by decide, zt_t, if_neg (by decide)]
      rw [show (0 : Int32) = nI 0 from rfl, zl_status_M X (-1) 7 0 400 (nI 0) (by omega) (by omega)]
      rw [zq_cg (g := X 11) 7 0 (nI 0) (fun j _ hj => by simp only [show ((-1 : Int32) < 0) from by decide, true_or, if_true]; exact h3 j (by omega))]
  · cases hw : zw 0 a1 6 with
    | true =>
      obtain ⟨w, hw1, rfl⟩ := zw_n (m := 6) (by decide) hw
      refine ⟨X 11 w, X, X, ?_, ?_, hI⟩
      · unfold fn_Post_status
        rw [ze_isWithin, zp_b1, hw, zt_t, if_neg (by decide), zn_ib (show w < 7 by omega) (by decide), zp_gd, zn_cl (by omega)]
      · unfold fn_Mod_status
        have hm1 : zw (-1) (nI w) 6 = true := by
          refine decide_eq_true ⟨?_, (zw_t hw).2⟩
          rw [zn_le, nI_toInt (by omega)]
          have e1 : (-1 : Int32).toInt = -1 := rfl
          omega
        rw [ze_inN (nI w) (-1) 6 (-1) 6 (by decide) rfl, zp_b1, hm1, zt_t, if_neg (by decide)]
        rw [show (0 : Int32) = nI 0 from rfl, zl_status_M X (nI w) 7 0 400 (nI 0) (by omega) (by omega)]
        rw [zq_cg (g := fun j => if j = w then X 11 w else 0) 7 0 (nI 0) (fun j _ hj => by
          have hnl : ¬ nI w < 0 := nI_pos (by omega)
          by_cases q : j = w
          · subst q
            rw [if_pos (Or.inr rfl), if_pos rfl]
            exact h3 j (by omega)
          · rw [if_neg (by rintro (z | z); exact hnl z; exact q ((nI_eq (by omega) (by omega)).mp z)), if_neg q])]
        rcases (show w = 0 ∨ w = 1 ∨ w = 2 ∨ w = 3 ∨ w = 4 ∨ w = 5 ∨ w = 6 by omega) with rfl | rfl | rfl | rfl | rfl | rfl | rfl <;> simp [zq, nI_0]
    | false =>
      refine ⟨-1000001, X1, X2, ?_, ?_, e3⟩
      · unfold fn_Post_status
        rw [ze_isWithin, zp_b1, hw, zt_f, if_pos rfl, if_neg hm, e1, zp_b2]
      · have hm1 : zw (-1) a1 6 = false := by
          refine decide_eq_false ?_
          rintro ⟨q1, q2⟩
          refine zw_f hw ⟨?_, q2⟩
          have q3 : a1.toInt ≠ -1 := fun z => hm (by rw [zn_eq, z]; rfl)
          rw [zn_le] at q1 ⊢
          have e1 : (-1 : Int32).toInt = -1 := rfl
          have e0 : (0 : Int32).toInt = 0 := rfl
          omega
        unfold fn_Mod_status
        rw [ze_inN a1 (-1) 6 (-1) 6 (by decide) rfl, zp_b1, hm1, zt_f, if_pos rfl, e2, zp_b2]
