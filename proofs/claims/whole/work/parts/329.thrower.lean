/-! a new thrower -/
def zS_nf (k c f : Nat) : Int32 := if f = 0 then nI k else if f = 1 then nI c else zs_first f
def zS_nt (S : Nat → Int32) (n k c : Nat) : Nat → Int32 := fun j => if j = 1 then nI (n + 1) else if 30 + 9 * n ≤ j ∧ j < 39 + 9 * n then zS_nf k c (j - (30 + 9 * n)) else S j
theorem zS_nt_1 (S : Nat → Int32) (n k c : Nat) : zS_nt S n k c 1 = nI (n + 1) := if_pos rfl
theorem zS_nt_f (S : Nat → Int32) (n k c : Nat) {f : Nat} (hf : f < 9) : zS_nt S n k c (30 + 9 * n + f) = zS_nf k c f := by
  unfold zS_nt
  rw [if_neg (by omega), if_pos (by omega)]
  congr 1
  omega
theorem zS_nt_o (S : Nat → Int32) (n k c : Nat) {j : Nat} (h1 : j ≠ 1) (h2 : j < 30 + 9 * n ∨ 39 + 9 * n ≤ j) : zS_nt S n k c j = S j := by
  unfold zS_nt
  rw [if_neg h1, if_neg (by omega)]
theorem zS_nf_v (k c : Nat) : zS_nf k c 2 = nI 2 ∧ zS_nf k c 3 = nI 5 ∧ zS_nf k c 4 = nI 1 ∧ zS_nf k c 5 = nI 8 ∧ zS_nf k c 6 = nI 0 ∧ zS_nf k c 7 = nI 0 ∧ zS_nf k c 8 = nI 0 := ⟨rfl, rfl, rfl, rfl, rfl, rfl, rfl⟩
theorem zS_nt_WF {S : Nat → Int32} (h : zI_WF S) {n k c : Nat} (en : n = zN S 1) (hn : n < 10) (hk : k ≤ 6) (hc : c ≤ 23) (hs : ∀ u, u < n → zF S u 1 ≠ c) : zI_WF (zS_nt S n k c) := by
  obtain ⟨h0, h1, h2, h3, h4, h5, h6, h7, h8, h9⟩ := id h
  obtain ⟨v2, v3, v4, v5, v6, v7, v8⟩ := zS_nf_v k c
  have eo : ∀ j, j ≠ 1 → (j < 30 + 9 * n ∨ 39 + 9 * n ≤ j) → zS_nt S n k c j = S j := fun j => zS_nt_o S n k c
  have n1 : zN (zS_nt S n k c) 1 = n + 1 := by unfold zN; rw [zS_nt_1, zn_cl (by omega)]
  have n0 : zN (zS_nt S n k c) 0 = zN S 0 := by unfold zN; rw [eo 0 (by omega) (by omega)]
  have n2 : zN (zS_nt S n k c) 2 = zN S 2 := by unfold zN; rw [eo 2 (by omega) (by omega)]
  have m2 := (zW_2 h).2
  refine ⟨?_, ?_, ?_, ?_, ?_, fun i hi => ?_, fun t ht => ?_, fun i hi => ?_, fun q hq => ?_, fun t u ht hu q => ?_⟩
  · rw [eo 0 (by omega) (by omega)]; exact h0
  · rw [zS_nt_1]; exact ⟨n + 1, by omega, rfl⟩
  · rw [eo 2 (by omega) (by omega)]; exact h2
  · rw [eo 3 (by omega) (by omega)]; exact h3
  · rw [eo 4 (by omega) (by omega)]; exact h4
  · rw [eo _ (by omega) (by omega)]; exact h5 i hi
  · rw [n1] at ht
    by_cases q : t = n
    · subst q
      have nf : ∀ f, f < 9 → zS_nt S t k c (30 + 9 * t + f) = zS_nf k c f := fun f hf => zS_nt_f S t k c hf
      unfold zI_th
      rw [n0]
      have f0 := nf 0 (by omega)
      rw [Nat.add_zero] at f0
      rw [f0, nf 1 (by omega), nf 2 (by omega), nf 3 (by omega), nf 4 (by omega), nf 5 (by omega), nf 6 (by omega), nf 7 (by omega), nf 8 (by omega), v2, v3, v4, v5, v6, v7, v8]
      have z2 : zN (zS_nt S t k c) (30 + 9 * t + 2) = 2 := by unfold zN; rw [nf 2 (by omega), v2, zn_cl (by omega)]
      have z3 : zN (zS_nt S t k c) (30 + 9 * t + 3) = 5 := by unfold zN; rw [nf 3 (by omega), v3, zn_cl (by omega)]
      rw [z2, z3]
      exact ⟨⟨k, hk, rfl⟩, ⟨c, hc, rfl⟩, ⟨⟨2, by omega, rfl⟩, by omega⟩, ⟨⟨5, by omega, rfl⟩, by omega⟩, ⟨1, by omega, rfl⟩, ⟨8, by omega, rfl⟩, ⟨0, by omega, rfl⟩, ⟨0, by omega, rfl⟩, ⟨0, by omega, rfl⟩⟩
    · have nf : ∀ f, f < 9 → zS_nt S n k c (30 + 9 * t + f) = S (30 + 9 * t + f) := fun f hf => eo _ (by omega) (by omega)
      unfold zI_th
      rw [n0]
      have f0 := nf 0 (by omega)
      rw [Nat.add_zero] at f0
      have z2 : zN (zS_nt S n k c) (30 + 9 * t + 2) = zN S (30 + 9 * t + 2) := by unfold zN; rw [nf 2 (by omega)]
      have z3 : zN (zS_nt S n k c) (30 + 9 * t + 3) = zN S (30 + 9 * t + 3) := by unfold zN; rw [nf 3 (by omega)]
      rw [f0, nf 1 (by omega), nf 2 (by omega), nf 3 (by omega), nf 4 (by omega), nf 5 (by omega), nf 6 (by omega), nf 7 (by omega), nf 8 (by omega), z2, z3]
      exact h6 t (by omega)
  · rw [n2] at hi
    rw [eo _ (by omega) (by omega)]; exact h7 i hi
  · rw [eo _ (by omega) (by omega), n1]
    rcases h8 q hq with e | ⟨m, hm, e⟩
    · exact Or.inl e
    · exact Or.inr ⟨m, by omega, e⟩
  · rw [n1] at ht hu
    have key : ∀ x, x < n → S (30 + 9 * x + 1) ≠ nI c := by
      intro x hx qq
      have bx := zF_all h (show x < zN S 1 by omega)
      rw [bx.2.1 1 (by omega), nI_eq (by omega) (by omega)] at qq
      exact hs x hx qq
    have val : ∀ x, x < n → zS_nt S n k c (30 + 9 * x + 1) = S (30 + 9 * x + 1) := fun x hx => eo _ (by omega) (by omega)
    have vn : zS_nt S n k c (30 + 9 * n + 1) = nI c := zS_nt_f S n k c (by omega)
    by_cases a : t = n
    · by_cases b : u = n
      · omega
      · rw [a, vn, val u (by omega)] at q
        exact absurd q.symm (key u (by omega))
    · by_cases b : u = n
      · rw [b, vn, val t (by omega)] at q
        exact absurd q (key t (by omega))
      · rw [val t (by omega), val u (by omega)] at q
        exact h9 t u (by omega) (by omega) q
theorem zl_add_P {X : IX} {S : Nat → Int32} {o r : Nat} (ho : o < 3) (hr : r = 20 + o) (hL : zI_LI X o S) (h : zI_WF S) {n : Nat} (en : n = zN S 1) (hn : n < 10) (k c : Nat) : ∃ X', fn_Land_addThrower r (nI k) (nI c) X = some (nI n, X') ∧ zI_LI X' o (zS_nt S n k c) ∧ ∀ a, zR o a = false → X' a = X a := by
  have t1 : X r 4 = nI n := by rw [(zL_h hr hL).2.1, en]; exact (zW_1 h).1
  obtain ⟨R, hR⟩ : ∃ R, R = zu_th (r + 6) n + 30 := ⟨_, rfl⟩
  have hR2 : R = 65 + 10 * o + n := by rw [hR]; unfold zu_th; omega
  obtain ⟨A, hA⟩ : ∃ A : IX, A = zu_up X R (va_cpy zs_first (X R) 0 0 9) := ⟨_, rfl⟩
  obtain ⟨B, hB⟩ : ∃ B : IX, B = zu_st (zu_st A R 0 (nI k)) R 1 (nI c) := ⟨_, rfl⟩
  have b4 : B r 4 = nI n := by
    rw [hB, zs_other _ _ _ (by omega), zs_other _ _ _ (by omega), hA]
    unfold zu_up
    rw [if_neg (by omega)]
    exact t1
  obtain ⟨C, hC⟩ : ∃ C : IX, C = zu_st B r 4 (nI (n + 1)) := ⟨_, rfl⟩
  have c4 : C r 4 = nI (n + 1) := by rw [hC, zs_st, if_pos ⟨rfl, rfl⟩]
  have cR : ∀ f, f < 9 → C R f = zS_nf k c f := by
    intro f hf
    rw [hC, zs_other _ _ _ (by omega), hB, zs_st, zs_st]
    unfold zS_nf
    by_cases q1 : f = 1
    · subst q1
      rw [if_pos ⟨rfl, rfl⟩]
      rfl
    · rw [if_neg (fun q => q1 q.2)]
      by_cases q0 : f = 0
      · rw [if_pos ⟨rfl, q0⟩, if_pos q0]
      · rw [if_neg (fun q => q0 q.2), if_neg q0, if_neg q1, hA]
        unfold zu_up
        rw [if_pos rfl, pk_cpy_in (by omega) (by omega)]
        congr 1
        omega
  have cO : ∀ a b, a ≠ R → ¬ (a = r ∧ b = 4) → C a b = X a b := by
    intro a b h1 h2
    rw [hC, zs_st, if_neg h2, hB, zs_other _ _ _ h1, zs_other _ _ _ h1, hA]
    unfold zu_up
    rw [if_neg h1]
  refine ⟨C, ?_, ?_, ?_⟩
  · unfold fn_Land_addThrower fn_Thr_begin
    rw [t1, if_pos (show nI n < (10 : Int32) from (nI_ltI (b := 10) (by omega) (by omega)).mpr hn), zn_ib hn (by decide), zp_gd, zn_cl (by omega)]
    simp only [zp_nx, ← hR, ← hA, ← hB, zp_b1, b4, nI_1, ← hC, c4, nI_pred]
  · intro i hi
    by_cases i6 : i < 6
    · have k1 : zI_pr o i = r := by unfold zI_pr; rw [if_pos i6]; omega
      have k2 : zI_ps i = 4 ↔ i = 1 := by
        have key : ∀ i : Fin 6, zI_ps i.val = 4 ↔ i.val = 1 := by decide
        exact key ⟨i, i6⟩
      rw [k1]
      by_cases q : i = 1
      · subst q
        rw [zS_nt_1]
        exact c4
      · rw [zS_nt_o S n k c q (by omega), cO r _ (by omega) (fun w => q (k2.mp w.2)), ← k1]
        exact hL i hi
    · by_cases ir : 30 ≤ i ∧ i < 120
      · obtain ⟨t, f, ht, hf, rfl⟩ : ∃ t f, t < 10 ∧ f < 9 ∧ i = 30 + 9 * t + f := ⟨(i - 30) / 9, (i - 30) % 9, by omega, by omega, by omega⟩
        have hp := zL_p30 o t f ht hf
        have e1 : zu_th (20 + o + 6) t + 30 = 65 + 10 * o + t := by unfold zu_th; omega
        rw [hp.1, hp.2, e1]
        by_cases q : t = n
        · subst q
          rw [← hR2, cR f hf, zS_nt_f S t k c hf]
        · rw [zS_nt_o S n k c (by omega) (by omega), cO _ _ (by omega) (by omega), ← e1]
          exact zL_fact rfl hL ht hf
      · have k1 : zI_pr o i ≠ R ∧ zI_pr o i ≠ r := by
          unfold zI_pr
          rw [if_neg i6]
          repeat' split
          all_goals omega
        rw [zS_nt_o S n k c (by omega) (by omega), cO _ _ k1.1 (fun w => k1.2 w.1)]
        exact hL i hi
  · intro a ha
    have q := zR_f ha
    funext b
    exact cO a b (by omega) (by omega)
theorem zl_add_M {X : IX} {S : Nat → Int32} (e : X 96 = S) (h : zI_WF S) {n : Nat} (en : n = zN S 1) (hn : n < 10) (k c : Nat) : ∃ X', fn_Mod_newThrower (nI k) (nI c) X = some (nI n, X') ∧ X' 96 = zS_nt S n k c ∧ ∀ a, a ≠ 96 → X' a = X a := by
  have t1 : X 96 1 = nI n := by rw [e, en]; exact (zW_1 h).1
  have ea : ∀ f, fn_Mod_at (nI n) (nI f) = nI (30 + 9 * n + f) := fun f => ze_at n f
  obtain ⟨A, hA⟩ : ∃ A : IX, A = zu_st (zu_st (zu_st (zu_st (zu_st (zu_st (zu_st (zu_st (zu_st X 96 (30 + 9 * n + 0) (nI k)) 96 (30 + 9 * n + 1) (nI c)) 96 (30 + 9 * n + 2) (2 : Int32)) 96 (30 + 9 * n + 3) (5 : Int32)) 96 (30 + 9 * n + 4) (1 : Int32)) 96 (30 + 9 * n + 5) (8 : Int32)) 96 (30 + 9 * n + 6) (0 : Int32)) 96 (30 + 9 * n + 7) (0 : Int32)) 96 (30 + 9 * n + 8) (0 : Int32) := ⟨_, rfl⟩
  have av : ∀ f, f < 9 → A 96 (30 + 9 * n + f) = zS_nf k c f := by
    intro f hf
    rw [hA]
    simp only [zs_st]
    rcases (show f = 0 ∨ f = 1 ∨ f = 2 ∨ f = 3 ∨ f = 4 ∨ f = 5 ∨ f = 6 ∨ f = 7 ∨ f = 8 by omega) with rfl | rfl | rfl | rfl | rfl | rfl | rfl | rfl | rfl
    · simp [zS_nf]
    · simp [zS_nf]
    · simp; rfl
    · simp; rfl
    · simp; rfl
    · simp; rfl
    · simp; rfl
    · simp; rfl
    · simp; rfl
  have ao : ∀ a b, (a ≠ 96 ∨ b < 30 + 9 * n ∨ 39 + 9 * n ≤ b) → A a b = X a b := by
    intro a b q
    rw [hA]
    rw [zs_st, if_neg (by omega), zs_st, if_neg (by omega), zs_st, if_neg (by omega), zs_st, if_neg (by omega), zs_st, if_neg (by omega), zs_st, if_neg (by omega), zs_st, if_neg (by omega), zs_st, if_neg (by omega), zs_st, if_neg (by omega)]
  have a1 : A 96 1 = nI n := by rw [ao 96 1 (by omega)]; exact t1
  refine ⟨zu_st A 96 1 (nI (n + 1)), ?_, ?_, ?_⟩
  · have e0 : fn_Mod_at (nI n) (0 : Int32) = nI (30 + 9 * n + 0) := ea 0
    have e1 : fn_Mod_at (nI n) (1 : Int32) = nI (30 + 9 * n + 1) := ea 1
    have e2 : fn_Mod_at (nI n) (2 : Int32) = nI (30 + 9 * n + 2) := ea 2
    have e3 : fn_Mod_at (nI n) (3 : Int32) = nI (30 + 9 * n + 3) := ea 3
    have e4 : fn_Mod_at (nI n) (4 : Int32) = nI (30 + 9 * n + 4) := ea 4
    have e5 : fn_Mod_at (nI n) (5 : Int32) = nI (30 + 9 * n + 5) := ea 5
    have e6 : fn_Mod_at (nI n) (6 : Int32) = nI (30 + 9 * n + 6) := ea 6
    have e7 : fn_Mod_at (nI n) (7 : Int32) = nI (30 + 9 * n + 7) := ea 7
    have e8 : fn_Mod_at (nI n) (8 : Int32) = nI (30 + 9 * n + 8) := ea 8
    have ib : ∀ f, f < 9 → zu_ib (nI (30 + 9 * n + f)) 142 = true := fun f hf => zn_ib (by omega) (by decide)
    have cl : ∀ f, f < 9 → (nI (30 + 9 * n + f)).toNatClampNeg = 30 + 9 * n + f := fun f hf => zn_cl (by omega)
    unfold fn_Mod_newThrower
    simp only [zp_nx, t1, e0, e1, e2, e3, e4, e5, e6, e7, e8, ib 0 (by omega), ib 1 (by omega), ib 2 (by omega), ib 3 (by omega), ib 4 (by omega), ib 5 (by omega), ib 6 (by omega), ib 7 (by omega), ib 8 (by omega), zp_gd, cl 0 (by omega), cl 1 (by omega), cl 2 (by omega), cl 3 (by omega), cl 4 (by omega), cl 5 (by omega), cl 6 (by omega), cl 7 (by omega), cl 8 (by omega), ← hA, a1, nI_1]
  · funext j
    rw [zs_st]
    by_cases q : j = 1
    · subst q
      rw [if_pos ⟨rfl, rfl⟩, zS_nt_1]
    · rw [if_neg (fun w => q w.2)]
      by_cases w : 30 + 9 * n ≤ j ∧ j < 39 + 9 * n
      · obtain ⟨f, rfl⟩ : ∃ f, j = 30 + 9 * n + f := ⟨j - (30 + 9 * n), by omega⟩
        rw [av f (by omega), zS_nt_f S n k c (by omega)]
      · rw [ao 96 j (by omega), zS_nt_o S n k c q (by omega), e]
  · intro a ha
    rw [zs_other _ _ _ ha]
    funext b
    exact ao a b (Or.inl ha)
def zI_keepR (a : Nat) (X X' : IX) : Prop := ∀ j, zI_imp a j = true → X' a j = X a j
/-- both lands are changed alike -/
theorem zI_INV.land {X X' : IX} (hI : zI_INV X) {S' : Nat → Int32} (h1 : zI_LI X' 0 S') (h2 : X' 96 = S') (hW : zI_WF S') (ho : ∀ a, zR 0 a = false → a ≠ 96 → zI_keepR a X X') : zI_INV X' := by
  obtain ⟨i1, i2, i3, i4, i5⟩ := hI
  refine ⟨⟨by rw [h2]; exact h1, by rw [h2]; exact hW⟩, i2.ag (fun r j hr => ?_), i3.ag (fun r j hr => ?_), i4.ag (fun r j hr => ?_), i5.ag (fun r j hr => ?_)⟩
  · unfold zA_2 at hr
    simp only [Bool.or_eq_true, Bool.and_eq_true, beq_iff_eq, decide_eq_true_eq] at hr
    exact ho r (zR_of (by omega) (by omega) (by omega) (by omega) (by omega)) (by omega) j (by unfold zI_imp; simp; omega)
  · unfold zA_3 at hr
    simp only [Bool.or_eq_true, beq_iff_eq] at hr
    exact ho r (zR_of (by omega) (by omega) (by omega) (by omega) (by omega)) (by omega) j (by unfold zI_imp; simp; omega)
  · unfold zA_4 at hr
    simp only [Bool.or_eq_true, Bool.and_eq_true, beq_iff_eq] at hr
    exact ho r (zR_of (by omega) (by omega) (by omega) (by omega) (by omega)) (by omega) j (by unfold zI_imp; simp; omega)
  · unfold zA_5 at hr
    simp only [Bool.or_eq_true, Bool.and_eq_true, beq_iff_eq, decide_eq_true_eq] at hr
    exact ho r (zR_of (by omega) (by omega) (by omega) (by omega) (by omega)) (by omega) j (by unfold zI_imp; simp; omega)
theorem st_thrower {X : IX} {Y : LX} (hI : zI_INV X) (a1 : Int32) (a2 : Int32) : ∃ (v : Int32) (X1 : IX) (X2 : IX), fn_Post_thrower a1 a2 X = some (v, X1) ∧ fn_Mod_thrower a1 a2 X1 = some (v, X2) ∧ zI_INV X2 := by
  have n10 : ((1 : Int32) = 0) = False := by decide
  obtain ⟨X1, X2, e1, e2, e3, e4⟩ := zI_both2 hI (f := -1000001) 0 (by decide) (by decide)
  obtain ⟨X1s, X2s, s1, s2, s3, s4⟩ := zI_both2 hI (f := -1000005) 4 (by decide) (by decide)
  obtain ⟨X1u, X2u, u1, u2, u3, u4⟩ := zI_both2 hI (f := -1000002) 1 (by decide) (by decide)
  obtain ⟨n1, hn⟩ := zI_1 hI
  obtain ⟨n, en⟩ : ∃ n, n = zN (X 96) 1 := ⟨_, rfl⟩
  rw [← en] at n1 hn
  have t1 : X 20 4 = nI n := by rw [(zL_h rfl hI.1.1).2.1, n1]
  have m1 : X1 96 1 = nI n := by rw [e4 96 (by decide), n1]
  rcases (Bool.eq_false_or_eq_true (zw 0 a1 6 && zw 0 a2 23)).symm with hg | hg
  · refine ⟨-1000001, X1, X2, ?_, ?_, e3⟩
    · cases h1 : zw 0 a1 6 <;> cases h2 : zw 0 a2 23 <;> first
        | exact absurd hg (by rw [h1, h2]; decide)
        | simp only [fn_Post_thrower, fn_Post_thrower_L14, ze_isKind, ze_isCell, h1, h2, zp_b1, zp_b2, zp_nx, zt_f, zt_t, e1, n10, Bool.and_true, Bool.and_false, Bool.true_and, Bool.false_and, ↓reduceIte]
    · cases h1 : zw 0 a1 6 <;> cases h2 : zw 0 a2 23 <;> first
        | exact absurd hg (by rw [h1, h2]; decide)
        | simp only [fn_Mod_thrower, fn_Mod_thrower_L19, ze_inN a1 0 6 0 6 rfl rfl, ze_mCell, h1, h2, zp_b1, zp_b2, zp_nx, zt_f, zt_t, e2, n10, Bool.and_true, Bool.and_false, Bool.true_and, Bool.false_and, ↓reduceIte]
  simp only [Bool.and_eq_true] at hg
  obtain ⟨h1, h2⟩ := hg
  obtain ⟨k, hk, rfl⟩ := zw_n (m := 6) (by decide) h1
  obtain ⟨c, hc, rfl⟩ := zw_n (m := 23) (by decide) h2
  have hW := hI.1.2
  have sp := ze_sd rfl hI.1.1 hW (show c < 24 by omega)
  cases hs : zS_sd (X 96) c with
  | some u =>
    have hu := zS_sd_s hs
    rw [hs] at sp
    refine ⟨-1000005, X1s, X2s, ?_, ?_, s3⟩
    · simp only [fn_Post_thrower, ze_isKind, ze_isCell, h1, h2, zp_b1, zp_b2, zt_t, n10, ↓reduceIte, sp, if_neg (show ¬ zO (some u) = (-1 : Int32) from zO_m1 (by omega)), s1]
    · have sm := zm_sd (s4 96 (by decide)) hW (show c < 24 by omega)
      rw [hs] at sm
      simp only [fn_Mod_thrower, ze_inN (nI k) 0 6 0 6 rfl rfl, ze_mCell, h1, h2, zp_b1, zp_b2, zt_t, n10, ↓reduceIte, sm, if_neg (show ¬ zO (some u) < (0 : Int32) from nI_pos (by omega)), s2]
  | none =>
    rw [hs] at sp
    by_cases q : n = 10
    · refine ⟨-1000002, X1u, X2u, ?_, ?_, u3⟩
      · have ad : fn_Land_addThrower 20 (nI k) (nI c) X = some (-1, X) := by
          unfold fn_Land_addThrower
          rw [t1, if_neg (show ¬ nI n < (10 : Int32) from nI_nlt (a := n) (b := 10) (by omega) (by omega))]
        simp only [fn_Post_thrower, fn_Post_thrower_L65, ze_isKind, ze_isCell, h1, h2, zp_b1, zp_b2, zt_t, n10, ↓reduceIte, sp, if_pos (show zO none = (-1 : Int32) from rfl), ad, u1]
      · have sm := zm_sd (u4 96 (by decide)) hW (show c < 24 by omega)
        rw [hs] at sm
        have mm : X1u 96 1 = (10 : Int32) := by rw [u4 96 (by decide), n1, q]; rfl
        simp only [fn_Mod_thrower, fn_Mod_thrower_L67, ze_inN (nI k) 0 6 0 6 rfl rfl, ze_mCell, h1, h2, zp_b1, zp_b2, zt_t, n10, ↓reduceIte, sm, if_pos (show zO none < (0 : Int32) by decide), mm, u2]
    · obtain ⟨Xa, ea, la, oa⟩ := zl_add_P (o := 0) (r := 20) (by omega) rfl hI.1.1 hW en (by omega) k c
      have a96 : Xa 96 = X 96 := oa 96 (by decide)
      obtain ⟨Xb, eb, lb, ob⟩ := zl_add_M a96 hW en (by omega) k c
      refine ⟨nI n, Xa, Xb, ?_, ?_, ?_⟩
      · simp only [fn_Post_thrower, fn_Post_thrower_L65, ze_isKind, ze_isCell, h1, h2, zp_b1, zp_b2, zt_t, n10, ↓reduceIte, sp, if_pos (show zO none = (-1 : Int32) from rfl), ea, if_neg (show ¬ nI n = (-1 : Int32) from zO_m1 (by omega))]
      · have sm := zm_sd a96 hW (show c < 24 by omega)
        rw [hs] at sm
        have mm : Xa 96 1 = nI n := by rw [a96, n1]
        have m10 : ¬ nI n = (10 : Int32) := fun w => q ((nI_eq (b := 10) (by omega) (by omega)).mp w)
        simp only [fn_Mod_thrower, fn_Mod_thrower_L67, ze_inN (nI k) 0 6 0 6 rfl rfl, ze_mCell, h1, h2, zp_b1, zp_b2, zt_t, n10, ↓reduceIte, sm, if_pos (show zO none < (0 : Int32) by decide), mm, m10, eb]
      · refine hI.land (S' := zS_nt (X 96) n k c) (fun i hi => ?_) lb (zS_nt_WF hW en (by omega) hk hc (fun u hu => zS_sd_n hs u (by rw [← en]; exact hu))) (fun a h1 h2 j _ => by rw [ob a h2, oa a h1])
        rw [ob _ (zI_prF i hi 0).2.2.2.2]
        exact la i hi
