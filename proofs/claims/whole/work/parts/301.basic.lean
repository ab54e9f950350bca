/-! the invariant's parts, by what they speak of -/
def zA_1 (r _j : Nat) : Bool := r == 20 || r == 23 || r == 29 || r == 32 || (decide (65 ≤ r) && decide (r ≤ 74)) || r == 96
def zA_2 (r j : Nat) : Bool := (r == 0 && j == 7) || (r == 95 && j == 4) || r == 97 || r == 21 || r == 24 || r == 30 || r == 33 || (decide (75 ≤ r) && decide (r ≤ 84))
def zA_3 (r _j : Nat) : Bool := r == 11 || r == 99
def zA_4 (r j : Nat) : Bool := (r == 8 && j == 1) || r == 9 || (r == 95 && j == 14) || r == 104
def zA_5 (r _j : Nat) : Bool := (decide (12 ≤ r) && decide (r ≤ 19)) || r == 105 || r == 106 || r == 107
def zA (P : Nat → Nat → Bool) (X X' : IX) : Prop := ∀ r j, P r j = true → X' r j = X r j
theorem zA.rf (P : Nat → Nat → Bool) (X : IX) : zA P X X := fun _ _ _ => rfl
theorem zA.tr {P : Nat → Nat → Bool} {X Y Z : IX} (h : zA P X Y) (h2 : zA P Y Z) : zA P X Z := fun r j hi => (h2 r j hi).trans (h r j hi)
theorem zA.st {P : Nat → Nat → Bool} {X Y : IX} {r j : Nat} {v : Int32} (hX : zA P X Y) (h : P r j = false) : zA P X (zu_st Y r j v) := by
  intro a b hi
  rw [zs_st, if_neg]
  · exact hX a b hi
  · rintro ⟨rfl, rfl⟩
    rw [h] at hi
    cases hi
theorem zA.up {P : Nat → Nat → Bool} {X Y : IX} {r : Nat} {f : Nat → Int32} (hX : zA P X Y) (h : ∀ j, P r j = false) : zA P X (zu_up Y r f) := by
  intro a b hi
  unfold zu_up
  by_cases e : a = r
  · subst e
    rw [h b] at hi
    cases hi
  · rw [if_neg e]
    exact hX a b hi
theorem zA.row {P : Nat → Nat → Bool} {X X' : IX} (h : zA P X X') (r : Nat) (hr : ∀ j, P r j = true) : X' r = X r := funext fun j => h r j (hr j)
theorem zA_pr0 (k : Nat) (hk : k < 142) (j : Nat) : zA_1 (zI_pr 0 k) j = true := by
  have h1 : ∀ k : Fin 142, zA_1 (zI_pr 0 k.val) 0 = true := by decide +kernel
  exact h1 ⟨k, hk⟩
theorem zA_pr1 (k : Nat) (hk : k < 142) (j : Nat) : zA_2 (zI_pr 1 k) j = true := by
  have h1 : ∀ k : Fin 142, (zI_pr 1 k.val == 21 || zI_pr 1 k.val == 24 || zI_pr 1 k.val == 30 || zI_pr 1 k.val == 33 || (decide (75 ≤ zI_pr 1 k.val) && decide (zI_pr 1 k.val ≤ 84))) = true := by decide +kernel
  have h := h1 ⟨k, hk⟩
  simp only [Bool.or_eq_true, Bool.and_eq_true, beq_iff_eq, decide_eq_true_eq] at h
  unfold zA_2
  simp only [Bool.or_eq_true, Bool.and_eq_true, beq_iff_eq, decide_eq_true_eq]
  omega
theorem zI_C1.ag {X X' : IX} (h : zA zA_1 X X') (hC : zI_C1 X) : zI_C1 X' := by
  have e := h.row 96 (fun j => rfl)
  refine ⟨fun k hk => ?_, by rw [e]; exact hC.2⟩
  rw [e, h _ _ (zA_pr0 k hk _)]
  exact hC.1 k hk
theorem zI_C2.ag {X X' : IX} (h : zA zA_2 X X') (hC : zI_C2 X) : zI_C2 X' := by
  have e := h.row 97 (fun j => by simp [zA_2])
  have a1 := h 95 4 rfl
  have a3 := h 0 7 rfl
  refine ⟨by rw [a1, a3]; exact hC.1, by rw [a3]; exact hC.2.1, ?_⟩
  rw [a3, e]
  intro q
  refine ⟨fun k hk => ?_, (hC.2.2 q).2⟩
  rw [h _ _ (zA_pr1 k hk _)]
  exact (hC.2.2 q).1 k hk
theorem zI_C3.ag {X X' : IX} (h : zA zA_3 X X') (hC : zI_C3 X) : zI_C3 X' := by
  intro j hj
  rw [h 99 j rfl, h 11 j rfl]
  exact hC j hj
theorem zI_C4.ag {X X' : IX} (h : zA zA_4 X X') (hC : zI_C4 X) : zI_C4 X' := by
  have a2 := h 95 14 rfl
  have a4 := h 8 1 rfl
  refine ⟨by rw [a2, a4]; exact hC.1, by rw [a4]; exact hC.2.1, ?_⟩
  rw [a4]
  intro j hj
  rw [h 104 j (by simp [zA_4]), h 9 j (by simp [zA_4])]
  exact hC.2.2 j hj
theorem zI_C5.ag {X X' : IX} (h : zA zA_5 X X') (hC : zI_C5 X) : zI_C5 X' := by
  intro q hq
  have p1 : ∀ j, zA_5 (12 + q) j = true := fun j => by unfold zA_5; simp; omega
  have p2 : ∀ j, zA_5 (16 + q) j = true := fun j => by unfold zA_5; simp; omega
  rw [h 105 q (by simp [zA_5]), h 106 q (by simp [zA_5]), h _ 1 (p1 1), h _ 2 (p1 2)]
  refine ⟨(hC q hq).1, (hC q hq).2.1, (hC q hq).2.2.1, (hC q hq).2.2.2.1, fun i hi => ?_⟩
  rw [h 107 _ (by simp [zA_5]), h _ i (p2 i)]
  exact (hC q hq).2.2.2.2 i hi
/-! within -/
def zw (l a h : Int32) : Bool := decide (l ≤ a ∧ a ≤ h)
def zt (b : Bool) : Int32 := if b = true then 1 else 0
theorem zt_t : zt true = 1 := rfl
theorem zt_f : zt false = 0 := rfl
theorem zt_01 (b : Bool) : zu_01 (zt b) = true := by cases b <;> rfl
theorem zt_0 (b : Bool) : zt b = 0 ↔ b = false := by cases b <;> simp [zt]
theorem zt_1 (b : Bool) : zt b = 1 ↔ b = true := by cases b <;> simp [zt]
theorem zw_t {l a h : Int32} (q : zw l a h = true) : l ≤ a ∧ a ≤ h := of_decide_eq_true q
theorem zw_f {l a h : Int32} (q : zw l a h = false) : ¬ (l ≤ a ∧ a ≤ h) := of_decide_eq_false q
theorem zw_n {a : Int32} {m : Nat} (hm : m < 2 ^ 31) (q : zw 0 a (nI m) = true) : ∃ n, n ≤ m ∧ a = nI n := zn_nat m hm (zw_t q).1 (zw_t q).2
theorem zw_nI {l n h : Nat} (h1 : l ≤ n) (h2 : n ≤ h) (h3 : h < 2 ^ 31) : zw (nI l) (nI n) (nI h) = true := decide_eq_true ⟨(nI_leI (by omega) (by omega)).mpr h1, (nI_leI (by omega) (by omega)).mpr h2⟩
theorem zw_iff {l n h : Nat} (h1 : l < 2 ^ 31) (h2 : n < 2 ^ 31) (h3 : h < 2 ^ 31) : zw (nI l) (nI n) (nI h) = decide (l ≤ n ∧ n ≤ h) := by
  unfold zw
  rw [decide_eq_decide, nI_leI h1 h2, nI_leI h2 h3]
theorem ze_isWithin (a l h : Int32) : fn_Post_isWithin a l h = some (zt (zw l a h)) := by
  unfold fn_Post_isWithin fn_Post_isWithin_L14 fn_Post_isWithin_L15
  by_cases h1 : a < l
  · rw [if_pos h1, zp_01_0, zp_gd, show zw l a h = false from decide_eq_false (fun q => zn_nlt.mpr q.1 h1), zt_f]
  · rw [if_neg h1]
    by_cases h2 : h < a
    · rw [if_pos h2, zp_01_0, zp_gd, show zw l a h = false from decide_eq_false (fun q => zn_nlt.mpr q.2 h2), zt_f]
    · rw [if_neg h2, zp_01_1, zp_gd, show zw l a h = true from decide_eq_true ⟨zn_nlt.mp h1, zn_nlt.mp h2⟩, zt_t]
theorem ze_isCell (a : Int32) : fn_Post_isCell a = some (zt (zw 0 a 23)) := by
  unfold fn_Post_isCell
  rw [ze_isWithin, zp_b1, zt_01, zp_gd]
theorem ze_isKind (a : Int32) : fn_Post_isKind a = some (zt (zw 0 a 6)) := by
  unfold fn_Post_isKind
  rw [ze_isWithin, zp_b1, zt_01, zp_gd]
theorem ze_isSheet (a : Int32) : fn_Post_isSheet a = some (zt (zw 0 a 3)) := by
  unfold fn_Post_isSheet
  rw [ze_isWithin, zp_b1, zt_01, zp_gd]
theorem zm_cmp_lt (x y : Int64) : lg_cmp x y < 0 ↔ x < y := by
  unfold lg_cmp
  by_cases h1 : x > y
  · rw [if_pos h1]
    constructor
    · intro h; exact absurd h (by decide)
    · intro h; rw [Int64.lt_iff_toInt_lt] at h; rw [gt_iff_lt, Int64.lt_iff_toInt_lt] at h1; omega
  · rw [if_neg h1]
    by_cases h2 : x = y
    · rw [if_pos h2]
      subst h2
      constructor
      · intro h; exact absurd h (by decide)
      · intro h; rw [Int64.lt_iff_toInt_lt] at h; omega
    · rw [if_neg h2]
      constructor
      · intro _
        rw [gt_iff_lt, Int64.lt_iff_toInt_lt] at h1
        rw [← Int64.toInt_inj] at h2
        rw [Int64.lt_iff_toInt_lt]
        omega
      · intro _; decide
theorem zm_cmp_gt (x y : Int64) : 0 < lg_cmp x y ↔ y < x := by
  unfold lg_cmp
  by_cases h1 : x > y
  · rw [if_pos h1]
    exact ⟨fun _ => h1, fun _ => by decide⟩
  · rw [if_neg h1]
    by_cases h2 : x = y
    · rw [if_pos h2]
      exact ⟨fun h => absurd h (by decide), fun h => absurd h h1⟩
    · rw [if_neg h2]
      exact ⟨fun h => absurd h (by decide), fun h => absurd h h1⟩
theorem zm_cmp_eq (x y : Int64) : lg_cmp x y = 0 ↔ x = y := by
  unfold lg_cmp
  by_cases h1 : x > y
  · rw [if_pos h1]
    constructor
    · intro h; exact absurd h (by decide)
    · intro h; subst h; rw [gt_iff_lt, Int64.lt_iff_toInt_lt] at h1; omega
  · rw [if_neg h1]
    by_cases h2 : x = y
    · rw [if_pos h2]; exact ⟨fun _ => h2, fun _ => rfl⟩
    · rw [if_neg h2]; exact ⟨fun h => absurd h (by decide), fun h => absurd h h2⟩
theorem zm_cmp_le (x y : Int64) : lg_cmp x y ≤ 0 ↔ x ≤ y := by
  rw [← zn_nlt, zm_cmp_gt, Int64.lt_iff_toInt_lt, Int64.le_iff_toInt_le]; omega
theorem zm_cmp_ge (x y : Int64) : 0 ≤ lg_cmp x y ↔ y ≤ x := by
  rw [← zn_nlt, zm_cmp_lt, Int64.lt_iff_toInt_lt, Int64.le_iff_toInt_le]; omega
theorem ze_in (a l h : Int64) : fn_Mod_in a l h = some (zt (decide (l ≤ a ∧ a ≤ h))) := by
  unfold fn_Mod_in fn_Mod_in_L17 fn_Mod_in_L18
  by_cases h1 : a < l
  · have h2 : ¬ (l ≤ a ∧ a ≤ h) := by
      intro q
      rw [Int64.le_iff_toInt_le] at q
      rw [Int64.lt_iff_toInt_lt] at h1
      omega
    rw [if_pos ((zm_cmp_lt _ _).mpr h1), zp_01_0, zp_gd, decide_eq_false h2, zt_f]
  · rw [if_neg (fun q => h1 ((zm_cmp_lt _ _).mp q))]
    by_cases h2 : h < a
    · have h3 : ¬ (l ≤ a ∧ a ≤ h) := by
        rintro ⟨-, q⟩
        rw [Int64.le_iff_toInt_le] at q
        rw [Int64.lt_iff_toInt_lt] at h2
        omega
      rw [if_pos ((zm_cmp_gt _ _).mpr h2), zp_01_0, zp_gd, decide_eq_false h3, zt_f]
    · have h3 : l ≤ a ∧ a ≤ h := by
        rw [Int64.lt_iff_toInt_lt] at h1 h2
        rw [Int64.le_iff_toInt_le, Int64.le_iff_toInt_le]
        omega
      rw [if_neg (fun q => h2 ((zm_cmp_gt _ _).mp q)), zp_01_1, zp_gd, decide_eq_true h3, zt_t]
theorem ze_inN (a : Int32) (l h : Int64) (l' h' : Int32) (e1 : l = l'.toInt64) (e2 : h = h'.toInt64) : fn_Mod_in a.toInt64 l h = some (zt (zw l' a h')) := by
  rw [ze_in, e1, e2]
  exact congrArg (fun b => some (zt b)) (decide_eq_decide.mpr (by rw [zn_wle, zn_wle]))
theorem ze_mCell (a : Int32) : fn_Mod_isCell a = some (zt (zw 0 a 23)) := by
  unfold fn_Mod_isCell
  rw [ze_inN a 0 23 0 23 rfl rfl, zp_b1, zt_01, zp_gd]
theorem ze_mOne (a : Int32) : fn_Mod_isOne a = some (zt (zw 0 a 3)) := by
  unfold fn_Mod_isOne
  rw [ze_inN a 0 3 0 3 rfl rfl, zp_b1, zt_01, zp_gd]
/-! findings -/
theorem ze_find {f : Int32} (j : Nat) (hj : j < 7) (e : (-1000001 : Int32) - f = nI j) (X : IX) : fn_Post_finding f X = some (f, zu_st X 11 j (X 11 j + 1)) := by
  unfold fn_Post_finding fn_Post_finding_L25
  have hw : zw (nI 0) (nI j) (nI 6) = true := zw_nI (by omega) (by omega) (by omega)
  rw [zp_nx, e, ze_isWithin, zp_b1, show zw 0 (nI j) 6 = true from hw, zt_t, if_neg (by decide), zn_ib (m := 7) hj (by omega), zp_gd, zp_gd, zp_nx, zn_cl (by omega)]
theorem ze_finds {f : Int32} (j : Nat) (hj : j < 7) (e : (-1000001 : Int32) - f = nI j) (X : IX) : fn_Mod_finds f X = some (f, zu_st X 99 j (X 99 j + 1)) := by
  unfold fn_Mod_finds
  rw [e, zn_ib (m := 7) hj (by omega), zp_gd, zp_gd, zp_nx, zn_cl (by omega)]
theorem zI_find {X : IX} (hI : zI_INV X) (j : Nat) (hj : j < 7) : zI_INV (zu_st (zu_st X 11 j (X 11 j + 1)) 99 j (zu_st X 11 j (X 11 j + 1) 99 j + 1)) := by
  obtain ⟨h1, h2, h3, h4, h5⟩ := hI
  refine ⟨h1.ag (((zA.rf _ X).st rfl).st rfl), h2.ag (((zA.rf _ X).st rfl).st rfl), ?_, h4.ag (((zA.rf _ X).st rfl).st rfl), h5.ag (((zA.rf _ X).st rfl).st rfl)⟩
  intro i hi
  rw [zs_st, zs_st, zs_st, zs_st, zs_st]
  by_cases e : i = j
  · subst e
    simp [h3 i hi]
  · simp [e, h3 i hi]
/-- a finding on both sides -/
theorem zI_both {X : IX} (hI : zI_INV X) {f : Int32} (j : Nat) (hj : j < 7) (e : (-1000001 : Int32) - f = nI j) : ∃ (X1 X2 : IX), fn_Post_finding f X = some (f, X1) ∧ fn_Mod_finds f X1 = some (f, X2) ∧ zI_INV X2 :=
  ⟨_, _, ze_find j hj e X, ze_finds j hj e _, zI_find hI j hj⟩
/-! one number of the land, on both sides -/
theorem zI_inj (k i : Nat) (hk : k < 142) (hi : i < 142) (h1 : zI_pr 0 i = zI_pr 0 k) (h2 : zI_ps i = zI_ps k) : i = k := by
  have key : ∀ a : Fin 142, ∀ b : Fin 142, zI_pr 0 b.val = zI_pr 0 a.val → zI_ps b.val = zI_ps a.val → b.val = a.val := by decide +kernel
  exact key ⟨k, hk⟩ ⟨i, hi⟩ h1 h2
theorem zI_prF (k : Nat) (hk : k < 142) (j : Nat) : zA_2 (zI_pr 0 k) j = false ∧ zA_3 (zI_pr 0 k) j = false ∧ zA_4 (zI_pr 0 k) j = false ∧ zA_5 (zI_pr 0 k) j = false ∧ zI_pr 0 k ≠ 96 := by
  have h1 : ∀ k : Fin 142, (zI_pr 0 k.val == 20 || zI_pr 0 k.val == 23 || zI_pr 0 k.val == 29 || zI_pr 0 k.val == 32 || (decide (65 ≤ zI_pr 0 k.val) && decide (zI_pr 0 k.val ≤ 74))) = true := by decide +kernel
  have h := h1 ⟨k, hk⟩
  simp only [Bool.or_eq_true, Bool.and_eq_true, beq_iff_eq, decide_eq_true_eq] at h
  unfold zA_2 zA_3 zA_4 zA_5
  simp only [Bool.or_eq_false_iff, Bool.and_eq_false_iff, beq_eq_false_iff_ne, decide_eq_false_iff_not, ne_eq]
  omega
theorem zI_LI_put {X : IX} {S : Nat → Int32} (h : zI_LI X 0 S) {k : Nat} (hk : k < 142) (v : Int32) : zI_LI (zu_st X (zI_pr 0 k) (zI_ps k) v) 0 (upd S k v) := by
  intro i hi
  rw [zs_st]
  by_cases e : i = k
  · subst e
    simp [upd]
  · rw [if_neg (fun q => e (zI_inj k i hk hi q.1 q.2)), h i hi]
    simp [upd, e]
theorem zI_put {X : IX} (hI : zI_INV X) {k : Nat} (hk : k < 142) {v : Int32} (hW : zI_WF (upd (X 96) k v)) : zI_INV (zu_st (zu_st X (zI_pr 0 k) (zI_ps k) v) 96 k v) := by
  obtain ⟨h1, h2, h3, h4, h5⟩ := hI
  have hF := fun j => zI_prF k hk j
  have e96 : zu_st (zu_st X (zI_pr 0 k) (zI_ps k) v) 96 k v 96 = upd (X 96) k v := by rw [zs_row, zs_other _ _ _ (Ne.symm (hF 0).2.2.2.2)]
  refine ⟨⟨?_, by rw [e96]; exact hW⟩, h2.ag (((zA.rf _ X).st (hF _).1).st rfl), h3.ag (((zA.rf _ X).st (hF _).2.1).st rfl), h4.ag (((zA.rf _ X).st (hF _).2.2.1).st rfl), h5.ag (((zA.rf _ X).st (hF _).2.2.2.1).st rfl)⟩
  rw [e96]
  intro i hi
  rw [zs_other _ _ _ (zI_prF i hi 0).2.2.2.2]
  exact zI_LI_put h1.1 hk v i hi
/-! where the land's numbers are read -/
theorem zL_h {X : IX} {S : Nat → Int32} {o r : Nat} (hr : r = 20 + o) (h : zI_LI X o S) : X r 8 = S 0 ∧ X r 4 = S 1 ∧ X r 5 = S 2 ∧ X r 6 = S 3 ∧ X r 7 = S 4 ∧ X r 9 = S 5 := by
  subst hr
  exact ⟨h 0 (by omega), h 1 (by omega), h 2 (by omega), h 3 (by omega), h 4 (by omega), h 5 (by omega)⟩
theorem zL_p6 (o c : Nat) (hc : c < 24) : zI_pr o (6 + c) = 20 + o + 3 ∧ zI_ps (6 + c) = c := by
  unfold zI_pr zI_ps
  rw [if_neg (by omega), if_pos (by omega), if_neg (by omega), if_pos (by omega)]
  omega
theorem zL_p30 (o t f : Nat) (ht : t < 10) (hf : f < 9) : zI_pr o (30 + 9 * t + f) = zu_th (20 + o + 6) t + 30 ∧ zI_ps (30 + 9 * t + f) = f := by
  unfold zI_pr zI_ps zu_th
  rw [if_neg (by omega), if_neg (by omega), if_pos (by omega), if_neg (by omega), if_neg (by omega), if_pos (by omega)]
  omega
theorem zL_p120 (o i : Nat) (hi : i < 12) : zI_pr o (120 + i) = 20 + o + 9 ∧ zI_ps (120 + i) = i := by
  unfold zI_pr zI_ps
  rw [if_neg (by omega), if_neg (by omega), if_neg (by omega), if_pos (by omega), if_neg (by omega), if_neg (by omega), if_neg (by omega), if_pos (by omega)]
  omega
theorem zL_p132 (o i : Nat) (hi : i < 10) : zI_pr o (132 + i) = 20 + o + 12 ∧ zI_ps (132 + i) = i := by
  unfold zI_pr zI_ps
  rw [if_neg (by omega), if_neg (by omega), if_neg (by omega), if_neg (by omega), if_neg (by omega), if_neg (by omega), if_neg (by omega), if_neg (by omega)]
  omega
theorem zL_stuff {X : IX} {S : Nat → Int32} {o r : Nat} (hr : r = 20 + o) (h : zI_LI X o S) {c : Nat} (hc : c < 24) : X (r + 3) c = S (6 + c) := by
  subst hr
  have q := h (6 + c) (by omega)
  rwa [(zL_p6 o c hc).1, (zL_p6 o c hc).2] at q
theorem zL_fact {X : IX} {S : Nat → Int32} {o r : Nat} (hr : r = 20 + o) (h : zI_LI X o S) {t f : Nat} (ht : t < 10) (hf : f < 9) : X (zu_th (r + 6) t + 30) f = S (30 + 9 * t + f) := by
  subst hr
  have q := h (30 + 9 * t + f) (by omega)
  rwa [(zL_p30 o t f ht hf).1, (zL_p30 o t f ht hf).2] at q
theorem zL_let {X : IX} {S : Nat → Int32} {o r : Nat} (hr : r = 20 + o) (h : zI_LI X o S) {i : Nat} (hi : i < 12) : X (r + 9) i = S (120 + i) := by
  subst hr
  have q := h (120 + i) (by omega)
  rwa [(zL_p120 o i hi).1, (zL_p120 o i hi).2] at q
theorem zL_spot {X : IX} {S : Nat → Int32} {o r : Nat} (hr : r = 20 + o) (h : zI_LI X o S) {i : Nat} (hi : i < 10) : X (r + 12) i = S (132 + i) := by
  subst hr
  have q := h (132 + i) (by omega)
  rwa [(zL_p132 o i hi).1, (zL_p132 o i hi).2] at q
/-! numbers with a bound -/
theorem zI_le.n {x : Int32} {b : Nat} (h : zI_le x b) (hb : b < 2 ^ 31) : x = nI x.toNatClampNeg ∧ x.toNatClampNeg ≤ b := by
  obtain ⟨n, h1, rfl⟩ := h
  rw [nI_clamp (by omega)]
  exact ⟨rfl, h1⟩
theorem zI_le.of {n b : Nat} (h : n ≤ b) : zI_le (nI n) b := ⟨n, h, rfl⟩
theorem zI_le.mono {x : Int32} {a b : Nat} (h : zI_le x a) (hab : a ≤ b) : zI_le x b := by
  obtain ⟨n, h1, e⟩ := h
  exact ⟨n, by omega, e⟩
