/-! numbers -/
theorem zn_le (a b : Int32) : a ≤ b ↔ a.toInt ≤ b.toInt := Int32.le_iff_toInt_le
theorem zn_lt (a b : Int32) : a < b ↔ a.toInt < b.toInt := Int32.lt_iff_toInt_lt
theorem zn_eq (a b : Int32) : a = b ↔ a.toInt = b.toInt := Int32.toInt_inj.symm
theorem zn_wle (a b : Int32) : a.toInt64 ≤ b.toInt64 ↔ a ≤ b := by rw [Int64.le_iff_toInt_le, zn_le, Int32.toInt_toInt64, Int32.toInt_toInt64]
theorem zn_nlt {a b : Int32} : ¬ a < b ↔ b ≤ a := by rw [zn_lt, zn_le]; omega
theorem zn_nle {a b : Int32} : ¬ a ≤ b ↔ b < a := by rw [zn_lt, zn_le]; omega
theorem zn_nat {a : Int32} (m : Nat) (hm : m < 2 ^ 31) (h0 : 0 ≤ a) (h1 : a ≤ nI m) : ∃ n, n ≤ m ∧ a = nI n := by
  obtain ⟨j, hj, e⟩ := nI_of (x := a) (fun h => by rw [zn_lt] at h; rw [zn_le] at h0; omega)
  rw [e, nI_leI hj hm] at h1
  exact ⟨j, h1, e⟩
theorem zn_0le {n : Nat} (h : n < 2 ^ 31) : (0 : Int32) ≤ nI n := nI_pos' h
theorem zn_cl {n : Nat} (h : n < 2 ^ 31) : (nI n).toNatClampNeg = n := nI_clamp h
theorem zn_ib {n m : Nat} (h : n < m) (hm : m < 2 ^ 31) : zu_ib (nI n) m = true := decide_eq_true (nI_in h hm)
theorem zn_tn {a : Int32} {n : Nat} (h : a = nI n) (hn : n < 2 ^ 31) : a.toNatClampNeg = n := by rw [h]; exact nI_clamp hn
/-! the binders -/
theorem zp_nx {α β : Type} (a : α) (k : α → β) : zu_nx a k = k a := rfl
theorem zp_b1 {α β : Type} (a : α) (k : α → Option β) : zu_b1 (some a) k = k a := rfl
theorem zp_b2 {α β γ : Type} (a : α) (b : β) (k : α → β → Option γ) : zu_b2 (some (a, b)) k = k a b := rfl
theorem zp_b3 {α β γ δ : Type} (a : α) (b : β) (c : γ) (k : α → β → γ → Option δ) : zu_b3 (some (a, b, c)) k = k a b c := rfl
theorem zp_gd {α : Type} (k : Option α) : zu_gd true k = k := rfl
theorem zp_gdp {α : Type} {b : Bool} (h : b = true) (k : Option α) : zu_gd b k = k := by rw [h]; rfl
theorem zp_01_0 : zu_01 0 = true := rfl
theorem zp_01_1 : zu_01 1 = true := rfl
/-- a truth as an int -/
def zb (P : Prop) [inst : Decidable P] : Int32 := if P then 1 else 0
theorem zb_01 (P : Prop) [inst : Decidable P] : zu_01 (zb P) = true := by unfold zb; split <;> rfl
theorem zb_0 (P : Prop) [inst : Decidable P] : zb P = 0 ↔ ¬ P := by unfold zb; split <;> simp [*]
theorem zb_t {P : Prop} [inst : Decidable P] (h : P) : zb P = 1 := if_pos h
theorem zb_f {P : Prop} [inst : Decidable P] (h : ¬ P) : zb P = 0 := if_neg h
/-! stores -/
theorem zs_st (X : IX) (r j : Nat) (v : Int32) (a b : Nat) : zu_st X r j v a b = if a = r ∧ b = j then v else X a b := by
  unfold zu_st zu_up
  by_cases h : a = r
  · subst h
    by_cases h2 : b = j
    · subst h2; simp [upd]
    · simp [upd, h2]
  · simp [h]
theorem zs_row (X : IX) (r j : Nat) (v : Int32) : zu_st X r j v r = upd (X r) j v := zu_up_s
theorem zs_other (X : IX) {r a : Nat} (j : Nat) (v : Int32) (h : a ≠ r) : zu_st X r j v a = X a := zu_up_n h
/-! the land as one row: where its k-th number lies in the class -/
def zI_pr (o k : Nat) : Nat := if k < 6 then 20 + o else if k < 30 then 23 + o else if k < 120 then 65 + 10 * o + (k - 30) / 9 else if k < 132 then 29 + o else 32 + o
def zI_ps (k : Nat) : Nat := if k < 6 then ([8, 4, 5, 6, 7, 9] : List Nat).getD k 0 else if k < 30 then k - 6 else if k < 120 then (k - 30) % 9 else if k < 132 then k - 120 else k - 132
def zI_LI (X : IX) (o : Nat) (S : Nat → Int32) : Prop := ∀ k, k < 142 → X (zI_pr o k) (zI_ps k) = S k
def zN (S : Nat → Int32) (j : Nat) : Nat := (S j).toNatClampNeg
def zI_le (x : Int32) (b : Nat) : Prop := ∃ n : Nat, n ≤ b ∧ x = nI n
/-- a thrower's facts -/
def zI_th (S : Nat → Int32) (t : Nat) : Prop := zI_le (S (30 + 9 * t)) 6 ∧ zI_le (S (30 + 9 * t + 1)) 23 ∧ (zI_le (S (30 + 9 * t + 2)) 9 ∧ 1 ≤ zN S (30 + 9 * t + 2)) ∧ (zI_le (S (30 + 9 * t + 3)) 12 ∧ 1 ≤ zN S (30 + 9 * t + 3)) ∧ zI_le (S (30 + 9 * t + 4)) 1 ∧ zI_le (S (30 + 9 * t + 5)) 12 ∧ zI_le (S (30 + 9 * t + 6)) 1 ∧ zI_le (S (30 + 9 * t + 7)) 1 ∧ zI_le (S (30 + 9 * t + 8)) (12 * zN S 0)
/-- what holds of a land -/
def zI_WF (S : Nat → Int32) : Prop := zI_le (S 0) 9999 ∧ zI_le (S 1) 10 ∧ zI_le (S 2) 12 ∧ zI_le (S 3) 23 ∧ zI_le (S 4) 9 ∧ (∀ c, c < 24 → zI_le (S (6 + c)) 3) ∧ (∀ t, t < zN S 1 → zI_th S t) ∧ (∀ i, i < zN S 2 → zI_le (S (120 + i)) 23) ∧ (∀ q, q < 10 → S (132 + q) = -1 ∨ ∃ n, n < zN S 1 ∧ S (132 + q) = nI n) ∧ (∀ t u, t < zN S 1 → u < zN S 1 → S (30 + 9 * t + 1) = S (30 + 9 * u + 1) → t = u)
def zI_C1 (X : IX) : Prop := zI_LI X 0 (X 96) ∧ zI_WF (X 96)
def zI_C2 (X : IX) : Prop := X 95 4 = X 0 7 ∧ (X 0 7 = 0 ∨ X 0 7 = 1) ∧ (X 0 7 = 1 → zI_LI X 1 (X 97) ∧ zI_WF (X 97))
def zI_C3 (X : IX) : Prop := ∀ j, j < 7 → X 99 j = X 11 j
def zI_C4 (X : IX) : Prop := X 95 14 = X 8 1 ∧ zI_le (X 8 1) 120 ∧ ∀ j, j < (X 8 1).toNatClampNeg → X 104 j = X 9 j ∧ zI_le (X 9 j) 255
def zI_C5 (X : IX) : Prop := ∀ q, q < 4 → X 105 q = X (12 + q) 1 ∧ X 106 q = X (12 + q) 2 ∧ (X (12 + q) 1 = 0 ∨ X (12 + q) 1 = 8 ∨ X (12 + q) 1 = 16 ∨ X (12 + q) 1 = 32) ∧ zI_le (X (12 + q) 2) 40 ∧ ∀ i, i < 40 → X 107 (40 * q + i) = X (16 + q) i
def zI_INV (X : IX) : Prop := zI_C1 X ∧ zI_C2 X ∧ zI_C3 X ∧ zI_C4 X ∧ zI_C5 X
/-- what the invariant speaks of -/
def zI_imp (r j : Nat) : Bool := (r == 0) || (r == 8 && j == 1) || r == 9 || r == 11 || (decide (12 ≤ r) && decide (r ≤ 21)) || r == 23 || r == 24 || r == 29 || r == 30 || r == 32 || r == 33 || (decide (65 ≤ r) && decide (r ≤ 84)) || (r == 95 && (j == 4 || j == 14)) || r == 96 || r == 97 || r == 99 || r == 104 || r == 105 || r == 106 || r == 107
def zI_keep (X X' : IX) : Prop := ∀ r j, zI_imp r j = true → X' r j = X r j
theorem zI_keep.rf (X : IX) : zI_keep X X := fun _ _ _ => rfl
theorem zI_keep.tr {X Y Z : IX} (h : zI_keep X Y) (h2 : zI_keep Y Z) : zI_keep X Z := fun r j hi => (h2 r j hi).trans (h r j hi)
theorem zI_keep.st {X : IX} {r j : Nat} {v : Int32} (h : zI_imp r j = false) : zI_keep X (zu_st X r j v) := by
  intro a b hi
  rw [zs_st, if_neg]
  rintro ⟨rfl, rfl⟩
  rw [h] at hi
  cases hi
theorem zI_keep.up {X : IX} {r : Nat} {f : Nat → Int32} (h : ∀ j, zI_imp r j = false) : zI_keep X (zu_up X r f) := by
  intro a b hi
  unfold zu_up
  by_cases e : a = r
  · subst e
    rw [h b] at hi
    cases hi
  · rw [if_neg e]
theorem zI_keep.row {X X' : IX} (h : zI_keep X X') (r : Nat) (hr : ∀ j, zI_imp r j = true) : X' r = X r := funext fun j => h r j (hr j)
theorem zI_pr_imp (o k : Nat) (ho : o < 2) (hk : k < 142) (j : Nat) : zI_imp (zI_pr o k) j = true := by
  have h1 : ∀ o : Fin 2, ∀ k : Fin 142, (zI_pr o.val k.val == 20 || zI_pr o.val k.val == 21 || zI_pr o.val k.val == 23 || zI_pr o.val k.val == 24 || zI_pr o.val k.val == 29 || zI_pr o.val k.val == 30 || zI_pr o.val k.val == 32 || zI_pr o.val k.val == 33 || (decide (65 ≤ zI_pr o.val k.val) && decide (zI_pr o.val k.val ≤ 84))) = true := by decide +kernel
  have h := h1 ⟨o, ho⟩ ⟨k, hk⟩
  simp only [Bool.or_eq_true, Bool.and_eq_true, beq_iff_eq, decide_eq_true_eq] at h
  unfold zI_imp
  simp only [Bool.or_eq_true, Bool.and_eq_true, beq_iff_eq, decide_eq_true_eq]
  omega
theorem zI_LI.keep {X X' : IX} {o : Nat} {S : Nat → Int32} (ho : o < 2) (h : zI_keep X X') (hL : zI_LI X o S) : zI_LI X' o S := fun k hk => (h _ _ (zI_pr_imp o k ho hk _)).trans (hL k hk)
theorem zI_INV.keep {X X' : IX} (h : zI_keep X X') (hI : zI_INV X) : zI_INV X' := by
  obtain ⟨h1, h2, h3, h4, h5⟩ := hI
  have e96 := h.row 96 (fun j => by simp [zI_imp])
  have e97 := h.row 97 (fun j => by simp [zI_imp])
  have e99 := h.row 99 (fun j => by simp [zI_imp])
  have e11 := h.row 11 (fun j => by simp [zI_imp])
  have e9 := h.row 9 (fun j => by simp [zI_imp])
  have e104 := h.row 104 (fun j => by simp [zI_imp])
  have e105 := h.row 105 (fun j => by simp [zI_imp])
  have e106 := h.row 106 (fun j => by simp [zI_imp])
  have e107 := h.row 107 (fun j => by simp [zI_imp])
  have a1 := h 95 4 (by decide)
  have a2 := h 95 14 (by decide)
  have a3 := h 0 7 (by decide)
  have a4 := h 8 1 (by decide)
  refine ⟨⟨?_, ?_⟩, ⟨?_, ?_, ?_⟩, ?_, ⟨?_, ?_, ?_⟩, ?_⟩
  · rw [e96]; exact h1.1.keep (by decide) h
  · rw [e96]; exact h1.2
  · rw [a1, a3]; exact h2.1
  · rw [a3]; exact h2.2.1
  · rw [a3, e97]
    intro e
    exact ⟨(h2.2.2 e).1.keep (by decide) h, (h2.2.2 e).2⟩
  · unfold zI_C3; rw [e99, e11]; exact h3
  · rw [a2, a4]; exact h4.1
  · rw [a4]; exact h4.2.1
  · rw [a4, e104, e9]; exact h4.2.2
  · intro q hq
    have i1 := h (12 + q) 1 (by unfold zI_imp; simp; omega)
    have i2 := h (12 + q) 2 (by unfold zI_imp; simp; omega)
    have i3 := h.row (16 + q) (fun j => by unfold zI_imp; simp; omega)
    rw [e105, e106, e107, i1, i2, i3]
    exact h5 q hq
