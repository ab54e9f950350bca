abbrev IX : Type := Nat → Nat → Int32
abbrev LX : Type := Nat → Nat → Int64
def zu_up (X : IX) (r : Nat) (f : Nat → Int32) : IX := fun a => if a = r then f else X a
def zu_upl (Y : LX) (r : Nat) (f : Nat → Int64) : LX := fun a => if a = r then f else Y a
def zu_st (X : IX) (r j : Nat) (v : Int32) : IX := zu_up X r (upd (X r) j v)
def zu_stl (Y : LX) (r j : Nat) (v : Int64) : LX := zu_upl Y r (vp_updL (Y r) j v)
def zu_nx {α β : Type} (a : α) (k : α → β) : β := k a
def zu_gd {α : Type} (b : Bool) (k : Option α) : Option α := if b = true then k else none
def zu_b1 {α β : Type} (o : Option α) (k : α → Option β) : Option β := match o with
  | none => none
  | some a => k a
def zu_b2 {α β γ : Type} (o : Option (α × β)) (k : α → β → Option γ) : Option γ := match o with
  | none => none
  | some (a, b) => k a b
def zu_b3 {α β γ δ : Type} (o : Option (α × β × γ)) (k : α → β → γ → Option δ) : Option δ := match o with
  | none => none
  | some (a, b, c) => k a b c
def zu_ib (i : Int32) (n : Nat) : Bool := decide (¬ (i < 0 ∨ n ≤ i.toNatClampNeg))
def zu_01 (v : Int32) : Bool := decide (v = 0 ∨ v = 1)
def zu_cp (sp dp n : Int32) (n0 n1 : Nat) : Bool := decide (¬ sp < 0 ∧ ¬ dp < 0 ∧ ¬ n < 0 ∧ sp.toNatClampNeg + n.toNatClampNeg ≤ n0 ∧ dp.toNatClampNeg + n.toNatClampNeg ≤ n1)
theorem zu_nx_e {α β : Type} {a : α} {k : α → β} {R : β} (h : zu_nx a k = R) : ∃ v, v = a ∧ k v = R := ⟨a, rfl, h⟩
theorem zu_gd_e {α : Type} {b : Bool} {k : Option α} {R : α} (h : zu_gd b k = some R) : b = true ∧ k = some R := by
  cases b with
  | true => exact ⟨rfl, h⟩
  | false => cases h
theorem zu_b1_e {α β : Type} {o : Option α} {k : α → Option β} {R : β} (h : zu_b1 o k = some R) : ∃ a, o = some a ∧ k a = some R := by
  cases o with
  | none => cases h
  | some a => exact ⟨a, rfl, h⟩
theorem zu_b2_e {α β γ : Type} {o : Option (α × β)} {k : α → β → Option γ} {R : γ} (h : zu_b2 o k = some R) : ∃ a b, o = some (a, b) ∧ k a b = some R := by
  cases o with
  | none => cases h
  | some a => exact ⟨a.1, a.2, rfl, h⟩
theorem zu_b3_e {α β γ δ : Type} {o : Option (α × β × γ)} {k : α → β → γ → Option δ} {R : δ} (h : zu_b3 o k = some R) : ∃ a b c, o = some (a, b, c) ∧ k a b c = some R := by
  cases o with
  | none => cases h
  | some a => exact ⟨a.1, a.2.1, a.2.2, rfl, h⟩
theorem zu_t {α : Type} {P : Prop} [inst : Decidable P] {a b R : α} (c : P) (h : (if P then a else b) = R) : a = R := (if_pos c).symm.trans h
theorem zu_f {α : Type} {P : Prop} [inst : Decidable P] {a b R : α} (c : ¬ P) (h : (if P then a else b) = R) : b = R := (if_neg c).symm.trans h
theorem zu_ib_in {i : Int32} {n : Nat} (h : zu_ib i n = true) : vp_in i n := (of_decide_eq_true h : ¬ (i < 0 ∨ n ≤ i.toNatClampNeg))
theorem zu_ib_lt {i : Int32} {n : Nat} (h : zu_ib i n = true) : i.toNatClampNeg < n := Nat.not_le.mp fun q => zu_ib_in h (Or.inr q)
theorem zu_cp_e {sp dp n : Int32} {n0 n1 : Nat} (h : zu_cp sp dp n n0 n1 = true) : ¬ sp < 0 ∧ ¬ dp < 0 ∧ ¬ n < 0 ∧ sp.toNatClampNeg + n.toNatClampNeg ≤ n0 ∧ dp.toNatClampNeg + n.toNatClampNeg ≤ n1 := of_decide_eq_true h
theorem zu_01_n {v : Int32} (h : zu_01 v = true) : narrow .boolean (.int v) = .int v := by
  rcases (of_decide_eq_true h : v = 0 ∨ v = 1) with rfl | rfl <;> rfl
theorem zu_01_f {v : Int32} (h : zu_01 v = true) : fits .boolean (.int v) = true := by
  rcases (of_decide_eq_true h : v = 0 ∨ v = 1) with rfl | rfl <;> rfl
abbrev zu_cl : List vw_C := [(zc_Chart, zt_Chart, 9), (zc_Land, zt_Land, 10), (zc_Sheet, zt_Sheet, 3), (zc_Tape, zt_Tape, 6), (zc_Thr, zt_Thr, 1), (zc_Post, zt_Post, 8), (zc_Mod, zt_Mod, 23)]
def zu_kdL : List Nat := [1, 2, 10, 10, 10, 11, 12, 12, 3, 13, 14, 15, 4, 4, 4, 4, 16, 16, 16, 16, 5, 5, 5, 11, 11, 11, 17, 17, 17, 18, 18, 18, 19, 19, 19, 6, 6, 6, 6, 6, 6, 6, 6, 6, 6, 6, 6, 6, 6, 6, 6, 6, 6, 6, 6, 6, 6, 6, 6, 6, 6, 6, 6, 6, 6, 20, 20, 20, 20, 20, 20, 20, 20, 20, 20, 20, 20, 20, 20, 20, 20, 20, 20, 20, 20, 20, 20, 20, 20, 20, 20, 20, 20, 20, 20, 7, 21, 21, 21, 15, 12, 12, 12, 19, 13, 22, 22, 23, 16]
def zu_kd (r : Nat) : Nat := zu_kdL.getD r 0
def zu_th (a j : Nat) : Nat := 35 + 10 * (a - 26) + j
def zu_ob (ad : Nat → Nat) (x : Nat → Int32) (r K : Nat) : Nat × List Value := match K with
  | 1 => (5, [.ref (ad 20), .ref (ad 21), .ref (ad 22), .ref (ad 1), .ref (ad 8), .ref (ad 10), .ref (ad 11), .int (x 7)])
  | 2 => (0, [.ref (ad 2), .ref (ad 3), .ref (ad 4), .ref (ad 5), .ref (ad 6), .ref (ad 7), .int (x 6), .int (x 7), .int (x 8)])
  | 3 => (3, [.ref (ad 9), .int (x 1), .int (x 2), .int (x 3), .int (x 4), .int (x 5)])
  | 4 => (2, [.ref (ad (r + 4)), .int (x 1), .int (x 2)])
  | 5 => (1, [.ref (ad (r + 3)), .ref (ad (r + 6)), .ref (ad (r + 9)), .ref (ad (r + 12)), .int (x 4), .int (x 5), .int (x 6), .int (x 7), .int (x 8), .int (x 9)])
  | 6 => (4, [.ref (ad (r + 30))])
  | 7 => (6, [.ref (ad 96), .ref (ad 97), .ref (ad 98), .ref (ad 99), .int (x 4), .int (x 5), .int (x 6), .int (x 7), .int (x 8), .ref (ad 100), .ref (ad 101), .ref (ad 102), .ref (ad 103), .ref (ad 104), .int (x 14), .int (x 15), .int (x 16), .int (x 17), .int (x 18), .ref (ad 105), .ref (ad 106), .ref (ad 107), .ref (ad 108)])
  | _ => (0, [])
def zu_tg (K : Nat) : Nat × Nat := match K with
  | 10 => (0, 96)
  | 11 => (0, 24)
  | 12 => (1, 24)
  | 13 => (0, 120)
  | 14 => (2, 4)
  | 15 => (0, 7)
  | 16 => (0, 40)
  | 17 => (3, 10)
  | 18 => (0, 12)
  | 19 => (0, 10)
  | 20 => (0, 9)
  | 21 => (0, 142)
  | 22 => (0, 4)
  | 23 => (0, 160)
  | _ => (0, 0)
def zu_ar (cA : Nat → ClassId) (ad : Nat → Nat) (x : Nat → Int32) (y : Nat → Int64) (r : Nat) (t : Nat × Nat) : ClassId × vp_A := match t.1 with
  | 0 => (cA 0, t.2, .inl x)
  | 1 => (cA 1, t.2, .inr (.inl y))
  | 2 => (cA 2, t.2, .inr (.inr (.inr (.inr (fun j => some (ad (12 + j)))))))
  | _ => (cA 3, t.2, .inr (.inr (.inr (.inr (fun j => some (ad (zu_th r j)))))))
def zu_ent (cA : Nat → ClassId) (ad : Nat → Nat) (X : IX) (Y : LX) (r : Nat) : va_E := if zu_kd r < 10 then .inr (zu_ob ad (X r) r (zu_kd r)) else .inl (zu_ar cA ad (X r) (Y r) r (zu_tg (zu_kd r)))
def zu_pic (cA : Nat → ClassId) (ad : Nat → Nat) (X : IX) (Y : LX) : va_W := (List.range 109).map (fun r => (ad r, zu_ent cA ad X Y r))
def zu_tys (cA : Nat → ClassId) : List (ClassId × FieldType) := [(cA 0, .int), (cA 1, .long), (cA 2, .object "StonePost$Sheet"), (cA 3, .object "StonePost$Thrower")]
theorem zu_lt {r K : Nat} (h : zu_kd r = K) (hK : K ≠ 0) : r < 109 := by
  rcases Nat.lt_or_ge r 109 with q | q
  · exact q
  · exact absurd (h.symm.trans (show zu_kdL.getD r 0 = 0 by rw [List.getD_eq_getElem?_getD, List.getElem?_eq_none (show zu_kdL.length ≤ r from q)]; rfl)) hK
theorem zu_at (cA : Nat → ClassId) (ad : Nat → Nat) (X : IX) (Y : LX) {r : Nat} (h : r < 109) : (zu_pic cA ad X Y)[r]? = some (ad r, zu_ent cA ad X Y r) := by
  simp [zu_pic, List.getElem?_map, List.getElem?_range h]
theorem zu_at_o (cA : Nat → ClassId) (ad : Nat → Nat) (X : IX) (Y : LX) {r K : Nat} (h : zu_kd r = K) (h0 : K ≠ 0) (h1 : K < 10) : (zu_pic cA ad X Y)[r]? = some (ad r, .inr (zu_ob ad (X r) r K)) := by
  rw [zu_at cA ad X Y (zu_lt h h0), zu_ent, h, if_pos h1]
theorem zu_at_a (cA : Nat → ClassId) (ad : Nat → Nat) (X : IX) (Y : LX) {r K : Nat} (h : zu_kd r = K) (h1 : ¬ K < 10) : (zu_pic cA ad X Y)[r]? = some (ad r, .inl (zu_ar cA ad (X r) (Y r) r (zu_tg K))) := by
  rw [zu_at cA ad X Y (zu_lt h (by omega)), zu_ent, h, if_neg h1]
theorem zu_set (cA : Nat → ClassId) (ad : Nat → Nat) {X X' : IX} {Y Y' : LX} {r : Nat} (hX : ∀ a, a ≠ r → X' a = X a) (hY : ∀ a, a ≠ r → Y' a = Y a) {E : va_E} (hE : zu_ent cA ad X' Y' r = E) : (zu_pic cA ad X Y).set r (ad r, E) = zu_pic cA ad X' Y' := by
  subst hE
  apply List.ext_getElem?
  intro k
  by_cases hk : r = k
  · subst hk
    rw [List.getElem?_set]
    by_cases h : r < 109
    · simp [zu_pic, List.getElem?_range h, h]
    · simp [zu_pic, h]
  · rw [List.getElem?_set_ne hk]
    simp only [zu_pic, List.getElem?_map]
    by_cases h : k < 109
    · rw [List.getElem?_range h]
      simp only [Option.map_some, zu_ent, hX k (Ne.symm hk), hY k (Ne.symm hk)]
    · rw [List.getElem?_eq_none (by simpa using h)]
      rfl
theorem zu_up_s {X : IX} {r : Nat} {f : Nat → Int32} : zu_up X r f r = f := if_pos rfl
theorem zu_up_n {X : IX} {r a : Nat} {f : Nat → Int32} (h : a ≠ r) : zu_up X r f a = X a := if_neg h
theorem zu_upl_s {X : LX} {r : Nat} {f : Nat → Int64} : zu_upl X r f r = f := if_pos rfl
theorem zu_upl_n {X : LX} {r a : Nat} {f : Nat → Int64} (h : a ≠ r) : zu_upl X r f a = X a := if_neg h
theorem zu_set_o (cA : Nat → ClassId) (ad : Nat → Nat) {X : IX} {Y : LX} {r K k : Nat} {v : Int32} {o : Nat × List Value} (h : zu_kd r = K) (h1 : K < 10) (ho : zu_ob ad (upd (X r) k v) r K = o) : (zu_pic cA ad X Y).set r (ad r, .inr o) = zu_pic cA ad (zu_st X r k v) Y := by
  refine zu_set cA ad (fun a ha => zu_up_n ha) (fun _ _ => rfl) ?_
  rw [zu_ent, h, if_pos h1, zu_up_s, ho]
theorem zu_set_i (cA : Nat → ClassId) (ad : Nat → Nat) {X : IX} {Y : LX} {r K n : Nat} {f : Nat → Int32} (h : zu_kd r = K) (h1 : ¬ K < 10) (ht : zu_tg K = (0, n)) : (zu_pic cA ad X Y).set r (ad r, .inl (cA 0, n, .inl f)) = zu_pic cA ad (zu_up X r f) Y := by
  refine zu_set cA ad (fun a ha => zu_up_n ha) (fun _ _ => rfl) ?_
  rw [zu_ent, h, if_neg h1, ht, zu_up_s]
  rfl
theorem zu_set_l (cA : Nat → ClassId) (ad : Nat → Nat) {X : IX} {Y : LX} {r K n : Nat} {f : Nat → Int64} (h : zu_kd r = K) (h1 : ¬ K < 10) (ht : zu_tg K = (1, n)) : (zu_pic cA ad X Y).set r (ad r, .inl (cA 1, n, .inr (.inl f))) = zu_pic cA ad X (zu_upl Y r f) := by
  refine zu_set cA ad (fun _ _ => rfl) (fun a ha => zu_upl_n ha) ?_
  rw [zu_ent, h, if_neg h1, ht, zu_upl_s]
  rfl
theorem zu_at_i (cA : Nat → ClassId) (ad : Nat → Nat) (X : IX) (Y : LX) {r K n : Nat} (h : zu_kd r = K) (h1 : ¬ K < 10) (ht : zu_tg K = (0, n)) : (zu_pic cA ad X Y)[r]? = some (ad r, .inl (cA 0, n, .inl (X r))) := by
  rw [zu_at_a cA ad X Y h h1, ht]; rfl
theorem zu_at_l (cA : Nat → ClassId) (ad : Nat → Nat) (X : IX) (Y : LX) {r K n : Nat} (h : zu_kd r = K) (h1 : ¬ K < 10) (ht : zu_tg K = (1, n)) : (zu_pic cA ad X Y)[r]? = some (ad r, .inl (cA 1, n, .inr (.inl (Y r)))) := by
  rw [zu_at_a cA ad X Y h h1, ht]; rfl
theorem zu_at_s (cA : Nat → ClassId) (ad : Nat → Nat) (X : IX) (Y : LX) {r : Nat} (h : zu_kd r = 14) : (zu_pic cA ad X Y)[r]? = some (ad r, .inl (cA 2, 4, .inr (.inr (.inr (.inr (fun j => some (ad (12 + j)))))))) := by
  rw [zu_at_a cA ad X Y h (by decide)]; rfl
theorem zu_at_t (cA : Nat → ClassId) (ad : Nat → Nat) (X : IX) (Y : LX) {r : Nat} (h : zu_kd r = 17) : (zu_pic cA ad X Y)[r]? = some (ad r, .inl (cA 3, 10, .inr (.inr (.inr (.inr (fun j => some (ad (zu_th r j)))))))) := by
  rw [zu_at_a cA ad X Y h (by decide)]; rfl
theorem zk_Sheet_numbers {r : Nat} (h : zu_kd r = 4) : zu_kd (r + 4) = 16 := by
  have key : ∀ q : Fin 109, zu_kd q.val = 4 → zu_kd (q.val + 4) = 16 := by decide +kernel
  exact key ⟨r, zu_lt h (by decide)⟩ h
theorem zk_Land_stuffs {r : Nat} (h : zu_kd r = 5) : zu_kd (r + 3) = 11 := by
  have key : ∀ q : Fin 109, zu_kd q.val = 5 → zu_kd (q.val + 3) = 11 := by decide +kernel
  exact key ⟨r, zu_lt h (by decide)⟩ h
theorem zk_Land_throwers {r : Nat} (h : zu_kd r = 5) : zu_kd (r + 6) = 17 := by
  have key : ∀ q : Fin 109, zu_kd q.val = 5 → zu_kd (q.val + 6) = 17 := by decide +kernel
  exact key ⟨r, zu_lt h (by decide)⟩ h
theorem zk_Land_letterCells {r : Nat} (h : zu_kd r = 5) : zu_kd (r + 9) = 18 := by
  have key : ∀ q : Fin 109, zu_kd q.val = 5 → zu_kd (q.val + 9) = 18 := by decide +kernel
  exact key ⟨r, zu_lt h (by decide)⟩ h
theorem zk_Land_spots {r : Nat} (h : zu_kd r = 5) : zu_kd (r + 12) = 19 := by
  have key : ∀ q : Fin 109, zu_kd q.val = 5 → zu_kd (q.val + 12) = 19 := by decide +kernel
  exact key ⟨r, zu_lt h (by decide)⟩ h
theorem zk_Thr_facts {r : Nat} (h : zu_kd r = 6) : zu_kd (r + 30) = 20 := by
  have key : ∀ q : Fin 109, zu_kd q.val = 6 → zu_kd (q.val + 30) = 20 := by decide +kernel
  exact key ⟨r, zu_lt h (by decide)⟩ h
theorem zk_thr {r : Nat} (h : zu_kd r = 17) {j : Nat} (hj : j < 10) : zu_kd (zu_th r j) = 6 := by
  have key : ∀ q : Fin 109, zu_kd q.val = 17 → ∀ i : Fin 10, zu_kd (zu_th q.val i.val) = 6 := by decide +kernel
  exact key ⟨r, zu_lt h (by decide)⟩ h ⟨j, hj⟩
theorem zk_she {j : Nat} (hj : j < 4) : zu_kd (12 + j) = 4 := by
  have key : ∀ i : Fin 4, zu_kd (12 + i.val) = 4 := by decide +kernel
  exact key ⟨j, hj⟩
def zs_first (j : Nat) : Int32 := ([0, 0, 2, 5, 1, 8, 0, 0, 0] : List Int32).getD j 0
def zs_least (j : Nat) : Int32 := ([0, 0, 1, 1, 0, 0, 0, 0, 0] : List Int32).getD j 0
def zs_most (j : Nat) : Int32 := ([6, -1, 9, 12, 1, 12, 1, 1, -1] : List Int32).getD j 0
def zs_above (j : Nat) : Int32 := ([-1, 0, 0, 1, 2, 0, 0] : List Int32).getD j 0
def zs_len : List Nat := [4, 5, 6, 5, 5, 5, 4, 7, 6, 5, 5, 5, 3, 3, 2, 2, 4, 3, 4, 4]
def zs_byt : List (List Int32) := [[104, 111, 109, 101], [102, 101, 116, 99, 104], [108, 101, 116, 116, 101, 114], [103, 114, 97, 115, 115], [98, 114, 111, 111, 107], [104, 101, 100, 103, 101], [114, 111, 97, 100], [116, 104, 114, 111, 119, 101, 114], [115, 116, 114, 111, 110, 103], [115, 104, 97, 107, 121], [103, 105, 97, 110, 116], [98, 108, 105, 110, 100], [111, 108, 100], [108, 97, 100], [116, 111], [97, 116], [110, 101, 97, 114], [102, 97, 114], [111, 100, 100, 115], [119, 101, 115, 116]]
def zs_ix : List Nat := [44, 53, 58, 63, 65, 69, 71, 73, 75, 79, 81, 83, 85, 87, 96, 116, 132, 138, 140, 142]
def zs_tx : List String := ["home", "fetch", "letter", "grass", "brook", "hedge", "road", "thrower", "strong", "shaky", "giant", "blind", "old", "lad", "to", "at", "near", "far", "odds", "west"]
def zu_Sa (ad : Nat → Nat) (A : Nat → Prop) (U : State) (H : Heap) : Prop := va_Z "StonePost$Thrower" "AT_FIRST" "[I" (.ref (ad 120)) A U H ∧ va_T .int (ad 120) 9 (fun j => .int (zs_first j)) A U H ∧ va_Z "StonePost$Thrower" "LEAST" "[I" (.ref (ad 121)) A U H ∧ va_T .int (ad 121) 9 (fun j => .int (zs_least j)) A U H ∧ va_Z "StonePost$Thrower" "MOST" "[I" (.ref (ad 122)) A U H ∧ va_T .int (ad 122) 9 (fun j => .int (zs_most j)) A U H ∧ va_Z "StonePost$Thrower" "KIND_ABOVE" "[I" (.ref (ad 123)) A U H ∧ va_T .int (ad 123) 7 (fun j => .int (zs_above j)) A U H
def zu_Sb (ad : Nat → Nat) (A : Nat → Prop) (U : State) (H : Heap) : Prop := vk_S 20 zs_len zs_byt (fun i => ad (200 + i)) (fun i => ad (300 + i)) A U H ∧ va_Z "java/lang/String" "COMPACT_STRINGS" "Z" (.int 1) A U H ∧ va_Zq "jdk/internal/util/Preconditions" "SIOOBE_FORMATTER" "Ljava/util/function/BiFunction;" A U H
def zu_Sc (ad : Nat → Nat) (U : State) : Prop := ∀ i : Nat, i < 20 → vk_R "StonePost$TextReader" (zs_ix.getD i 0) (zs_tx.getD i "") (ad (200 + i)) U
def zu_Sd (U : State) : Prop := va_Nw (Cond.methodLinkNest "StonePost$Land" 37 ({ cls := "StonePost$Thrower", name := "<init>", desc := "()V" } : MethodName) "StonePost") U ∧ va_Nw (Cond.methodLinkNest "StonePost" 24 ({ cls := "StonePost$Chart", name := "<init>", desc := "()V" } : MethodName) "StonePost") U ∧ va_Nw (Cond.methodLinkNest "StonePost" 31 ({ cls := "StonePost$Tape", name := "<init>", desc := "()V" } : MethodName) "StonePost") U ∧ va_Nw (Cond.methodLinkNest "StonePost" 46 ({ cls := "StonePost$Sheet", name := "<init>", desc := "()V" } : MethodName) "StonePost") U ∧ va_Nw (Cond.methodLinkNest "StonePost$Thrower" 15 ({ cls := "StonePost", name := "isWithin", desc := "(III)Z" } : MethodName) "StonePost") U ∧ va_Nw (Cond.methodLinkNest "StonePost$Chart" 98 ({ cls := "StonePost", name := "isNight", desc := "(I)Z" } : MethodName) "StonePost") U ∧ va_Nw (Cond.methodLinkNest "StonePost$Tape" 62 ({ cls := "StonePost", name := "isWithin", desc := "(III)Z" } : MethodName) "StonePost") U ∧ va_Nw (Cond.fieldLinkNest "StonePost$TextReader" 144 "StonePost$Thrower" "LEAST" "[I" "StonePost") U ∧ va_Nw (Cond.fieldLinkNest "StonePost$TextReader" 147 "StonePost$Thrower" "MOST" "[I" "StonePost") U ∧ va_Nw (Cond.methodLinkNest "StonePost$Thrower" 34 ({ cls := "StonePost", name := "isKind", desc := "(I)Z" } : MethodName) "StonePost") U
def zu_Se (ad : Nat → Nat) (A : Nat → Prop) : Prop := (∀ i j, i < 109 → j < 109 → ad i = ad j → i = j) ∧ ∀ r, r < 109 → A (ad r)
def zu_St (D : va_G) (cA : Nat → ClassId) (ad : Nat → Nat) (A : Nat → Prop) (U : State) (H : Heap) : Prop := va_K D zu_cl (zu_tys cA) U ∧ zu_Se ad A ∧ zu_Sa ad A U H ∧ zu_Sb ad A U H ∧ zu_Sc ad U ∧ zu_Sd U
theorem zu_Sa.to {ad : Nat → Nat} {A : Nat → Prop} {u U : State} {H H1 : Heap} (hvm : u.vm.Alike U.vm) (hq : ∀ a : Nat, a < H.size → ¬ A a → H1[a]? = H[a]?) (h : zu_Sa ad A u H) : zu_Sa ad A U H1 := by
  obtain ⟨h0, h1, h2, h3, h4, h5, h6, h7⟩ := h
  exact ⟨(va_Z.moved hvm h0).kept hq, (va_T.moved hvm h1).kept hq, (va_Z.moved hvm h2).kept hq, (va_T.moved hvm h3).kept hq, (va_Z.moved hvm h4).kept hq, (va_T.moved hvm h5).kept hq, (va_Z.moved hvm h6).kept hq, (va_T.moved hvm h7).kept hq⟩
theorem zu_Sb.to {ad : Nat → Nat} {A : Nat → Prop} {u U : State} {H H1 : Heap} (hvm : u.vm.Alike U.vm) (hq : ∀ a : Nat, a < H.size → ¬ A a → H1[a]? = H[a]?) (h : zu_Sb ad A u H) : zu_Sb ad A U H1 := ⟨(vk_S.moved hvm h.1).kept hq, (va_Z.moved hvm h.2.1).kept hq, (va_Zq.moved hvm h.2.2).kept hq⟩
theorem zu_Sc.warm {ad : Nat → Nat} {s U : State} (hW : s.WarmedH U.vm) (h : zu_Sc ad s) : zu_Sc ad U := fun i hi => vk_R.warm hW (h i hi)
theorem zu_Sc.same {ad : Nat → Nat} {u U : State} (hv : U.vm = u.vm) (h : zu_Sc ad u) : zu_Sc ad U := fun i hi => vk_R.same hv (h i hi)
theorem zu_Sd.warm {s U : State} (hW : s.WarmedH U.vm) (h : zu_Sd s) : zu_Sd U := by
  obtain ⟨h0, h1, h2, h3, h4, h5, h6, h7, h8, h9⟩ := h
  exact ⟨va_Nw.warmM hW h0, va_Nw.warmM hW h1, va_Nw.warmM hW h2, va_Nw.warmM hW h3, va_Nw.warmM hW h4, va_Nw.warmM hW h5, va_Nw.warmM hW h6, va_Nw.warmF hW h7, va_Nw.warmF hW h8, va_Nw.warmM hW h9⟩
theorem zu_Sd.same {u U : State} (hv : u.vm = U.vm) (h : zu_Sd u) : zu_Sd U := by
  obtain ⟨h0, h1, h2, h3, h4, h5, h6, h7, h8, h9⟩ := h
  exact ⟨va_Nw.same rfl hv h0, va_Nw.same rfl hv h1, va_Nw.same rfl hv h2, va_Nw.same rfl hv h3, va_Nw.same rfl hv h4, va_Nw.same rfl hv h5, va_Nw.same rfl hv h6, va_Nw.same rfl hv h7, va_Nw.same rfl hv h8, va_Nw.same rfl hv h9⟩
theorem zu_St.to {D : va_G} {cA : Nat → ClassId} {ad : Nat → Nat} {A : Nat → Prop} {s U : State} {H : Heap} {locs : List Loc} (hW : s.WarmedH U.vm) (hS : va_S A s.heap H locs) (hU : U.heap = H) (h : zu_St D cA ad A s s.heap) : zu_St D cA ad A U U.heap := by
  obtain ⟨h1, h2, h3, h4, h5, h6⟩ := h
  subst hU
  exact ⟨va_K.moved hW.alike h1, h2, h3.to hW.alike hS.2.1, h4.to hW.alike hS.2.1, h5.warm hW, h6.warm hW⟩
theorem zu_St.same {D : va_G} {cA : Nat → ClassId} {ad : Nat → Nat} {A : Nat → Prop} {u U : State} {H : Heap} (hv : u.vm = U.vm) (h : zu_St D cA ad A u H) : zu_St D cA ad A U H := by
  obtain ⟨h1, h2, h3, h4, h5, h6⟩ := h
  have al : u.vm.Alike U.vm := by rw [← hv]; exact Vm.Alike.refl _
  exact ⟨va_K.moved al h1, h2, h3.to al (fun _ _ _ => rfl), h4.to al (fun _ _ _ => rfl), h5.same hv.symm, h6.same hv⟩
theorem zu_D {cA : Nat → ClassId} {ad : Nat → Nat} {A : Nat → Prop} (X : IX) (Y : LX) (h : zu_Se ad A) : va_D A (zu_pic cA ad X Y) := by
  have key : ∀ (k : Nat) (q : Nat × va_E), (zu_pic cA ad X Y)[k]? = some q → k < 109 ∧ q.1 = ad k := by
    intro k q hk
    have hl : k < 109 := by
      have := (List.getElem?_eq_some_iff.mp hk).1
      simpa [zu_pic] using this
    rw [zu_at cA ad X Y hl] at hk
    cases hk
    exact ⟨hl, rfl⟩
  refine ⟨fun i j p q hi hj e => ?_, fun k q hk => ?_⟩
  · obtain ⟨a1, a2⟩ := key i p hi
    obtain ⟨b1, b2⟩ := key j q hj
    exact h.1 i j a1 b1 (by rw [← a2, ← b2]; exact e)
  · obtain ⟨a1, a2⟩ := key k q hk
    rw [a2]
    exact h.2 k a1
def zu_ws (y : MethodName) (b : ByteArray) (n : Nat) (r : Option FieldType) : List Cond := .code y b n r :: zu_TB
def zu_Pre (D : va_G) (cA : Nat → ClassId) (ad : Nat → Nat) (A : Nat → Prop) (X : IX) (Y : LX) (U : State) : Prop := va_P D zu_cl (zu_pic cA ad X Y) U.heap ∧ zu_St D cA ad A U U.heap
abbrev zu_Qi (D : va_G) (cA : Nat → ClassId) (ad : Nat → Nat) (A : Nat → Prop) (r : Int32) (X : IX) (Y : LX) : Array Value → State → Outcome → State → Prop := va_Qi (fun q (_ : Unit) => q = r) (fun _ t => va_P D zu_cl (zu_pic cA ad X Y) t.heap) A
abbrev zu_Ql (D : va_G) (cA : Nat → ClassId) (ad : Nat → Nat) (A : Nat → Prop) (r : Int64) (X : IX) (Y : LX) : Array Value → State → Outcome → State → Prop := va_Ql (fun q (_ : Unit) => q = r) (fun _ t => va_P D zu_cl (zu_pic cA ad X Y) t.heap) A
abbrev zu_Qv (D : va_G) (cA : Nat → ClassId) (ad : Nat → Nat) (A : Nat → Prop) (X : IX) (Y : LX) : Array Value → State → Outcome → State → Prop := va_Qv (fun (_ : Unit) => True) (fun _ t => va_P D zu_cl (zu_pic cA ad X Y) t.heap) A
abbrev zu_Qr (D : va_G) (cA : Nat → ClassId) (ad : Nat → Nat) (A : Nat → Prop) (r : Nat) (X : IX) (Y : LX) : Array Value → State → Outcome → State → Prop := va_Qr (fun (_ : Unit) => True) (fun _ a t => a = ad r ∧ va_P D zu_cl (zu_pic cA ad X Y) t.heap) A
theorem zu_blind {D : va_G} {cA : Nat → ClassId} {ad : Nat → Nat} {A : Nat → Prop} {X : IX} {Y : LX} {av : List Value} : FrameBlind (va_Pc av (zu_Pre D cA ad A X Y)) := fun a U g mk q => ⟨q.1, q.2.1, zu_St.same (u := U) (U := U.calling g mk a) rfl q.2.2⟩
theorem zu_goodV {own C : String} {idx n : Nat} {y : MethodName} {b : ByteArray} {r : Option FieldType} (m1 : Cond.methodLink own idx y ∈ zu_TB) (m2 : Cond.instanceMethod y ∈ zu_TB) (m3 : Cond.selects C y y ∈ zu_TB) (m4 : Cond.initialized C ∈ zu_TB) (m5 : Cond.code y b n r ∈ zu_TB) : GoodIn zu_TB (wsV own idx C y (zu_ws y b n r)) := by
  intro w hw
  have h : w ∈ zu_TB := by
    simp only [wsV, zu_ws, List.mem_append, List.mem_cons, List.not_mem_nil, or_false] at hw
    rcases hw with (rfl | rfl | rfl | rfl) | rfl | h
    · exact m1
    · exact m2
    · exact m3
    · exact m4
    · exact m5
    · exact h
  exact ⟨h, good_of_word (List.mem_filter.mp h).2⟩
theorem zu_goodS {own : String} {idx n : Nat} {y : MethodName} {b : ByteArray} {r : Option FieldType} (m1 : Cond.methodLink own idx y ∈ zu_TB) (m2 : Cond.static y ∈ zu_TB) (m4 : Cond.initialized y.cls ∈ zu_TB) (m5 : Cond.code y b n r ∈ zu_TB) : GoodIn zu_TB (va_wsS own idx y (zu_ws y b n r)) := by
  intro w hw
  have h : w ∈ zu_TB := by
    simp only [va_wsS, zu_ws, List.mem_append, List.mem_cons, List.not_mem_nil, or_false] at hw
    rcases hw with (rfl | rfl | rfl) | rfl | h
    · exact m1
    · exact m2
    · exact m4
    · exact m5
    · exact h
  exact ⟨h, good_of_word (List.mem_filter.mp h).2⟩
theorem zu_goodN {n : Nat} {y : MethodName} {b : ByteArray} {r : Option FieldType} (m5 : Cond.code y b n r ∈ zu_TB) : GoodIn zu_TB (zu_ws y b n r) := by
  intro w hw
  have h : w ∈ zu_TB := by
    simp only [zu_ws, List.mem_cons] at hw
    rcases hw with rfl | h
    · exact m5
    · exact h
  exact ⟨h, good_of_word (List.mem_filter.mp h).2⟩
/-- what a method's walk has at hand -/
def zu_B (p : Program) (s : State) (m : MethodId) (args : Array Value) (c : Code) (cc : ByteArray) (nL : Nat) (own : String) (D : va_G) (cA : Nat → ClassId) (ad : Nat → Nat) (A : Nat → Prop) : Prop := p.tables.exec = Jvm.exec ∧ c.code = cc ∧ c.maxLocals = nL ∧ s.vm.findClass own = some m.cls ∧ (∀ w ∈ zu_TB, w.before args s = true) ∧ zu_St D cA ad A s s.heap
section ZR
variable {p : Program} {l : Launch} {e : Env} {R : Room} {s : State} {m : MethodId} {args : Array Value} {below : List Frame} {meth : Method} {c : Code} {H : Heap} {locs : List Loc} {cells slots : Nat} {Q : State → Prop}
variable {cc : ByteArray} {pc nL : Nat} {ls : Array Slot} {rest : List Value} {D : va_G} {cA : Nat → ClassId} {ad : Nat → Nat} {A : Nat → Prop} {X : IX} {Y : LX} {own : String} {index : Nat}
theorem zr_get {C : String} {T : u_T} {N K k r : Nat} {v : Value} (B : zu_B p s m args c cc nL own D cA ad A) (hP : va_P D zu_cl (zu_pic cA ad X Y) H) (hin : ∀ w ∈ u_ws C T N, w ∈ zu_TB) (hr : zu_kd r = K) (h1 : K < 10) (h0 : K ≠ 0) {ci : Nat} {fs : List Value} (ho : zu_ob ad (X r) r K = (ci, fs)) (hc : zu_cl[ci]? = some (C, T, N)) (hk : k < N) (hv : fs[k]? = some v) (hl : Cond.fieldLink own index (T k).1 (T k).2.1 (T k).2.2.1 ∈ zu_TB) (hdg : decode cc pc = .ok (.getfield index, 3))
    (kk : W p l e R s m args below meth c H locs cells slots Q (F0 m (pc + 3) ls (v :: rest))) : W p l e R s m args below meth c H locs cells slots Q (F0 m pc ls (.ref (ad r) :: rest)) := by
  obtain ⟨hx, hb, -, hown, hts, hST⟩ := B
  exact va_get hx hb hts hin hown hST.1 hP r ((zu_at_o cA ad X Y hr h0 h1).trans (by rw [ho])) hc k hk (hts _ hl) (fun _ h => h) hv hdg kk
theorem zr_put {C : String} {T : u_T} {N K k r : Nat} {v : Int32} {β : Type} {kf : IX → β} {R0 : β} (B : zu_B p s m args c cc nL own D cA ad A) (hP : va_P D zu_cl (zu_pic cA ad X Y) H) (hS : va_S A s.heap H locs) (hf : zu_nx (zu_st X r k v) kf = R0) (hin : ∀ w ∈ u_ws C T N, w ∈ zu_TB) (ty0 : Nat → FieldType) (hty : ∀ k, k < N → parseFieldDescriptor (T k).2.2.1 = some (ty0 k)) (hnm : ∀ a, a < N → ∀ b, b < N → a ≠ b → (T a).2.1 ≠ (T b).2.1) (hr : zu_kd r = K) (h1 : K < 10) (h0 : K ≠ 0) {ci : Nat} {fs : List Value} (ho : zu_ob ad (X r) r K = (ci, fs)) (hc : zu_cl[ci]? = some (C, T, N)) (hk : k < N) (hkl : k < fs.length) (ho2 : zu_ob ad (upd (X r) k v) r K = (ci, fs.set k (.int v))) (hfin : (T k).2.2.2 = false) {ty : FieldType} (hd : parseFieldDescriptor (T k).2.2.1 = some ty) (hn : narrow ty (.int v) = .int v) (hfit : fits ty (.int v) = true) (hl : Cond.fieldLink own index (T k).1 (T k).2.1 (T k).2.2.1 ∈ zu_TB) (hdg : decode cc pc = .ok (.putfield index, 3))
    (kk : ∀ (X1 : IX) (H1 : Heap) (locs1 : List Loc), kf X1 = R0 → va_P D zu_cl (zu_pic cA ad X1 Y) H1 → va_S A s.heap H1 locs1 → W p l e R s m args below meth c H1 locs1 cells slots Q (F0 m (pc + 3) ls rest)) : W p l e R s m args below meth c H locs cells slots Q (F0 m pc ls (.int v :: .ref (ad r) :: rest)) := by
  obtain ⟨hx, hb, -, hown, hts, hST⟩ := B
  refine va_put hx hb hts hin ty0 hty hnm hown hST.1 hP (zu_D X Y hST.2.1) hS r ((zu_at_o cA ad X Y hr h0 h1).trans (by rw [ho])) hc k hk (hts _ hl) (fun _ h => h) hfin hd hn hfit hkl hdg (fun H1 locs1 q1 _ q3 => ?_)
  rw [zu_set_o cA ad hr h1 ho2] at q1
  exact kk _ H1 locs1 hf q1 q3
theorem zr_iald {K n r j : Nat} {i : Int32} (hj : i.toNatClampNeg = j) (B : zu_B p s m args c cc nL own D cA ad A) (hP : va_P D zu_cl (zu_pic cA ad X Y) H) (hr : zu_kd r = K) (h1 : ¬ K < 10) (ht : zu_tg K = (0, n)) (hi : zu_ib i n = true) (hdg : decode cc pc = .ok (.iaload, 1))
    (kk : W p l e R s m args below meth c H locs cells slots Q (F0 m (pc + 1) ls (.int (X r j) :: rest))) : W p l e R s m args below meth c H locs cells slots Q (F0 m pc ls (.int i :: .ref (ad r) :: rest)) := by
  obtain ⟨hx, hb, -, hown, hts, hST⟩ := B
  subst hj
  exact va_iald hx hb hST.1 hP r 0 (zu_at_i cA ad X Y hr h1 ht) rfl (zu_ib_in hi) hdg kk
theorem zr_lald {K n r j : Nat} {i : Int32} (hj : i.toNatClampNeg = j) (B : zu_B p s m args c cc nL own D cA ad A) (hP : va_P D zu_cl (zu_pic cA ad X Y) H) (hr : zu_kd r = K) (h1 : ¬ K < 10) (ht : zu_tg K = (1, n)) (hi : zu_ib i n = true) (hdg : decode cc pc = .ok (.laload, 1))
    (kk : W p l e R s m args below meth c H locs cells slots Q (F0 m (pc + 1) ls (.long (Y r j) :: rest))) : W p l e R s m args below meth c H locs cells slots Q (F0 m pc ls (.int i :: .ref (ad r) :: rest)) := by
  obtain ⟨hx, hb, -, hown, hts, hST⟩ := B
  subst hj
  exact va_lald hx hb hST.1 hP r 1 (zu_at_l cA ad X Y hr h1 ht) rfl (zu_ib_in hi) hdg kk
theorem zr_iast {K n r j : Nat} {i v : Int32} (hj : i.toNatClampNeg = j) {β : Type} {kf : IX → β} {R0 : β} (B : zu_B p s m args c cc nL own D cA ad A) (hP : va_P D zu_cl (zu_pic cA ad X Y) H) (hS : va_S A s.heap H locs) (hf : zu_nx (zu_st X r j v) kf = R0) (hr : zu_kd r = K) (h1 : ¬ K < 10) (ht : zu_tg K = (0, n)) (hi : zu_ib i n = true) (hdg : decode cc pc = .ok (.iastore, 1))
    (kk : ∀ (X1 : IX) (H1 : Heap) (locs1 : List Loc), kf X1 = R0 → va_P D zu_cl (zu_pic cA ad X1 Y) H1 → va_S A s.heap H1 locs1 → W p l e R s m args below meth c H1 locs1 cells slots Q (F0 m (pc + 1) ls rest)) : W p l e R s m args below meth c H locs cells slots Q (F0 m pc ls (.int v :: .int i :: .ref (ad r) :: rest)) := by
  obtain ⟨hx, hb, -, hown, hts, hST⟩ := B
  subst hj
  refine va_iast hx hb hST.1 hP (zu_D X Y hST.2.1) hS r 0 (zu_at_i cA ad X Y hr h1 ht) rfl (zu_ib_in hi) hdg (fun H1 locs1 q1 _ q3 => ?_)
  rw [zu_set_i cA ad hr h1 ht] at q1
  exact kk _ H1 locs1 hf q1 q3
theorem zr_last {K n r j : Nat} {i : Int32} {v : Int64} (hj : i.toNatClampNeg = j) {β : Type} {kf : LX → β} {R0 : β} (B : zu_B p s m args c cc nL own D cA ad A) (hP : va_P D zu_cl (zu_pic cA ad X Y) H) (hS : va_S A s.heap H locs) (hf : zu_nx (zu_stl Y r j v) kf = R0) (hr : zu_kd r = K) (h1 : ¬ K < 10) (ht : zu_tg K = (1, n)) (hi : zu_ib i n = true) (hdg : decode cc pc = .ok (.lastore, 1))
    (kk : ∀ (Y1 : LX) (H1 : Heap) (locs1 : List Loc), kf Y1 = R0 → va_P D zu_cl (zu_pic cA ad X Y1) H1 → va_S A s.heap H1 locs1 → W p l e R s m args below meth c H1 locs1 cells slots Q (F0 m (pc + 1) ls rest)) : W p l e R s m args below meth c H locs cells slots Q (F0 m pc ls (.long v :: .int i :: .ref (ad r) :: rest)) := by
  obtain ⟨hx, hb, -, hown, hts, hST⟩ := B
  subst hj
  refine va_last hx hb hST.1 hP (zu_D X Y hST.2.1) hS r 1 (zu_at_l cA ad X Y hr h1 ht) rfl (zu_ib_in hi) hdg (fun H1 locs1 q1 _ q3 => ?_)
  rw [zu_set_l cA ad hr h1 ht] at q1
  exact kk _ H1 locs1 hf q1 q3
theorem zr_alen {K n r t : Nat} {v : Int32} (B : zu_B p s m args c cc nL own D cA ad A) (hP : va_P D zu_cl (zu_pic cA ad X Y) H) (hr : zu_kd r = K) (h1 : ¬ K < 10) (ht : zu_tg K = (t, n)) (ht2 : t = 0 ∨ t = 1) (hv : Int32.ofNat n = v) (hdg : decode cc pc = .ok (.arraylength, 1))
    (kk : W p l e R s m args below meth c H locs cells slots Q (F0 m (pc + 1) ls (.int v :: rest))) : W p l e R s m args below meth c H locs cells slots Q (F0 m pc ls (.ref (ad r) :: rest)) := by
  obtain ⟨hx, hb, -, hown, hts, hST⟩ := B
  rcases ht2 with rfl | rfl
  · exact va_alen (x := (n, .inl (X r))) hx hb hST.1 hP r 0 (zu_at_i cA ad X Y hr h1 ht) rfl hv hdg kk
  · exact va_alen (x := (n, .inr (.inl (Y r)))) hx hb hST.1 hP r 1 (zu_at_l cA ad X Y hr h1 ht) rfl hv hdg kk
theorem zr_thr {r j : Nat} {i : Int32} (hj : i.toNatClampNeg = j) (B : zu_B p s m args c cc nL own D cA ad A) (hP : va_P D zu_cl (zu_pic cA ad X Y) H) (hr : zu_kd r = 17) (hi : zu_ib i 10 = true) (hdg : decode cc pc = .ok (.aaload, 1))
    (kk : W p l e R s m args below meth c H locs cells slots Q (F0 m (pc + 1) ls (.ref (ad (zu_th r j)) :: rest))) : W p l e R s m args below meth c H locs cells slots Q (F0 m pc ls (.int i :: .ref (ad r) :: rest)) := by
  obtain ⟨hx, hb, -, hown, hts, hST⟩ := B
  subst hj
  exact va_aldq hx hb hST.1 hP r 3 (zu_at_t cA ad X Y hr) rfl (zu_ib_in hi) hdg kk
theorem zr_she {r j : Nat} {i : Int32} (hj : i.toNatClampNeg = j) (B : zu_B p s m args c cc nL own D cA ad A) (hP : va_P D zu_cl (zu_pic cA ad X Y) H) (hr : zu_kd r = 14) (hi : zu_ib i 4 = true) (hdg : decode cc pc = .ok (.aaload, 1))
    (kk : W p l e R s m args below meth c H locs cells slots Q (F0 m (pc + 1) ls (.ref (ad (12 + j)) :: rest))) : W p l e R s m args below meth c H locs cells slots Q (F0 m pc ls (.int i :: .ref (ad r) :: rest)) := by
  obtain ⟨hx, hb, -, hown, hts, hST⟩ := B
  subst hj
  exact va_aldq hx hb hST.1 hP r 2 (zu_at_s cA ad X Y hr) rfl (zu_ib_in hi) hdg kk
theorem zr_nxi {x : Int32} {β : Type} {kf : Int32 → β} {R0 : β} (hf : zu_nx x kf = R0) (kk : ∀ v : Int32, kf v = R0 → W p l e R s m args below meth c H locs cells slots Q (F0 m pc ls (.int v :: rest))) : W p l e R s m args below meth c H locs cells slots Q (F0 m pc ls (.int x :: rest)) := kk x hf
theorem zr_nxl {x : Int64} {β : Type} {kf : Int64 → β} {R0 : β} (hf : zu_nx x kf = R0) (kk : ∀ v : Int64, kf v = R0 → W p l e R s m args below meth c H locs cells slots Q (F0 m pc ls (.long v :: rest))) : W p l e R s m args below meth c H locs cells slots Q (F0 m pc ls (.long x :: rest)) := kk x hf
theorem zg_Chart_first {r : Nat} (B : zu_B p s m args c cc nL own D cA ad A) (hP : va_P D zu_cl (zu_pic cA ad X Y) H) (hr : zu_kd r = 2) (hl : Cond.fieldLink own index "StonePost$Chart" "first" "[I" ∈ zu_TB) (hdg : decode cc pc = .ok (.getfield index, 3)) (kk : W p l e R s m args below meth c H locs cells slots Q (F0 m (pc + 3) ls (.ref (ad 2) :: rest))) : W p l e R s m args below meth c H locs cells slots Q (F0 m pc ls (.ref (ad r) :: rest)) :=
  zr_get (C := zc_Chart) (T := zt_Chart) (N := 9) (k := 0) B hP zi_Chart hr (by decide) (by decide) rfl rfl (by decide) rfl hl hdg kk
theorem zg_Chart_second {r : Nat} (B : zu_B p s m args c cc nL own D cA ad A) (hP : va_P D zu_cl (zu_pic cA ad X Y) H) (hr : zu_kd r = 2) (hl : Cond.fieldLink own index "StonePost$Chart" "second" "[I" ∈ zu_TB) (hdg : decode cc pc = .ok (.getfield index, 3)) (kk : W p l e R s m args below meth c H locs cells slots Q (F0 m (pc + 3) ls (.ref (ad 3) :: rest))) : W p l e R s m args below meth c H locs cells slots Q (F0 m pc ls (.ref (ad r) :: rest)) :=
  zr_get (C := zc_Chart) (T := zt_Chart) (N := 9) (k := 1) B hP zi_Chart hr (by decide) (by decide) rfl rfl (by decide) rfl hl hdg kk
theorem zg_Chart_twelfths {r : Nat} (B : zu_B p s m args c cc nL own D cA ad A) (hP : va_P D zu_cl (zu_pic cA ad X Y) H) (hr : zu_kd r = 2) (hl : Cond.fieldLink own index "StonePost$Chart" "twelfths" "[I" ∈ zu_TB) (hdg : decode cc pc = .ok (.getfield index, 3)) (kk : W p l e R s m args below meth c H locs cells slots Q (F0 m (pc + 3) ls (.ref (ad 4) :: rest))) : W p l e R s m args below meth c H locs cells slots Q (F0 m pc ls (.ref (ad r) :: rest)) :=
  zr_get (C := zc_Chart) (T := zt_Chart) (N := 9) (k := 2) B hP zi_Chart hr (by decide) (by decide) rfl rfl (by decide) rfl hl hdg kk
theorem zg_Chart_throwersOn {r : Nat} (B : zu_B p s m args c cc nL own D cA ad A) (hP : va_P D zu_cl (zu_pic cA ad X Y) H) (hr : zu_kd r = 2) (hl : Cond.fieldLink own index "StonePost$Chart" "throwersOn" "[I" ∈ zu_TB) (hdg : decode cc pc = .ok (.getfield index, 3)) (kk : W p l e R s m args below meth c H locs cells slots Q (F0 m (pc + 3) ls (.ref (ad 5) :: rest))) : W p l e R s m args below meth c H locs cells slots Q (F0 m pc ls (.ref (ad r) :: rest)) :=
  zr_get (C := zc_Chart) (T := zt_Chart) (N := 9) (k := 3) B hP zi_Chart hr (by decide) (by decide) rfl rfl (by decide) rfl hl hdg kk
theorem zg_Chart_parts {r : Nat} (B : zu_B p s m args c cc nL own D cA ad A) (hP : va_P D zu_cl (zu_pic cA ad X Y) H) (hr : zu_kd r = 2) (hl : Cond.fieldLink own index "StonePost$Chart" "parts" "[J" ∈ zu_TB) (hdg : decode cc pc = .ok (.getfield index, 3)) (kk : W p l e R s m args below meth c H locs cells slots Q (F0 m (pc + 3) ls (.ref (ad 6) :: rest))) : W p l e R s m args below meth c H locs cells slots Q (F0 m pc ls (.ref (ad r) :: rest)) :=
  zr_get (C := zc_Chart) (T := zt_Chart) (N := 9) (k := 4) B hP zi_Chart hr (by decide) (by decide) rfl rfl (by decide) rfl hl hdg kk
theorem zg_Chart_nextParts {r : Nat} (B : zu_B p s m args c cc nL own D cA ad A) (hP : va_P D zu_cl (zu_pic cA ad X Y) H) (hr : zu_kd r = 2) (hl : Cond.fieldLink own index "StonePost$Chart" "nextParts" "[J" ∈ zu_TB) (hdg : decode cc pc = .ok (.getfield index, 3)) (kk : W p l e R s m args below meth c H locs cells slots Q (F0 m (pc + 3) ls (.ref (ad 7) :: rest))) : W p l e R s m args below meth c H locs cells slots Q (F0 m pc ls (.ref (ad r) :: rest)) :=
  zr_get (C := zc_Chart) (T := zt_Chart) (N := 9) (k := 5) B hP zi_Chart hr (by decide) (by decide) rfl rfl (by decide) rfl hl hdg kk
theorem zg_Chart_choices {r : Nat} (B : zu_B p s m args c cc nL own D cA ad A) (hP : va_P D zu_cl (zu_pic cA ad X Y) H) (hr : zu_kd r = 2) (hl : Cond.fieldLink own index "StonePost$Chart" "choices" "I" ∈ zu_TB) (hdg : decode cc pc = .ok (.getfield index, 3)) (kk : W p l e R s m args below meth c H locs cells slots Q (F0 m (pc + 3) ls (.int (X r 6) :: rest))) : W p l e R s m args below meth c H locs cells slots Q (F0 m pc ls (.ref (ad r) :: rest)) :=
  zr_get (C := zc_Chart) (T := zt_Chart) (N := 9) (k := 6) B hP zi_Chart hr (by decide) (by decide) rfl rfl (by decide) rfl hl hdg kk
theorem zp_Chart_choices {r : Nat} {v : Int32} {β : Type} {kf : IX → β} {R0 : β} (B : zu_B p s m args c cc nL own D cA ad A) (hP : va_P D zu_cl (zu_pic cA ad X Y) H) (hS : va_S A s.heap H locs) (hf : zu_nx (zu_st X r 6 v) kf = R0) (hr : zu_kd r = 2) (hl : Cond.fieldLink own index "StonePost$Chart" "choices" "I" ∈ zu_TB) (hdg : decode cc pc = .ok (.putfield index, 3)) (kk : ∀ (X1 : IX) (H1 : Heap) (locs1 : List Loc), kf X1 = R0 → va_P D zu_cl (zu_pic cA ad X1 Y) H1 → va_S A s.heap H1 locs1 → W p l e R s m args below meth c H1 locs1 cells slots Q (F0 m (pc + 3) ls rest)) : W p l e R s m args below meth c H locs cells slots Q (F0 m pc ls (.int v :: .ref (ad r) :: rest)) :=
  zr_put (C := zc_Chart) (T := zt_Chart) (N := 9) (k := 6) B hP hS hf zi_Chart zy_Chart zy_Chart_ok zn_Chart hr (by decide) (by decide) rfl rfl (by decide) (by simp) rfl rfl (ty := .int) (by decide +kernel) rfl rfl hl hdg kk
theorem zg_Chart_hour {r : Nat} (B : zu_B p s m args c cc nL own D cA ad A) (hP : va_P D zu_cl (zu_pic cA ad X Y) H) (hr : zu_kd r = 2) (hl : Cond.fieldLink own index "StonePost$Chart" "hour" "I" ∈ zu_TB) (hdg : decode cc pc = .ok (.getfield index, 3)) (kk : W p l e R s m args below meth c H locs cells slots Q (F0 m (pc + 3) ls (.int (X r 7) :: rest))) : W p l e R s m args below meth c H locs cells slots Q (F0 m pc ls (.ref (ad r) :: rest)) :=
  zr_get (C := zc_Chart) (T := zt_Chart) (N := 9) (k := 7) B hP zi_Chart hr (by decide) (by decide) rfl rfl (by decide) rfl hl hdg kk
theorem zp_Chart_hour {r : Nat} {v : Int32} {β : Type} {kf : IX → β} {R0 : β} (B : zu_B p s m args c cc nL own D cA ad A) (hP : va_P D zu_cl (zu_pic cA ad X Y) H) (hS : va_S A s.heap H locs) (hf : zu_nx (zu_st X r 7 v) kf = R0) (hr : zu_kd r = 2) (hl : Cond.fieldLink own index "StonePost$Chart" "hour" "I" ∈ zu_TB) (hdg : decode cc pc = .ok (.putfield index, 3)) (kk : ∀ (X1 : IX) (H1 : Heap) (locs1 : List Loc), kf X1 = R0 → va_P D zu_cl (zu_pic cA ad X1 Y) H1 → va_S A s.heap H1 locs1 → W p l e R s m args below meth c H1 locs1 cells slots Q (F0 m (pc + 3) ls rest)) : W p l e R s m args below meth c H locs cells slots Q (F0 m pc ls (.int v :: .ref (ad r) :: rest)) :=
  zr_put (C := zc_Chart) (T := zt_Chart) (N := 9) (k := 7) B hP hS hf zi_Chart zy_Chart zy_Chart_ok zn_Chart hr (by decide) (by decide) rfl rfl (by decide) (by simp) rfl rfl (ty := .int) (by decide +kernel) rfl rfl hl hdg kk
theorem zg_Chart_home {r : Nat} (B : zu_B p s m args c cc nL own D cA ad A) (hP : va_P D zu_cl (zu_pic cA ad X Y) H) (hr : zu_kd r = 2) (hl : Cond.fieldLink own index "StonePost$Chart" "home" "I" ∈ zu_TB) (hdg : decode cc pc = .ok (.getfield index, 3)) (kk : W p l e R s m args below meth c H locs cells slots Q (F0 m (pc + 3) ls (.int (X r 8) :: rest))) : W p l e R s m args below meth c H locs cells slots Q (F0 m pc ls (.ref (ad r) :: rest)) :=
  zr_get (C := zc_Chart) (T := zt_Chart) (N := 9) (k := 8) B hP zi_Chart hr (by decide) (by decide) rfl rfl (by decide) rfl hl hdg kk
theorem zp_Chart_home {r : Nat} {v : Int32} {β : Type} {kf : IX → β} {R0 : β} (B : zu_B p s m args c cc nL own D cA ad A) (hP : va_P D zu_cl (zu_pic cA ad X Y) H) (hS : va_S A s.heap H locs) (hf : zu_nx (zu_st X r 8 v) kf = R0) (hr : zu_kd r = 2) (hl : Cond.fieldLink own index "StonePost$Chart" "home" "I" ∈ zu_TB) (hdg : decode cc pc = .ok (.putfield index, 3)) (kk : ∀ (X1 : IX) (H1 : Heap) (locs1 : List Loc), kf X1 = R0 → va_P D zu_cl (zu_pic cA ad X1 Y) H1 → va_S A s.heap H1 locs1 → W p l e R s m args below meth c H1 locs1 cells slots Q (F0 m (pc + 3) ls rest)) : W p l e R s m args below meth c H locs cells slots Q (F0 m pc ls (.int v :: .ref (ad r) :: rest)) :=
  zr_put (C := zc_Chart) (T := zt_Chart) (N := 9) (k := 8) B hP hS hf zi_Chart zy_Chart zy_Chart_ok zn_Chart hr (by decide) (by decide) rfl rfl (by decide) (by simp) rfl rfl (ty := .int) (by decide +kernel) rfl rfl hl hdg kk
theorem zg_Land_stuffs {r : Nat} (B : zu_B p s m args c cc nL own D cA ad A) (hP : va_P D zu_cl (zu_pic cA ad X Y) H) (hr : zu_kd r = 5) (hl : Cond.fieldLink own index "StonePost$Land" "stuffs" "[I" ∈ zu_TB) (hdg : decode cc pc = .ok (.getfield index, 3)) (kk : W p l e R s m args below meth c H locs cells slots Q (F0 m (pc + 3) ls (.ref (ad (r + 3)) :: rest))) : W p l e R s m args below meth c H locs cells slots Q (F0 m pc ls (.ref (ad r) :: rest)) :=
  zr_get (C := zc_Land) (T := zt_Land) (N := 10) (k := 0) B hP zi_Land hr (by decide) (by decide) rfl rfl (by decide) rfl hl hdg kk
theorem zg_Land_throwers {r : Nat} (B : zu_B p s m args c cc nL own D cA ad A) (hP : va_P D zu_cl (zu_pic cA ad X Y) H) (hr : zu_kd r = 5) (hl : Cond.fieldLink own index "StonePost$Land" "throwers" "[LStonePost$Thrower;" ∈ zu_TB) (hdg : decode cc pc = .ok (.getfield index, 3)) (kk : W p l e R s m args below meth c H locs cells slots Q (F0 m (pc + 3) ls (.ref (ad (r + 6)) :: rest))) : W p l e R s m args below meth c H locs cells slots Q (F0 m pc ls (.ref (ad r) :: rest)) :=
  zr_get (C := zc_Land) (T := zt_Land) (N := 10) (k := 1) B hP zi_Land hr (by decide) (by decide) rfl rfl (by decide) rfl hl hdg kk
theorem zg_Land_letterCells {r : Nat} (B : zu_B p s m args c cc nL own D cA ad A) (hP : va_P D zu_cl (zu_pic cA ad X Y) H) (hr : zu_kd r = 5) (hl : Cond.fieldLink own index "StonePost$Land" "letterCells" "[I" ∈ zu_TB) (hdg : decode cc pc = .ok (.getfield index, 3)) (kk : W p l e R s m args below meth c H locs cells slots Q (F0 m (pc + 3) ls (.ref (ad (r + 9)) :: rest))) : W p l e R s m args below meth c H locs cells slots Q (F0 m pc ls (.ref (ad r) :: rest)) :=
  zr_get (C := zc_Land) (T := zt_Land) (N := 10) (k := 2) B hP zi_Land hr (by decide) (by decide) rfl rfl (by decide) rfl hl hdg kk
theorem zg_Land_spots {r : Nat} (B : zu_B p s m args c cc nL own D cA ad A) (hP : va_P D zu_cl (zu_pic cA ad X Y) H) (hr : zu_kd r = 5) (hl : Cond.fieldLink own index "StonePost$Land" "spots" "[I" ∈ zu_TB) (hdg : decode cc pc = .ok (.getfield index, 3)) (kk : W p l e R s m args below meth c H locs cells slots Q (F0 m (pc + 3) ls (.ref (ad (r + 12)) :: rest))) : W p l e R s m args below meth c H locs cells slots Q (F0 m pc ls (.ref (ad r) :: rest)) :=
  zr_get (C := zc_Land) (T := zt_Land) (N := 10) (k := 3) B hP zi_Land hr (by decide) (by decide) rfl rfl (by decide) rfl hl hdg kk
theorem zg_Land_throwerCount {r : Nat} (B : zu_B p s m args c cc nL own D cA ad A) (hP : va_P D zu_cl (zu_pic cA ad X Y) H) (hr : zu_kd r = 5) (hl : Cond.fieldLink own index "StonePost$Land" "throwerCount" "I" ∈ zu_TB) (hdg : decode cc pc = .ok (.getfield index, 3)) (kk : W p l e R s m args below meth c H locs cells slots Q (F0 m (pc + 3) ls (.int (X r 4) :: rest))) : W p l e R s m args below meth c H locs cells slots Q (F0 m pc ls (.ref (ad r) :: rest)) :=
  zr_get (C := zc_Land) (T := zt_Land) (N := 10) (k := 4) B hP zi_Land hr (by decide) (by decide) rfl rfl (by decide) rfl hl hdg kk
theorem zp_Land_throwerCount {r : Nat} {v : Int32} {β : Type} {kf : IX → β} {R0 : β} (B : zu_B p s m args c cc nL own D cA ad A) (hP : va_P D zu_cl (zu_pic cA ad X Y) H) (hS : va_S A s.heap H locs) (hf : zu_nx (zu_st X r 4 v) kf = R0) (hr : zu_kd r = 5) (hl : Cond.fieldLink own index "StonePost$Land" "throwerCount" "I" ∈ zu_TB) (hdg : decode cc pc = .ok (.putfield index, 3)) (kk : ∀ (X1 : IX) (H1 : Heap) (locs1 : List Loc), kf X1 = R0 → va_P D zu_cl (zu_pic cA ad X1 Y) H1 → va_S A s.heap H1 locs1 → W p l e R s m args below meth c H1 locs1 cells slots Q (F0 m (pc + 3) ls rest)) : W p l e R s m args below meth c H locs cells slots Q (F0 m pc ls (.int v :: .ref (ad r) :: rest)) :=
  zr_put (C := zc_Land) (T := zt_Land) (N := 10) (k := 4) B hP hS hf zi_Land zy_Land zy_Land_ok zn_Land hr (by decide) (by decide) rfl rfl (by decide) (by simp) rfl rfl (ty := .int) (by decide +kernel) rfl rfl hl hdg kk
theorem zg_Land_letterCount {r : Nat} (B : zu_B p s m args c cc nL own D cA ad A) (hP : va_P D zu_cl (zu_pic cA ad X Y) H) (hr : zu_kd r = 5) (hl : Cond.fieldLink own index "StonePost$Land" "letterCount" "I" ∈ zu_TB) (hdg : decode cc pc = .ok (.getfield index, 3)) (kk : W p l e R s m args below meth c H locs cells slots Q (F0 m (pc + 3) ls (.int (X r 5) :: rest))) : W p l e R s m args below meth c H locs cells slots Q (F0 m pc ls (.ref (ad r) :: rest)) :=
  zr_get (C := zc_Land) (T := zt_Land) (N := 10) (k := 5) B hP zi_Land hr (by decide) (by decide) rfl rfl (by decide) rfl hl hdg kk
theorem zp_Land_letterCount {r : Nat} {v : Int32} {β : Type} {kf : IX → β} {R0 : β} (B : zu_B p s m args c cc nL own D cA ad A) (hP : va_P D zu_cl (zu_pic cA ad X Y) H) (hS : va_S A s.heap H locs) (hf : zu_nx (zu_st X r 5 v) kf = R0) (hr : zu_kd r = 5) (hl : Cond.fieldLink own index "StonePost$Land" "letterCount" "I" ∈ zu_TB) (hdg : decode cc pc = .ok (.putfield index, 3)) (kk : ∀ (X1 : IX) (H1 : Heap) (locs1 : List Loc), kf X1 = R0 → va_P D zu_cl (zu_pic cA ad X1 Y) H1 → va_S A s.heap H1 locs1 → W p l e R s m args below meth c H1 locs1 cells slots Q (F0 m (pc + 3) ls rest)) : W p l e R s m args below meth c H locs cells slots Q (F0 m pc ls (.int v :: .ref (ad r) :: rest)) :=
  zr_put (C := zc_Land) (T := zt_Land) (N := 10) (k := 5) B hP hS hf zi_Land zy_Land zy_Land_ok zn_Land hr (by decide) (by decide) rfl rfl (by decide) (by simp) rfl rfl (ty := .int) (by decide +kernel) rfl rfl hl hdg kk
theorem zg_Land_home {r : Nat} (B : zu_B p s m args c cc nL own D cA ad A) (hP : va_P D zu_cl (zu_pic cA ad X Y) H) (hr : zu_kd r = 5) (hl : Cond.fieldLink own index "StonePost$Land" "home" "I" ∈ zu_TB) (hdg : decode cc pc = .ok (.getfield index, 3)) (kk : W p l e R s m args below meth c H locs cells slots Q (F0 m (pc + 3) ls (.int (X r 6) :: rest))) : W p l e R s m args below meth c H locs cells slots Q (F0 m pc ls (.ref (ad r) :: rest)) :=
  zr_get (C := zc_Land) (T := zt_Land) (N := 10) (k := 6) B hP zi_Land hr (by decide) (by decide) rfl rfl (by decide) rfl hl hdg kk
theorem zp_Land_home {r : Nat} {v : Int32} {β : Type} {kf : IX → β} {R0 : β} (B : zu_B p s m args c cc nL own D cA ad A) (hP : va_P D zu_cl (zu_pic cA ad X Y) H) (hS : va_S A s.heap H locs) (hf : zu_nx (zu_st X r 6 v) kf = R0) (hr : zu_kd r = 5) (hl : Cond.fieldLink own index "StonePost$Land" "home" "I" ∈ zu_TB) (hdg : decode cc pc = .ok (.putfield index, 3)) (kk : ∀ (X1 : IX) (H1 : Heap) (locs1 : List Loc), kf X1 = R0 → va_P D zu_cl (zu_pic cA ad X1 Y) H1 → va_S A s.heap H1 locs1 → W p l e R s m args below meth c H1 locs1 cells slots Q (F0 m (pc + 3) ls rest)) : W p l e R s m args below meth c H locs cells slots Q (F0 m pc ls (.int v :: .ref (ad r) :: rest)) :=
  zr_put (C := zc_Land) (T := zt_Land) (N := 10) (k := 6) B hP hS hf zi_Land zy_Land zy_Land_ok zn_Land hr (by decide) (by decide) rfl rfl (by decide) (by simp) rfl rfl (ty := .int) (by decide +kernel) rfl rfl hl hdg kk
theorem zg_Land_fetch {r : Nat} (B : zu_B p s m args c cc nL own D cA ad A) (hP : va_P D zu_cl (zu_pic cA ad X Y) H) (hr : zu_kd r = 5) (hl : Cond.fieldLink own index "StonePost$Land" "fetch" "I" ∈ zu_TB) (hdg : decode cc pc = .ok (.getfield index, 3)) (kk : W p l e R s m args below meth c H locs cells slots Q (F0 m (pc + 3) ls (.int (X r 7) :: rest))) : W p l e R s m args below meth c H locs cells slots Q (F0 m pc ls (.ref (ad r) :: rest)) :=
  zr_get (C := zc_Land) (T := zt_Land) (N := 10) (k := 7) B hP zi_Land hr (by decide) (by decide) rfl rfl (by decide) rfl hl hdg kk
theorem zp_Land_fetch {r : Nat} {v : Int32} {β : Type} {kf : IX → β} {R0 : β} (B : zu_B p s m args c cc nL own D cA ad A) (hP : va_P D zu_cl (zu_pic cA ad X Y) H) (hS : va_S A s.heap H locs) (hf : zu_nx (zu_st X r 7 v) kf = R0) (hr : zu_kd r = 5) (hl : Cond.fieldLink own index "StonePost$Land" "fetch" "I" ∈ zu_TB) (hdg : decode cc pc = .ok (.putfield index, 3)) (kk : ∀ (X1 : IX) (H1 : Heap) (locs1 : List Loc), kf X1 = R0 → va_P D zu_cl (zu_pic cA ad X1 Y) H1 → va_S A s.heap H1 locs1 → W p l e R s m args below meth c H1 locs1 cells slots Q (F0 m (pc + 3) ls rest)) : W p l e R s m args below meth c H locs cells slots Q (F0 m pc ls (.int v :: .ref (ad r) :: rest)) :=
  zr_put (C := zc_Land) (T := zt_Land) (N := 10) (k := 7) B hP hS hf zi_Land zy_Land zy_Land_ok zn_Land hr (by decide) (by decide) rfl rfl (by decide) (by simp) rfl rfl (ty := .int) (by decide +kernel) rfl rfl hl hdg kk
theorem zg_Land_hour {r : Nat} (B : zu_B p s m args c cc nL own D cA ad A) (hP : va_P D zu_cl (zu_pic cA ad X Y) H) (hr : zu_kd r = 5) (hl : Cond.fieldLink own index "StonePost$Land" "hour" "I" ∈ zu_TB) (hdg : decode cc pc = .ok (.getfield index, 3)) (kk : W p l e R s m args below meth c H locs cells slots Q (F0 m (pc + 3) ls (.int (X r 8) :: rest))) : W p l e R s m args below meth c H locs cells slots Q (F0 m pc ls (.ref (ad r) :: rest)) :=
  zr_get (C := zc_Land) (T := zt_Land) (N := 10) (k := 8) B hP zi_Land hr (by decide) (by decide) rfl rfl (by decide) rfl hl hdg kk
theorem zp_Land_hour {r : Nat} {v : Int32} {β : Type} {kf : IX → β} {R0 : β} (B : zu_B p s m args c cc nL own D cA ad A) (hP : va_P D zu_cl (zu_pic cA ad X Y) H) (hS : va_S A s.heap H locs) (hf : zu_nx (zu_st X r 8 v) kf = R0) (hr : zu_kd r = 5) (hl : Cond.fieldLink own index "StonePost$Land" "hour" "I" ∈ zu_TB) (hdg : decode cc pc = .ok (.putfield index, 3)) (kk : ∀ (X1 : IX) (H1 : Heap) (locs1 : List Loc), kf X1 = R0 → va_P D zu_cl (zu_pic cA ad X1 Y) H1 → va_S A s.heap H1 locs1 → W p l e R s m args below meth c H1 locs1 cells slots Q (F0 m (pc + 3) ls rest)) : W p l e R s m args below meth c H locs cells slots Q (F0 m pc ls (.int v :: .ref (ad r) :: rest)) :=
  zr_put (C := zc_Land) (T := zt_Land) (N := 10) (k := 8) B hP hS hf zi_Land zy_Land zy_Land_ok zn_Land hr (by decide) (by decide) rfl rfl (by decide) (by simp) rfl rfl (ty := .int) (by decide +kernel) rfl rfl hl hdg kk
theorem zg_Land_z {r : Nat} (B : zu_B p s m args c cc nL own D cA ad A) (hP : va_P D zu_cl (zu_pic cA ad X Y) H) (hr : zu_kd r = 5) (hl : Cond.fieldLink own index "StonePost$Land" "z" "I" ∈ zu_TB) (hdg : decode cc pc = .ok (.getfield index, 3)) (kk : W p l e R s m args below meth c H locs cells slots Q (F0 m (pc + 3) ls (.int (X r 9) :: rest))) : W p l e R s m args below meth c H locs cells slots Q (F0 m pc ls (.ref (ad r) :: rest)) :=
  zr_get (C := zc_Land) (T := zt_Land) (N := 10) (k := 9) B hP zi_Land hr (by decide) (by decide) rfl rfl (by decide) rfl hl hdg kk
theorem zp_Land_z {r : Nat} {v : Int32} {β : Type} {kf : IX → β} {R0 : β} (B : zu_B p s m args c cc nL own D cA ad A) (hP : va_P D zu_cl (zu_pic cA ad X Y) H) (hS : va_S A s.heap H locs) (hf : zu_nx (zu_st X r 9 v) kf = R0) (hr : zu_kd r = 5) (hl : Cond.fieldLink own index "StonePost$Land" "z" "I" ∈ zu_TB) (hdg : decode cc pc = .ok (.putfield index, 3)) (kk : ∀ (X1 : IX) (H1 : Heap) (locs1 : List Loc), kf X1 = R0 → va_P D zu_cl (zu_pic cA ad X1 Y) H1 → va_S A s.heap H1 locs1 → W p l e R s m args below meth c H1 locs1 cells slots Q (F0 m (pc + 3) ls rest)) : W p l e R s m args below meth c H locs cells slots Q (F0 m pc ls (.int v :: .ref (ad r) :: rest)) :=
  zr_put (C := zc_Land) (T := zt_Land) (N := 10) (k := 9) B hP hS hf zi_Land zy_Land zy_Land_ok zn_Land hr (by decide) (by decide) rfl rfl (by decide) (by simp) rfl rfl (ty := .int) (by decide +kernel) rfl rfl hl hdg kk
theorem zg_Sheet_numbers {r : Nat} (B : zu_B p s m args c cc nL own D cA ad A) (hP : va_P D zu_cl (zu_pic cA ad X Y) H) (hr : zu_kd r = 4) (hl : Cond.fieldLink own index "StonePost$Sheet" "numbers" "[I" ∈ zu_TB) (hdg : decode cc pc = .ok (.getfield index, 3)) (kk : W p l e R s m args below meth c H locs cells slots Q (F0 m (pc + 3) ls (.ref (ad (r + 4)) :: rest))) : W p l e R s m args below meth c H locs cells slots Q (F0 m pc ls (.ref (ad r) :: rest)) :=
  zr_get (C := zc_Sheet) (T := zt_Sheet) (N := 3) (k := 0) B hP zi_Sheet hr (by decide) (by decide) rfl rfl (by decide) rfl hl hdg kk
theorem zg_Sheet_bits {r : Nat} (B : zu_B p s m args c cc nL own D cA ad A) (hP : va_P D zu_cl (zu_pic cA ad X Y) H) (hr : zu_kd r = 4) (hl : Cond.fieldLink own index "StonePost$Sheet" "bits" "I" ∈ zu_TB) (hdg : decode cc pc = .ok (.getfield index, 3)) (kk : W p l e R s m args below meth c H locs cells slots Q (F0 m (pc + 3) ls (.int (X r 1) :: rest))) : W p l e R s m args below meth c H locs cells slots Q (F0 m pc ls (.ref (ad r) :: rest)) :=
  zr_get (C := zc_Sheet) (T := zt_Sheet) (N := 3) (k := 1) B hP zi_Sheet hr (by decide) (by decide) rfl rfl (by decide) rfl hl hdg kk
theorem zp_Sheet_bits {r : Nat} {v : Int32} {β : Type} {kf : IX → β} {R0 : β} (B : zu_B p s m args c cc nL own D cA ad A) (hP : va_P D zu_cl (zu_pic cA ad X Y) H) (hS : va_S A s.heap H locs) (hf : zu_nx (zu_st X r 1 v) kf = R0) (hr : zu_kd r = 4) (hl : Cond.fieldLink own index "StonePost$Sheet" "bits" "I" ∈ zu_TB) (hdg : decode cc pc = .ok (.putfield index, 3)) (kk : ∀ (X1 : IX) (H1 : Heap) (locs1 : List Loc), kf X1 = R0 → va_P D zu_cl (zu_pic cA ad X1 Y) H1 → va_S A s.heap H1 locs1 → W p l e R s m args below meth c H1 locs1 cells slots Q (F0 m (pc + 3) ls rest)) : W p l e R s m args below meth c H locs cells slots Q (F0 m pc ls (.int v :: .ref (ad r) :: rest)) :=
  zr_put (C := zc_Sheet) (T := zt_Sheet) (N := 3) (k := 1) B hP hS hf zi_Sheet zy_Sheet zy_Sheet_ok zn_Sheet hr (by decide) (by decide) rfl rfl (by decide) (by simp) rfl rfl (ty := .int) (by decide +kernel) rfl rfl hl hdg kk
theorem zg_Sheet_length {r : Nat} (B : zu_B p s m args c cc nL own D cA ad A) (hP : va_P D zu_cl (zu_pic cA ad X Y) H) (hr : zu_kd r = 4) (hl : Cond.fieldLink own index "StonePost$Sheet" "length" "I" ∈ zu_TB) (hdg : decode cc pc = .ok (.getfield index, 3)) (kk : W p l e R s m args below meth c H locs cells slots Q (F0 m (pc + 3) ls (.int (X r 2) :: rest))) : W p l e R s m args below meth c H locs cells slots Q (F0 m pc ls (.ref (ad r) :: rest)) :=
  zr_get (C := zc_Sheet) (T := zt_Sheet) (N := 3) (k := 2) B hP zi_Sheet hr (by decide) (by decide) rfl rfl (by decide) rfl hl hdg kk
theorem zp_Sheet_length {r : Nat} {v : Int32} {β : Type} {kf : IX → β} {R0 : β} (B : zu_B p s m args c cc nL own D cA ad A) (hP : va_P D zu_cl (zu_pic cA ad X Y) H) (hS : va_S A s.heap H locs) (hf : zu_nx (zu_st X r 2 v) kf = R0) (hr : zu_kd r = 4) (hl : Cond.fieldLink own index "StonePost$Sheet" "length" "I" ∈ zu_TB) (hdg : decode cc pc = .ok (.putfield index, 3)) (kk : ∀ (X1 : IX) (H1 : Heap) (locs1 : List Loc), kf X1 = R0 → va_P D zu_cl (zu_pic cA ad X1 Y) H1 → va_S A s.heap H1 locs1 → W p l e R s m args below meth c H1 locs1 cells slots Q (F0 m (pc + 3) ls rest)) : W p l e R s m args below meth c H locs cells slots Q (F0 m pc ls (.int v :: .ref (ad r) :: rest)) :=
  zr_put (C := zc_Sheet) (T := zt_Sheet) (N := 3) (k := 2) B hP hS hf zi_Sheet zy_Sheet zy_Sheet_ok zn_Sheet hr (by decide) (by decide) rfl rfl (by decide) (by simp) rfl rfl (ty := .int) (by decide +kernel) rfl rfl hl hdg kk
theorem zg_Tape_bytes {r : Nat} (B : zu_B p s m args c cc nL own D cA ad A) (hP : va_P D zu_cl (zu_pic cA ad X Y) H) (hr : zu_kd r = 3) (hl : Cond.fieldLink own index "StonePost$Tape" "bytes" "[I" ∈ zu_TB) (hdg : decode cc pc = .ok (.getfield index, 3)) (kk : W p l e R s m args below meth c H locs cells slots Q (F0 m (pc + 3) ls (.ref (ad 9) :: rest))) : W p l e R s m args below meth c H locs cells slots Q (F0 m pc ls (.ref (ad r) :: rest)) :=
  zr_get (C := zc_Tape) (T := zt_Tape) (N := 6) (k := 0) B hP zi_Tape hr (by decide) (by decide) rfl rfl (by decide) rfl hl hdg kk
theorem zg_Tape_length {r : Nat} (B : zu_B p s m args c cc nL own D cA ad A) (hP : va_P D zu_cl (zu_pic cA ad X Y) H) (hr : zu_kd r = 3) (hl : Cond.fieldLink own index "StonePost$Tape" "length" "I" ∈ zu_TB) (hdg : decode cc pc = .ok (.getfield index, 3)) (kk : W p l e R s m args below meth c H locs cells slots Q (F0 m (pc + 3) ls (.int (X r 1) :: rest))) : W p l e R s m args below meth c H locs cells slots Q (F0 m pc ls (.ref (ad r) :: rest)) :=
  zr_get (C := zc_Tape) (T := zt_Tape) (N := 6) (k := 1) B hP zi_Tape hr (by decide) (by decide) rfl rfl (by decide) rfl hl hdg kk
theorem zp_Tape_length {r : Nat} {v : Int32} {β : Type} {kf : IX → β} {R0 : β} (B : zu_B p s m args c cc nL own D cA ad A) (hP : va_P D zu_cl (zu_pic cA ad X Y) H) (hS : va_S A s.heap H locs) (hf : zu_nx (zu_st X r 1 v) kf = R0) (hr : zu_kd r = 3) (hl : Cond.fieldLink own index "StonePost$Tape" "length" "I" ∈ zu_TB) (hdg : decode cc pc = .ok (.putfield index, 3)) (kk : ∀ (X1 : IX) (H1 : Heap) (locs1 : List Loc), kf X1 = R0 → va_P D zu_cl (zu_pic cA ad X1 Y) H1 → va_S A s.heap H1 locs1 → W p l e R s m args below meth c H1 locs1 cells slots Q (F0 m (pc + 3) ls rest)) : W p l e R s m args below meth c H locs cells slots Q (F0 m pc ls (.int v :: .ref (ad r) :: rest)) :=
  zr_put (C := zc_Tape) (T := zt_Tape) (N := 6) (k := 1) B hP hS hf zi_Tape zy_Tape zy_Tape_ok zn_Tape hr (by decide) (by decide) rfl rfl (by decide) (by simp) rfl rfl (ty := .int) (by decide +kernel) rfl rfl hl hdg kk
theorem zg_Tape_token {r : Nat} (B : zu_B p s m args c cc nL own D cA ad A) (hP : va_P D zu_cl (zu_pic cA ad X Y) H) (hr : zu_kd r = 3) (hl : Cond.fieldLink own index "StonePost$Tape" "token" "I" ∈ zu_TB) (hdg : decode cc pc = .ok (.getfield index, 3)) (kk : W p l e R s m args below meth c H locs cells slots Q (F0 m (pc + 3) ls (.int (X r 2) :: rest))) : W p l e R s m args below meth c H locs cells slots Q (F0 m pc ls (.ref (ad r) :: rest)) :=
  zr_get (C := zc_Tape) (T := zt_Tape) (N := 6) (k := 2) B hP zi_Tape hr (by decide) (by decide) rfl rfl (by decide) rfl hl hdg kk
theorem zp_Tape_token {r : Nat} {v : Int32} {β : Type} {kf : IX → β} {R0 : β} (B : zu_B p s m args c cc nL own D cA ad A) (hP : va_P D zu_cl (zu_pic cA ad X Y) H) (hS : va_S A s.heap H locs) (hf : zu_nx (zu_st X r 2 v) kf = R0) (hr : zu_kd r = 3) (hl : Cond.fieldLink own index "StonePost$Tape" "token" "I" ∈ zu_TB) (hdg : decode cc pc = .ok (.putfield index, 3)) (kk : ∀ (X1 : IX) (H1 : Heap) (locs1 : List Loc), kf X1 = R0 → va_P D zu_cl (zu_pic cA ad X1 Y) H1 → va_S A s.heap H1 locs1 → W p l e R s m args below meth c H1 locs1 cells slots Q (F0 m (pc + 3) ls rest)) : W p l e R s m args below meth c H locs cells slots Q (F0 m pc ls (.int v :: .ref (ad r) :: rest)) :=
  zr_put (C := zc_Tape) (T := zt_Tape) (N := 6) (k := 2) B hP hS hf zi_Tape zy_Tape zy_Tape_ok zn_Tape hr (by decide) (by decide) rfl rfl (by decide) (by simp) rfl rfl (ty := .int) (by decide +kernel) rfl rfl hl hdg kk
theorem zg_Tape_start {r : Nat} (B : zu_B p s m args c cc nL own D cA ad A) (hP : va_P D zu_cl (zu_pic cA ad X Y) H) (hr : zu_kd r = 3) (hl : Cond.fieldLink own index "StonePost$Tape" "start" "I" ∈ zu_TB) (hdg : decode cc pc = .ok (.getfield index, 3)) (kk : W p l e R s m args below meth c H locs cells slots Q (F0 m (pc + 3) ls (.int (X r 3) :: rest))) : W p l e R s m args below meth c H locs cells slots Q (F0 m pc ls (.ref (ad r) :: rest)) :=
  zr_get (C := zc_Tape) (T := zt_Tape) (N := 6) (k := 3) B hP zi_Tape hr (by decide) (by decide) rfl rfl (by decide) rfl hl hdg kk
theorem zp_Tape_start {r : Nat} {v : Int32} {β : Type} {kf : IX → β} {R0 : β} (B : zu_B p s m args c cc nL own D cA ad A) (hP : va_P D zu_cl (zu_pic cA ad X Y) H) (hS : va_S A s.heap H locs) (hf : zu_nx (zu_st X r 3 v) kf = R0) (hr : zu_kd r = 3) (hl : Cond.fieldLink own index "StonePost$Tape" "start" "I" ∈ zu_TB) (hdg : decode cc pc = .ok (.putfield index, 3)) (kk : ∀ (X1 : IX) (H1 : Heap) (locs1 : List Loc), kf X1 = R0 → va_P D zu_cl (zu_pic cA ad X1 Y) H1 → va_S A s.heap H1 locs1 → W p l e R s m args below meth c H1 locs1 cells slots Q (F0 m (pc + 3) ls rest)) : W p l e R s m args below meth c H locs cells slots Q (F0 m pc ls (.int v :: .ref (ad r) :: rest)) :=
  zr_put (C := zc_Tape) (T := zt_Tape) (N := 6) (k := 3) B hP hS hf zi_Tape zy_Tape zy_Tape_ok zn_Tape hr (by decide) (by decide) rfl rfl (by decide) (by simp) rfl rfl (ty := .int) (by decide +kernel) rfl rfl hl hdg kk
theorem zg_Tape_value {r : Nat} (B : zu_B p s m args c cc nL own D cA ad A) (hP : va_P D zu_cl (zu_pic cA ad X Y) H) (hr : zu_kd r = 3) (hl : Cond.fieldLink own index "StonePost$Tape" "value" "I" ∈ zu_TB) (hdg : decode cc pc = .ok (.getfield index, 3)) (kk : W p l e R s m args below meth c H locs cells slots Q (F0 m (pc + 3) ls (.int (X r 4) :: rest))) : W p l e R s m args below meth c H locs cells slots Q (F0 m pc ls (.ref (ad r) :: rest)) :=
  zr_get (C := zc_Tape) (T := zt_Tape) (N := 6) (k := 4) B hP zi_Tape hr (by decide) (by decide) rfl rfl (by decide) rfl hl hdg kk
theorem zp_Tape_value {r : Nat} {v : Int32} {β : Type} {kf : IX → β} {R0 : β} (B : zu_B p s m args c cc nL own D cA ad A) (hP : va_P D zu_cl (zu_pic cA ad X Y) H) (hS : va_S A s.heap H locs) (hf : zu_nx (zu_st X r 4 v) kf = R0) (hr : zu_kd r = 3) (hl : Cond.fieldLink own index "StonePost$Tape" "value" "I" ∈ zu_TB) (hdg : decode cc pc = .ok (.putfield index, 3)) (kk : ∀ (X1 : IX) (H1 : Heap) (locs1 : List Loc), kf X1 = R0 → va_P D zu_cl (zu_pic cA ad X1 Y) H1 → va_S A s.heap H1 locs1 → W p l e R s m args below meth c H1 locs1 cells slots Q (F0 m (pc + 3) ls rest)) : W p l e R s m args below meth c H locs cells slots Q (F0 m pc ls (.int v :: .ref (ad r) :: rest)) :=
  zr_put (C := zc_Tape) (T := zt_Tape) (N := 6) (k := 4) B hP hS hf zi_Tape zy_Tape zy_Tape_ok zn_Tape hr (by decide) (by decide) rfl rfl (by decide) (by simp) rfl rfl (ty := .int) (by decide +kernel) rfl rfl hl hdg kk
theorem zg_Tape_end {r : Nat} (B : zu_B p s m args c cc nL own D cA ad A) (hP : va_P D zu_cl (zu_pic cA ad X Y) H) (hr : zu_kd r = 3) (hl : Cond.fieldLink own index "StonePost$Tape" "end" "I" ∈ zu_TB) (hdg : decode cc pc = .ok (.getfield index, 3)) (kk : W p l e R s m args below meth c H locs cells slots Q (F0 m (pc + 3) ls (.int (X r 5) :: rest))) : W p l e R s m args below meth c H locs cells slots Q (F0 m pc ls (.ref (ad r) :: rest)) :=
  zr_get (C := zc_Tape) (T := zt_Tape) (N := 6) (k := 5) B hP zi_Tape hr (by decide) (by decide) rfl rfl (by decide) rfl hl hdg kk
theorem zp_Tape_end {r : Nat} {v : Int32} {β : Type} {kf : IX → β} {R0 : β} (B : zu_B p s m args c cc nL own D cA ad A) (hP : va_P D zu_cl (zu_pic cA ad X Y) H) (hS : va_S A s.heap H locs) (hf : zu_nx (zu_st X r 5 v) kf = R0) (hr : zu_kd r = 3) (hl : Cond.fieldLink own index "StonePost$Tape" "end" "I" ∈ zu_TB) (hdg : decode cc pc = .ok (.putfield index, 3)) (kk : ∀ (X1 : IX) (H1 : Heap) (locs1 : List Loc), kf X1 = R0 → va_P D zu_cl (zu_pic cA ad X1 Y) H1 → va_S A s.heap H1 locs1 → W p l e R s m args below meth c H1 locs1 cells slots Q (F0 m (pc + 3) ls rest)) : W p l e R s m args below meth c H locs cells slots Q (F0 m pc ls (.int v :: .ref (ad r) :: rest)) :=
  zr_put (C := zc_Tape) (T := zt_Tape) (N := 6) (k := 5) B hP hS hf zi_Tape zy_Tape zy_Tape_ok zn_Tape hr (by decide) (by decide) rfl rfl (by decide) (by simp) rfl rfl (ty := .int) (by decide +kernel) rfl rfl hl hdg kk
theorem zg_Thr_facts {r : Nat} (B : zu_B p s m args c cc nL own D cA ad A) (hP : va_P D zu_cl (zu_pic cA ad X Y) H) (hr : zu_kd r = 6) (hl : Cond.fieldLink own index "StonePost$Thrower" "facts" "[I" ∈ zu_TB) (hdg : decode cc pc = .ok (.getfield index, 3)) (kk : W p l e R s m args below meth c H locs cells slots Q (F0 m (pc + 3) ls (.ref (ad (r + 30)) :: rest))) : W p l e R s m args below meth c H locs cells slots Q (F0 m pc ls (.ref (ad r) :: rest)) :=
  zr_get (C := zc_Thr) (T := zt_Thr) (N := 1) (k := 0) B hP zi_Thr hr (by decide) (by decide) rfl rfl (by decide) rfl hl hdg kk
theorem zg_Post_land {r : Nat} (B : zu_B p s m args c cc nL own D cA ad A) (hP : va_P D zu_cl (zu_pic cA ad X Y) H) (hr : zu_kd r = 1) (hl : Cond.fieldLink own index "StonePost" "land" "LStonePost$Land;" ∈ zu_TB) (hdg : decode cc pc = .ok (.getfield index, 3)) (kk : W p l e R s m args below meth c H locs cells slots Q (F0 m (pc + 3) ls (.ref (ad 20) :: rest))) : W p l e R s m args below meth c H locs cells slots Q (F0 m pc ls (.ref (ad r) :: rest)) :=
  zr_get (C := zc_Post) (T := zt_Post) (N := 8) (k := 0) B hP zi_Post hr (by decide) (by decide) rfl rfl (by decide) rfl hl hdg kk
theorem zg_Post_kept {r : Nat} (B : zu_B p s m args c cc nL own D cA ad A) (hP : va_P D zu_cl (zu_pic cA ad X Y) H) (hr : zu_kd r = 1) (hl : Cond.fieldLink own index "StonePost" "kept" "LStonePost$Land;" ∈ zu_TB) (hdg : decode cc pc = .ok (.getfield index, 3)) (kk : W p l e R s m args below meth c H locs cells slots Q (F0 m (pc + 3) ls (.ref (ad 21) :: rest))) : W p l e R s m args below meth c H locs cells slots Q (F0 m pc ls (.ref (ad r) :: rest)) :=
  zr_get (C := zc_Post) (T := zt_Post) (N := 8) (k := 1) B hP zi_Post hr (by decide) (by decide) rfl rfl (by decide) rfl hl hdg kk
theorem zg_Post_trial {r : Nat} (B : zu_B p s m args c cc nL own D cA ad A) (hP : va_P D zu_cl (zu_pic cA ad X Y) H) (hr : zu_kd r = 1) (hl : Cond.fieldLink own index "StonePost" "trial" "LStonePost$Land;" ∈ zu_TB) (hdg : decode cc pc = .ok (.getfield index, 3)) (kk : W p l e R s m args below meth c H locs cells slots Q (F0 m (pc + 3) ls (.ref (ad 22) :: rest))) : W p l e R s m args below meth c H locs cells slots Q (F0 m pc ls (.ref (ad r) :: rest)) :=
  zr_get (C := zc_Post) (T := zt_Post) (N := 8) (k := 2) B hP zi_Post hr (by decide) (by decide) rfl rfl (by decide) rfl hl hdg kk
theorem zg_Post_chart {r : Nat} (B : zu_B p s m args c cc nL own D cA ad A) (hP : va_P D zu_cl (zu_pic cA ad X Y) H) (hr : zu_kd r = 1) (hl : Cond.fieldLink own index "StonePost" "chart" "LStonePost$Chart;" ∈ zu_TB) (hdg : decode cc pc = .ok (.getfield index, 3)) (kk : W p l e R s m args below meth c H locs cells slots Q (F0 m (pc + 3) ls (.ref (ad 1) :: rest))) : W p l e R s m args below meth c H locs cells slots Q (F0 m pc ls (.ref (ad r) :: rest)) :=
  zr_get (C := zc_Post) (T := zt_Post) (N := 8) (k := 3) B hP zi_Post hr (by decide) (by decide) rfl rfl (by decide) rfl hl hdg kk
theorem zg_Post_tape {r : Nat} (B : zu_B p s m args c cc nL own D cA ad A) (hP : va_P D zu_cl (zu_pic cA ad X Y) H) (hr : zu_kd r = 1) (hl : Cond.fieldLink own index "StonePost" "tape" "LStonePost$Tape;" ∈ zu_TB) (hdg : decode cc pc = .ok (.getfield index, 3)) (kk : W p l e R s m args below meth c H locs cells slots Q (F0 m (pc + 3) ls (.ref (ad 8) :: rest))) : W p l e R s m args below meth c H locs cells slots Q (F0 m pc ls (.ref (ad r) :: rest)) :=
  zr_get (C := zc_Post) (T := zt_Post) (N := 8) (k := 4) B hP zi_Post hr (by decide) (by decide) rfl rfl (by decide) rfl hl hdg kk
theorem zg_Post_sheets {r : Nat} (B : zu_B p s m args c cc nL own D cA ad A) (hP : va_P D zu_cl (zu_pic cA ad X Y) H) (hr : zu_kd r = 1) (hl : Cond.fieldLink own index "StonePost" "sheets" "[LStonePost$Sheet;" ∈ zu_TB) (hdg : decode cc pc = .ok (.getfield index, 3)) (kk : W p l e R s m args below meth c H locs cells slots Q (F0 m (pc + 3) ls (.ref (ad 10) :: rest))) : W p l e R s m args below meth c H locs cells slots Q (F0 m pc ls (.ref (ad r) :: rest)) :=
  zr_get (C := zc_Post) (T := zt_Post) (N := 8) (k := 5) B hP zi_Post hr (by decide) (by decide) rfl rfl (by decide) rfl hl hdg kk
theorem zg_Post_found {r : Nat} (B : zu_B p s m args c cc nL own D cA ad A) (hP : va_P D zu_cl (zu_pic cA ad X Y) H) (hr : zu_kd r = 1) (hl : Cond.fieldLink own index "StonePost" "found" "[I" ∈ zu_TB) (hdg : decode cc pc = .ok (.getfield index, 3)) (kk : W p l e R s m args below meth c H locs cells slots Q (F0 m (pc + 3) ls (.ref (ad 11) :: rest))) : W p l e R s m args below meth c H locs cells slots Q (F0 m pc ls (.ref (ad r) :: rest)) :=
  zr_get (C := zc_Post) (T := zt_Post) (N := 8) (k := 6) B hP zi_Post hr (by decide) (by decide) rfl rfl (by decide) rfl hl hdg kk
theorem zg_Post_isKept {r : Nat} (B : zu_B p s m args c cc nL own D cA ad A) (hP : va_P D zu_cl (zu_pic cA ad X Y) H) (hr : zu_kd r = 1) (hl : Cond.fieldLink own index "StonePost" "isKept" "Z" ∈ zu_TB) (hdg : decode cc pc = .ok (.getfield index, 3)) (kk : W p l e R s m args below meth c H locs cells slots Q (F0 m (pc + 3) ls (.int (X r 7) :: rest))) : W p l e R s m args below meth c H locs cells slots Q (F0 m pc ls (.ref (ad r) :: rest)) :=
  zr_get (C := zc_Post) (T := zt_Post) (N := 8) (k := 7) B hP zi_Post hr (by decide) (by decide) rfl rfl (by decide) rfl hl hdg kk
theorem zp_Post_isKept {r : Nat} {v : Int32} {β : Type} {kf : IX → β} {R0 : β} (B : zu_B p s m args c cc nL own D cA ad A) (hP : va_P D zu_cl (zu_pic cA ad X Y) H) (hS : va_S A s.heap H locs) (hf : zu_nx (zu_st X r 7 v) kf = R0) (hr : zu_kd r = 1) (h01 : zu_01 v = true) (hl : Cond.fieldLink own index "StonePost" "isKept" "Z" ∈ zu_TB) (hdg : decode cc pc = .ok (.putfield index, 3)) (kk : ∀ (X1 : IX) (H1 : Heap) (locs1 : List Loc), kf X1 = R0 → va_P D zu_cl (zu_pic cA ad X1 Y) H1 → va_S A s.heap H1 locs1 → W p l e R s m args below meth c H1 locs1 cells slots Q (F0 m (pc + 3) ls rest)) : W p l e R s m args below meth c H locs cells slots Q (F0 m pc ls (.int v :: .ref (ad r) :: rest)) :=
  zr_put (C := zc_Post) (T := zt_Post) (N := 8) (k := 7) B hP hS hf zi_Post zy_Post zy_Post_ok zn_Post hr (by decide) (by decide) rfl rfl (by decide) (by simp) rfl rfl (ty := .boolean) (by decide +kernel) (zu_01_n h01) (zu_01_f h01) hl hdg kk
theorem zg_Mod_s {r : Nat} (B : zu_B p s m args c cc nL own D cA ad A) (hP : va_P D zu_cl (zu_pic cA ad X Y) H) (hr : zu_kd r = 7) (hl : Cond.fieldLink own index "StonePostModel" "s" "[I" ∈ zu_TB) (hdg : decode cc pc = .ok (.getfield index, 3)) (kk : W p l e R s m args below meth c H locs cells slots Q (F0 m (pc + 3) ls (.ref (ad 96) :: rest))) : W p l e R s m args below meth c H locs cells slots Q (F0 m pc ls (.ref (ad r) :: rest)) :=
  zr_get (C := zc_Mod) (T := zt_Mod) (N := 23) (k := 0) B hP zi_Mod hr (by decide) (by decide) rfl rfl (by decide) rfl hl hdg kk
theorem zg_Mod_keptS {r : Nat} (B : zu_B p s m args c cc nL own D cA ad A) (hP : va_P D zu_cl (zu_pic cA ad X Y) H) (hr : zu_kd r = 7) (hl : Cond.fieldLink own index "StonePostModel" "keptS" "[I" ∈ zu_TB) (hdg : decode cc pc = .ok (.getfield index, 3)) (kk : W p l e R s m args below meth c H locs cells slots Q (F0 m (pc + 3) ls (.ref (ad 97) :: rest))) : W p l e R s m args below meth c H locs cells slots Q (F0 m pc ls (.ref (ad r) :: rest)) :=
  zr_get (C := zc_Mod) (T := zt_Mod) (N := 23) (k := 1) B hP zi_Mod hr (by decide) (by decide) rfl rfl (by decide) rfl hl hdg kk
theorem zg_Mod_other {r : Nat} (B : zu_B p s m args c cc nL own D cA ad A) (hP : va_P D zu_cl (zu_pic cA ad X Y) H) (hr : zu_kd r = 7) (hl : Cond.fieldLink own index "StonePostModel" "other" "[I" ∈ zu_TB) (hdg : decode cc pc = .ok (.getfield index, 3)) (kk : W p l e R s m args below meth c H locs cells slots Q (F0 m (pc + 3) ls (.ref (ad 98) :: rest))) : W p l e R s m args below meth c H locs cells slots Q (F0 m pc ls (.ref (ad r) :: rest)) :=
  zr_get (C := zc_Mod) (T := zt_Mod) (N := 23) (k := 2) B hP zi_Mod hr (by decide) (by decide) rfl rfl (by decide) rfl hl hdg kk
theorem zg_Mod_statuses {r : Nat} (B : zu_B p s m args c cc nL own D cA ad A) (hP : va_P D zu_cl (zu_pic cA ad X Y) H) (hr : zu_kd r = 7) (hl : Cond.fieldLink own index "StonePostModel" "statuses" "[I" ∈ zu_TB) (hdg : decode cc pc = .ok (.getfield index, 3)) (kk : W p l e R s m args below meth c H locs cells slots Q (F0 m (pc + 3) ls (.ref (ad 99) :: rest))) : W p l e R s m args below meth c H locs cells slots Q (F0 m pc ls (.ref (ad r) :: rest)) :=
  zr_get (C := zc_Mod) (T := zt_Mod) (N := 23) (k := 3) B hP zi_Mod hr (by decide) (by decide) rfl rfl (by decide) rfl hl hdg kk
theorem zg_Mod_isKept {r : Nat} (B : zu_B p s m args c cc nL own D cA ad A) (hP : va_P D zu_cl (zu_pic cA ad X Y) H) (hr : zu_kd r = 7) (hl : Cond.fieldLink own index "StonePostModel" "isKept" "Z" ∈ zu_TB) (hdg : decode cc pc = .ok (.getfield index, 3)) (kk : W p l e R s m args below meth c H locs cells slots Q (F0 m (pc + 3) ls (.int (X r 4) :: rest))) : W p l e R s m args below meth c H locs cells slots Q (F0 m pc ls (.ref (ad r) :: rest)) :=
  zr_get (C := zc_Mod) (T := zt_Mod) (N := 23) (k := 4) B hP zi_Mod hr (by decide) (by decide) rfl rfl (by decide) rfl hl hdg kk
theorem zp_Mod_isKept {r : Nat} {v : Int32} {β : Type} {kf : IX → β} {R0 : β} (B : zu_B p s m args c cc nL own D cA ad A) (hP : va_P D zu_cl (zu_pic cA ad X Y) H) (hS : va_S A s.heap H locs) (hf : zu_nx (zu_st X r 4 v) kf = R0) (hr : zu_kd r = 7) (h01 : zu_01 v = true) (hl : Cond.fieldLink own index "StonePostModel" "isKept" "Z" ∈ zu_TB) (hdg : decode cc pc = .ok (.putfield index, 3)) (kk : ∀ (X1 : IX) (H1 : Heap) (locs1 : List Loc), kf X1 = R0 → va_P D zu_cl (zu_pic cA ad X1 Y) H1 → va_S A s.heap H1 locs1 → W p l e R s m args below meth c H1 locs1 cells slots Q (F0 m (pc + 3) ls rest)) : W p l e R s m args below meth c H locs cells slots Q (F0 m pc ls (.int v :: .ref (ad r) :: rest)) :=
  zr_put (C := zc_Mod) (T := zt_Mod) (N := 23) (k := 4) B hP hS hf zi_Mod zy_Mod zy_Mod_ok zn_Mod hr (by decide) (by decide) rfl rfl (by decide) (by simp) rfl rfl (ty := .boolean) (by decide +kernel) (zu_01_n h01) (zu_01_f h01) hl hdg kk
theorem zg_Mod_first {r : Nat} (B : zu_B p s m args c cc nL own D cA ad A) (hP : va_P D zu_cl (zu_pic cA ad X Y) H) (hr : zu_kd r = 7) (hl : Cond.fieldLink own index "StonePostModel" "first" "I" ∈ zu_TB) (hdg : decode cc pc = .ok (.getfield index, 3)) (kk : W p l e R s m args below meth c H locs cells slots Q (F0 m (pc + 3) ls (.int (X r 5) :: rest))) : W p l e R s m args below meth c H locs cells slots Q (F0 m pc ls (.ref (ad r) :: rest)) :=
  zr_get (C := zc_Mod) (T := zt_Mod) (N := 23) (k := 5) B hP zi_Mod hr (by decide) (by decide) rfl rfl (by decide) rfl hl hdg kk
theorem zp_Mod_first {r : Nat} {v : Int32} {β : Type} {kf : IX → β} {R0 : β} (B : zu_B p s m args c cc nL own D cA ad A) (hP : va_P D zu_cl (zu_pic cA ad X Y) H) (hS : va_S A s.heap H locs) (hf : zu_nx (zu_st X r 5 v) kf = R0) (hr : zu_kd r = 7) (hl : Cond.fieldLink own index "StonePostModel" "first" "I" ∈ zu_TB) (hdg : decode cc pc = .ok (.putfield index, 3)) (kk : ∀ (X1 : IX) (H1 : Heap) (locs1 : List Loc), kf X1 = R0 → va_P D zu_cl (zu_pic cA ad X1 Y) H1 → va_S A s.heap H1 locs1 → W p l e R s m args below meth c H1 locs1 cells slots Q (F0 m (pc + 3) ls rest)) : W p l e R s m args below meth c H locs cells slots Q (F0 m pc ls (.int v :: .ref (ad r) :: rest)) :=
  zr_put (C := zc_Mod) (T := zt_Mod) (N := 23) (k := 5) B hP hS hf zi_Mod zy_Mod zy_Mod_ok zn_Mod hr (by decide) (by decide) rfl rfl (by decide) (by simp) rfl rfl (ty := .int) (by decide +kernel) rfl rfl hl hdg kk
theorem zg_Mod_twelfths {r : Nat} (B : zu_B p s m args c cc nL own D cA ad A) (hP : va_P D zu_cl (zu_pic cA ad X Y) H) (hr : zu_kd r = 7) (hl : Cond.fieldLink own index "StonePostModel" "twelfths" "I" ∈ zu_TB) (hdg : decode cc pc = .ok (.getfield index, 3)) (kk : W p l e R s m args below meth c H locs cells slots Q (F0 m (pc + 3) ls (.int (X r 6) :: rest))) : W p l e R s m args below meth c H locs cells slots Q (F0 m pc ls (.ref (ad r) :: rest)) :=
  zr_get (C := zc_Mod) (T := zt_Mod) (N := 23) (k := 6) B hP zi_Mod hr (by decide) (by decide) rfl rfl (by decide) rfl hl hdg kk
theorem zp_Mod_twelfths {r : Nat} {v : Int32} {β : Type} {kf : IX → β} {R0 : β} (B : zu_B p s m args c cc nL own D cA ad A) (hP : va_P D zu_cl (zu_pic cA ad X Y) H) (hS : va_S A s.heap H locs) (hf : zu_nx (zu_st X r 6 v) kf = R0) (hr : zu_kd r = 7) (hl : Cond.fieldLink own index "StonePostModel" "twelfths" "I" ∈ zu_TB) (hdg : decode cc pc = .ok (.putfield index, 3)) (kk : ∀ (X1 : IX) (H1 : Heap) (locs1 : List Loc), kf X1 = R0 → va_P D zu_cl (zu_pic cA ad X1 Y) H1 → va_S A s.heap H1 locs1 → W p l e R s m args below meth c H1 locs1 cells slots Q (F0 m (pc + 3) ls rest)) : W p l e R s m args below meth c H locs cells slots Q (F0 m pc ls (.int v :: .ref (ad r) :: rest)) :=
  zr_put (C := zc_Mod) (T := zt_Mod) (N := 23) (k := 6) B hP hS hf zi_Mod zy_Mod zy_Mod_ok zn_Mod hr (by decide) (by decide) rfl rfl (by decide) (by simp) rfl rfl (ty := .int) (by decide +kernel) rfl rfl hl hdg kk
theorem zg_Mod_second {r : Nat} (B : zu_B p s m args c cc nL own D cA ad A) (hP : va_P D zu_cl (zu_pic cA ad X Y) H) (hr : zu_kd r = 7) (hl : Cond.fieldLink own index "StonePostModel" "second" "I" ∈ zu_TB) (hdg : decode cc pc = .ok (.getfield index, 3)) (kk : W p l e R s m args below meth c H locs cells slots Q (F0 m (pc + 3) ls (.int (X r 7) :: rest))) : W p l e R s m args below meth c H locs cells slots Q (F0 m pc ls (.ref (ad r) :: rest)) :=
  zr_get (C := zc_Mod) (T := zt_Mod) (N := 23) (k := 7) B hP zi_Mod hr (by decide) (by decide) rfl rfl (by decide) rfl hl hdg kk
theorem zp_Mod_second {r : Nat} {v : Int32} {β : Type} {kf : IX → β} {R0 : β} (B : zu_B p s m args c cc nL own D cA ad A) (hP : va_P D zu_cl (zu_pic cA ad X Y) H) (hS : va_S A s.heap H locs) (hf : zu_nx (zu_st X r 7 v) kf = R0) (hr : zu_kd r = 7) (hl : Cond.fieldLink own index "StonePostModel" "second" "I" ∈ zu_TB) (hdg : decode cc pc = .ok (.putfield index, 3)) (kk : ∀ (X1 : IX) (H1 : Heap) (locs1 : List Loc), kf X1 = R0 → va_P D zu_cl (zu_pic cA ad X1 Y) H1 → va_S A s.heap H1 locs1 → W p l e R s m args below meth c H1 locs1 cells slots Q (F0 m (pc + 3) ls rest)) : W p l e R s m args below meth c H locs cells slots Q (F0 m pc ls (.int v :: .ref (ad r) :: rest)) :=
  zr_put (C := zc_Mod) (T := zt_Mod) (N := 23) (k := 7) B hP hS hf zi_Mod zy_Mod zy_Mod_ok zn_Mod hr (by decide) (by decide) rfl rfl (by decide) (by simp) rfl rfl (ty := .int) (by decide +kernel) rfl rfl hl hdg kk
theorem zg_Mod_throwing {r : Nat} (B : zu_B p s m args c cc nL own D cA ad A) (hP : va_P D zu_cl (zu_pic cA ad X Y) H) (hr : zu_kd r = 7) (hl : Cond.fieldLink own index "StonePostModel" "throwing" "I" ∈ zu_TB) (hdg : decode cc pc = .ok (.getfield index, 3)) (kk : W p l e R s m args below meth c H locs cells slots Q (F0 m (pc + 3) ls (.int (X r 8) :: rest))) : W p l e R s m args below meth c H locs cells slots Q (F0 m pc ls (.ref (ad r) :: rest)) :=
  zr_get (C := zc_Mod) (T := zt_Mod) (N := 23) (k := 8) B hP zi_Mod hr (by decide) (by decide) rfl rfl (by decide) rfl hl hdg kk
theorem zp_Mod_throwing {r : Nat} {v : Int32} {β : Type} {kf : IX → β} {R0 : β} (B : zu_B p s m args c cc nL own D cA ad A) (hP : va_P D zu_cl (zu_pic cA ad X Y) H) (hS : va_S A s.heap H locs) (hf : zu_nx (zu_st X r 8 v) kf = R0) (hr : zu_kd r = 7) (hl : Cond.fieldLink own index "StonePostModel" "throwing" "I" ∈ zu_TB) (hdg : decode cc pc = .ok (.putfield index, 3)) (kk : ∀ (X1 : IX) (H1 : Heap) (locs1 : List Loc), kf X1 = R0 → va_P D zu_cl (zu_pic cA ad X1 Y) H1 → va_S A s.heap H1 locs1 → W p l e R s m args below meth c H1 locs1 cells slots Q (F0 m (pc + 3) ls rest)) : W p l e R s m args below meth c H locs cells slots Q (F0 m pc ls (.int v :: .ref (ad r) :: rest)) :=
  zr_put (C := zc_Mod) (T := zt_Mod) (N := 23) (k := 8) B hP hS hf zi_Mod zy_Mod zy_Mod_ok zn_Mod hr (by decide) (by decide) rfl rfl (by decide) (by simp) rfl rfl (ty := .int) (by decide +kernel) rfl rfl hl hdg kk
theorem zg_Mod_parts {r : Nat} (B : zu_B p s m args c cc nL own D cA ad A) (hP : va_P D zu_cl (zu_pic cA ad X Y) H) (hr : zu_kd r = 7) (hl : Cond.fieldLink own index "StonePostModel" "parts" "[J" ∈ zu_TB) (hdg : decode cc pc = .ok (.getfield index, 3)) (kk : W p l e R s m args below meth c H locs cells slots Q (F0 m (pc + 3) ls (.ref (ad 100) :: rest))) : W p l e R s m args below meth c H locs cells slots Q (F0 m pc ls (.ref (ad r) :: rest)) :=
  zr_get (C := zc_Mod) (T := zt_Mod) (N := 23) (k := 9) B hP zi_Mod hr (by decide) (by decide) rfl rfl (by decide) rfl hl hdg kk
theorem zg_Mod_then {r : Nat} (B : zu_B p s m args c cc nL own D cA ad A) (hP : va_P D zu_cl (zu_pic cA ad X Y) H) (hr : zu_kd r = 7) (hl : Cond.fieldLink own index "StonePostModel" "then" "[J" ∈ zu_TB) (hdg : decode cc pc = .ok (.getfield index, 3)) (kk : W p l e R s m args below meth c H locs cells slots Q (F0 m (pc + 3) ls (.ref (ad 101) :: rest))) : W p l e R s m args below meth c H locs cells slots Q (F0 m pc ls (.ref (ad r) :: rest)) :=
  zr_get (C := zc_Mod) (T := zt_Mod) (N := 23) (k := 10) B hP zi_Mod hr (by decide) (by decide) rfl rfl (by decide) rfl hl hdg kk
theorem zg_Mod_worth {r : Nat} (B : zu_B p s m args c cc nL own D cA ad A) (hP : va_P D zu_cl (zu_pic cA ad X Y) H) (hr : zu_kd r = 7) (hl : Cond.fieldLink own index "StonePostModel" "worth" "[J" ∈ zu_TB) (hdg : decode cc pc = .ok (.getfield index, 3)) (kk : W p l e R s m args below meth c H locs cells slots Q (F0 m (pc + 3) ls (.ref (ad 102) :: rest))) : W p l e R s m args below meth c H locs cells slots Q (F0 m pc ls (.ref (ad r) :: rest)) :=
  zr_get (C := zc_Mod) (T := zt_Mod) (N := 23) (k := 11) B hP zi_Mod hr (by decide) (by decide) rfl rfl (by decide) rfl hl hdg kk
theorem zg_Mod_thanks {r : Nat} (B : zu_B p s m args c cc nL own D cA ad A) (hP : va_P D zu_cl (zu_pic cA ad X Y) H) (hr : zu_kd r = 7) (hl : Cond.fieldLink own index "StonePostModel" "thanks" "[I" ∈ zu_TB) (hdg : decode cc pc = .ok (.getfield index, 3)) (kk : W p l e R s m args below meth c H locs cells slots Q (F0 m (pc + 3) ls (.ref (ad 103) :: rest))) : W p l e R s m args below meth c H locs cells slots Q (F0 m pc ls (.ref (ad r) :: rest)) :=
  zr_get (C := zc_Mod) (T := zt_Mod) (N := 23) (k := 12) B hP zi_Mod hr (by decide) (by decide) rfl rfl (by decide) rfl hl hdg kk
theorem zg_Mod_tape {r : Nat} (B : zu_B p s m args c cc nL own D cA ad A) (hP : va_P D zu_cl (zu_pic cA ad X Y) H) (hr : zu_kd r = 7) (hl : Cond.fieldLink own index "StonePostModel" "tape" "[I" ∈ zu_TB) (hdg : decode cc pc = .ok (.getfield index, 3)) (kk : W p l e R s m args below meth c H locs cells slots Q (F0 m (pc + 3) ls (.ref (ad 104) :: rest))) : W p l e R s m args below meth c H locs cells slots Q (F0 m pc ls (.ref (ad r) :: rest)) :=
  zr_get (C := zc_Mod) (T := zt_Mod) (N := 23) (k := 13) B hP zi_Mod hr (by decide) (by decide) rfl rfl (by decide) rfl hl hdg kk
theorem zg_Mod_taped {r : Nat} (B : zu_B p s m args c cc nL own D cA ad A) (hP : va_P D zu_cl (zu_pic cA ad X Y) H) (hr : zu_kd r = 7) (hl : Cond.fieldLink own index "StonePostModel" "taped" "I" ∈ zu_TB) (hdg : decode cc pc = .ok (.getfield index, 3)) (kk : W p l e R s m args below meth c H locs cells slots Q (F0 m (pc + 3) ls (.int (X r 14) :: rest))) : W p l e R s m args below meth c H locs cells slots Q (F0 m pc ls (.ref (ad r) :: rest)) :=
  zr_get (C := zc_Mod) (T := zt_Mod) (N := 23) (k := 14) B hP zi_Mod hr (by decide) (by decide) rfl rfl (by decide) rfl hl hdg kk
theorem zp_Mod_taped {r : Nat} {v : Int32} {β : Type} {kf : IX → β} {R0 : β} (B : zu_B p s m args c cc nL own D cA ad A) (hP : va_P D zu_cl (zu_pic cA ad X Y) H) (hS : va_S A s.heap H locs) (hf : zu_nx (zu_st X r 14 v) kf = R0) (hr : zu_kd r = 7) (hl : Cond.fieldLink own index "StonePostModel" "taped" "I" ∈ zu_TB) (hdg : decode cc pc = .ok (.putfield index, 3)) (kk : ∀ (X1 : IX) (H1 : Heap) (locs1 : List Loc), kf X1 = R0 → va_P D zu_cl (zu_pic cA ad X1 Y) H1 → va_S A s.heap H1 locs1 → W p l e R s m args below meth c H1 locs1 cells slots Q (F0 m (pc + 3) ls rest)) : W p l e R s m args below meth c H locs cells slots Q (F0 m pc ls (.int v :: .ref (ad r) :: rest)) :=
  zr_put (C := zc_Mod) (T := zt_Mod) (N := 23) (k := 14) B hP hS hf zi_Mod zy_Mod zy_Mod_ok zn_Mod hr (by decide) (by decide) rfl rfl (by decide) (by simp) rfl rfl (ty := .int) (by decide +kernel) rfl rfl hl hdg kk
theorem zg_Mod_begins {r : Nat} (B : zu_B p s m args c cc nL own D cA ad A) (hP : va_P D zu_cl (zu_pic cA ad X Y) H) (hr : zu_kd r = 7) (hl : Cond.fieldLink own index "StonePostModel" "begins" "I" ∈ zu_TB) (hdg : decode cc pc = .ok (.getfield index, 3)) (kk : W p l e R s m args below meth c H locs cells slots Q (F0 m (pc + 3) ls (.int (X r 15) :: rest))) : W p l e R s m args below meth c H locs cells slots Q (F0 m pc ls (.ref (ad r) :: rest)) :=
  zr_get (C := zc_Mod) (T := zt_Mod) (N := 23) (k := 15) B hP zi_Mod hr (by decide) (by decide) rfl rfl (by decide) rfl hl hdg kk
theorem zp_Mod_begins {r : Nat} {v : Int32} {β : Type} {kf : IX → β} {R0 : β} (B : zu_B p s m args c cc nL own D cA ad A) (hP : va_P D zu_cl (zu_pic cA ad X Y) H) (hS : va_S A s.heap H locs) (hf : zu_nx (zu_st X r 15 v) kf = R0) (hr : zu_kd r = 7) (hl : Cond.fieldLink own index "StonePostModel" "begins" "I" ∈ zu_TB) (hdg : decode cc pc = .ok (.putfield index, 3)) (kk : ∀ (X1 : IX) (H1 : Heap) (locs1 : List Loc), kf X1 = R0 → va_P D zu_cl (zu_pic cA ad X1 Y) H1 → va_S A s.heap H1 locs1 → W p l e R s m args below meth c H1 locs1 cells slots Q (F0 m (pc + 3) ls rest)) : W p l e R s m args below meth c H locs cells slots Q (F0 m pc ls (.int v :: .ref (ad r) :: rest)) :=
  zr_put (C := zc_Mod) (T := zt_Mod) (N := 23) (k := 15) B hP hS hf zi_Mod zy_Mod zy_Mod_ok zn_Mod hr (by decide) (by decide) rfl rfl (by decide) (by simp) rfl rfl (ty := .int) (by decide +kernel) rfl rfl hl hdg kk
theorem zg_Mod_to {r : Nat} (B : zu_B p s m args c cc nL own D cA ad A) (hP : va_P D zu_cl (zu_pic cA ad X Y) H) (hr : zu_kd r = 7) (hl : Cond.fieldLink own index "StonePostModel" "to" "I" ∈ zu_TB) (hdg : decode cc pc = .ok (.getfield index, 3)) (kk : W p l e R s m args below meth c H locs cells slots Q (F0 m (pc + 3) ls (.int (X r 16) :: rest))) : W p l e R s m args below meth c H locs cells slots Q (F0 m pc ls (.ref (ad r) :: rest)) :=
  zr_get (C := zc_Mod) (T := zt_Mod) (N := 23) (k := 16) B hP zi_Mod hr (by decide) (by decide) rfl rfl (by decide) rfl hl hdg kk
theorem zp_Mod_to {r : Nat} {v : Int32} {β : Type} {kf : IX → β} {R0 : β} (B : zu_B p s m args c cc nL own D cA ad A) (hP : va_P D zu_cl (zu_pic cA ad X Y) H) (hS : va_S A s.heap H locs) (hf : zu_nx (zu_st X r 16 v) kf = R0) (hr : zu_kd r = 7) (hl : Cond.fieldLink own index "StonePostModel" "to" "I" ∈ zu_TB) (hdg : decode cc pc = .ok (.putfield index, 3)) (kk : ∀ (X1 : IX) (H1 : Heap) (locs1 : List Loc), kf X1 = R0 → va_P D zu_cl (zu_pic cA ad X1 Y) H1 → va_S A s.heap H1 locs1 → W p l e R s m args below meth c H1 locs1 cells slots Q (F0 m (pc + 3) ls rest)) : W p l e R s m args below meth c H locs cells slots Q (F0 m pc ls (.int v :: .ref (ad r) :: rest)) :=
  zr_put (C := zc_Mod) (T := zt_Mod) (N := 23) (k := 16) B hP hS hf zi_Mod zy_Mod zy_Mod_ok zn_Mod hr (by decide) (by decide) rfl rfl (by decide) (by simp) rfl rfl (ty := .int) (by decide +kernel) rfl rfl hl hdg kk
theorem zg_Mod_value {r : Nat} (B : zu_B p s m args c cc nL own D cA ad A) (hP : va_P D zu_cl (zu_pic cA ad X Y) H) (hr : zu_kd r = 7) (hl : Cond.fieldLink own index "StonePostModel" "value" "I" ∈ zu_TB) (hdg : decode cc pc = .ok (.getfield index, 3)) (kk : W p l e R s m args below meth c H locs cells slots Q (F0 m (pc + 3) ls (.int (X r 17) :: rest))) : W p l e R s m args below meth c H locs cells slots Q (F0 m pc ls (.ref (ad r) :: rest)) :=
  zr_get (C := zc_Mod) (T := zt_Mod) (N := 23) (k := 17) B hP zi_Mod hr (by decide) (by decide) rfl rfl (by decide) rfl hl hdg kk
theorem zp_Mod_value {r : Nat} {v : Int32} {β : Type} {kf : IX → β} {R0 : β} (B : zu_B p s m args c cc nL own D cA ad A) (hP : va_P D zu_cl (zu_pic cA ad X Y) H) (hS : va_S A s.heap H locs) (hf : zu_nx (zu_st X r 17 v) kf = R0) (hr : zu_kd r = 7) (hl : Cond.fieldLink own index "StonePostModel" "value" "I" ∈ zu_TB) (hdg : decode cc pc = .ok (.putfield index, 3)) (kk : ∀ (X1 : IX) (H1 : Heap) (locs1 : List Loc), kf X1 = R0 → va_P D zu_cl (zu_pic cA ad X1 Y) H1 → va_S A s.heap H1 locs1 → W p l e R s m args below meth c H1 locs1 cells slots Q (F0 m (pc + 3) ls rest)) : W p l e R s m args below meth c H locs cells slots Q (F0 m pc ls (.int v :: .ref (ad r) :: rest)) :=
  zr_put (C := zc_Mod) (T := zt_Mod) (N := 23) (k := 17) B hP hS hf zi_Mod zy_Mod zy_Mod_ok zn_Mod hr (by decide) (by decide) rfl rfl (by decide) (by simp) rfl rfl (ty := .int) (by decide +kernel) rfl rfl hl hdg kk
theorem zg_Mod_isWrong {r : Nat} (B : zu_B p s m args c cc nL own D cA ad A) (hP : va_P D zu_cl (zu_pic cA ad X Y) H) (hr : zu_kd r = 7) (hl : Cond.fieldLink own index "StonePostModel" "isWrong" "Z" ∈ zu_TB) (hdg : decode cc pc = .ok (.getfield index, 3)) (kk : W p l e R s m args below meth c H locs cells slots Q (F0 m (pc + 3) ls (.int (X r 18) :: rest))) : W p l e R s m args below meth c H locs cells slots Q (F0 m pc ls (.ref (ad r) :: rest)) :=
  zr_get (C := zc_Mod) (T := zt_Mod) (N := 23) (k := 18) B hP zi_Mod hr (by decide) (by decide) rfl rfl (by decide) rfl hl hdg kk
theorem zp_Mod_isWrong {r : Nat} {v : Int32} {β : Type} {kf : IX → β} {R0 : β} (B : zu_B p s m args c cc nL own D cA ad A) (hP : va_P D zu_cl (zu_pic cA ad X Y) H) (hS : va_S A s.heap H locs) (hf : zu_nx (zu_st X r 18 v) kf = R0) (hr : zu_kd r = 7) (h01 : zu_01 v = true) (hl : Cond.fieldLink own index "StonePostModel" "isWrong" "Z" ∈ zu_TB) (hdg : decode cc pc = .ok (.putfield index, 3)) (kk : ∀ (X1 : IX) (H1 : Heap) (locs1 : List Loc), kf X1 = R0 → va_P D zu_cl (zu_pic cA ad X1 Y) H1 → va_S A s.heap H1 locs1 → W p l e R s m args below meth c H1 locs1 cells slots Q (F0 m (pc + 3) ls rest)) : W p l e R s m args below meth c H locs cells slots Q (F0 m pc ls (.int v :: .ref (ad r) :: rest)) :=
  zr_put (C := zc_Mod) (T := zt_Mod) (N := 23) (k := 18) B hP hS hf zi_Mod zy_Mod zy_Mod_ok zn_Mod hr (by decide) (by decide) rfl rfl (by decide) (by simp) rfl rfl (ty := .boolean) (by decide +kernel) (zu_01_n h01) (zu_01_f h01) hl hdg kk
theorem zg_Mod_bitsOf {r : Nat} (B : zu_B p s m args c cc nL own D cA ad A) (hP : va_P D zu_cl (zu_pic cA ad X Y) H) (hr : zu_kd r = 7) (hl : Cond.fieldLink own index "StonePostModel" "bitsOf" "[I" ∈ zu_TB) (hdg : decode cc pc = .ok (.getfield index, 3)) (kk : W p l e R s m args below meth c H locs cells slots Q (F0 m (pc + 3) ls (.ref (ad 105) :: rest))) : W p l e R s m args below meth c H locs cells slots Q (F0 m pc ls (.ref (ad r) :: rest)) :=
  zr_get (C := zc_Mod) (T := zt_Mod) (N := 23) (k := 19) B hP zi_Mod hr (by decide) (by decide) rfl rfl (by decide) rfl hl hdg kk
theorem zg_Mod_sizeOf {r : Nat} (B : zu_B p s m args c cc nL own D cA ad A) (hP : va_P D zu_cl (zu_pic cA ad X Y) H) (hr : zu_kd r = 7) (hl : Cond.fieldLink own index "StonePostModel" "sizeOf" "[I" ∈ zu_TB) (hdg : decode cc pc = .ok (.getfield index, 3)) (kk : W p l e R s m args below meth c H locs cells slots Q (F0 m (pc + 3) ls (.ref (ad 106) :: rest))) : W p l e R s m args below meth c H locs cells slots Q (F0 m pc ls (.ref (ad r) :: rest)) :=
  zr_get (C := zc_Mod) (T := zt_Mod) (N := 23) (k := 20) B hP zi_Mod hr (by decide) (by decide) rfl rfl (by decide) rfl hl hdg kk
theorem zg_Mod_number {r : Nat} (B : zu_B p s m args c cc nL own D cA ad A) (hP : va_P D zu_cl (zu_pic cA ad X Y) H) (hr : zu_kd r = 7) (hl : Cond.fieldLink own index "StonePostModel" "number" "[I" ∈ zu_TB) (hdg : decode cc pc = .ok (.getfield index, 3)) (kk : W p l e R s m args below meth c H locs cells slots Q (F0 m (pc + 3) ls (.ref (ad 107) :: rest))) : W p l e R s m args below meth c H locs cells slots Q (F0 m pc ls (.ref (ad r) :: rest)) :=
  zr_get (C := zc_Mod) (T := zt_Mod) (N := 23) (k := 21) B hP zi_Mod hr (by decide) (by decide) rfl rfl (by decide) rfl hl hdg kk
theorem zg_Mod_moved {r : Nat} (B : zu_B p s m args c cc nL own D cA ad A) (hP : va_P D zu_cl (zu_pic cA ad X Y) H) (hr : zu_kd r = 7) (hl : Cond.fieldLink own index "StonePostModel" "moved" "[I" ∈ zu_TB) (hdg : decode cc pc = .ok (.getfield index, 3)) (kk : W p l e R s m args below meth c H locs cells slots Q (F0 m (pc + 3) ls (.ref (ad 108) :: rest))) : W p l e R s m args below meth c H locs cells slots Q (F0 m pc ls (.ref (ad r) :: rest)) :=
  zr_get (C := zc_Mod) (T := zt_Mod) (N := 23) (k := 22) B hP zi_Mod hr (by decide) (by decide) rfl rfl (by decide) rfl hl hdg kk
end ZR
