/-! lands on trial -/
theorem zu_uu (f : Nat → Int32) (k : Nat) (x y : Int32) : upd (upd f k x) k y = upd f k y := by
  funext j
  by_cases q : j = k
  · subst q; rw [pk_us, pk_us]
  · rw [pk_un q, pk_un q, pk_un q]
theorem zu_us (f : Nat → Int32) {k : Nat} {x : Int32} (h : f k = x) : upd f k x = f := by
  funext j
  by_cases q : j = k
  · subst q; rw [pk_us, h]
  · rw [pk_un q]
theorem zI_inj2 (k i : Nat) (hk : k < 142) (hi : i < 142) (h1 : zI_pr 2 i = zI_pr 2 k) (h2 : zI_ps i = zI_ps k) : i = k := by
  have key : ∀ a : Fin 142, ∀ b : Fin 142, zI_pr 2 b.val = zI_pr 2 a.val → zI_ps b.val = zI_ps a.val → b.val = a.val := by decide +kernel
  exact key ⟨k, hk⟩ ⟨i, hi⟩ h1 h2
theorem zI_LI_put2 {X : IX} {S : Nat → Int32} (h : zI_LI X 2 S) {k : Nat} (hk : k < 142) (v : Int32) : zI_LI (zu_st X (zI_pr 2 k) (zI_ps k) v) 2 (upd S k v) := by
  intro i hi
  rw [zs_st]
  by_cases e : i = k
  · subst e
    rw [if_pos ⟨rfl, rfl⟩, pk_us]
  · rw [if_neg (fun q => e (zI_inj2 k i hk hi q.1 q.2)), h i hi, pk_un e]
def zT (X X' : IX) : Prop := ∀ a, zR 2 a = false → (a < 1 ∨ 5 < a) → X' a = X a
theorem zT.rf (X : IX) : zT X X := fun _ _ _ => rfl
theorem zT.tr {X Y Z : IX} (h : zT X Y) (h2 : zT Y Z) : zT X Z := fun a q w => (h2 a q w).trans (h a q w)
theorem zT.lay {X Y : IX} (h : ∀ a, (a < 1 ∨ 5 < a) → Y a = X a) : zT X Y := fun a _ w => h a w
theorem zT.st {X Y : IX} {r j : Nat} {v : Int32} (h : zT X Y) (hr : zR 2 r = true) : zT X (zu_st Y r j v) := by
  intro a q w
  rw [zs_other _ _ _ (fun e => by rw [e, hr] at q; cases q)]
  exact h a q w
theorem zT.keep {X X' : IX} (h : zT X X') : zI_keep X X' := by
  intro r j q
  have w : zR 2 r = false ∧ (r < 1 ∨ 5 < r) := by
    unfold zI_imp at q
    simp only [Bool.or_eq_true, Bool.and_eq_true, beq_iff_eq, decide_eq_true_eq] at q
    exact ⟨zR_of (by omega) (by omega) (by omega) (by omega) (by omega), by omega⟩
  rw [h r w.1 w.2]
theorem zR2_pr (k : Nat) (hk : k < 142) : zR 2 (zI_pr 2 k) = true := by
  have key : ∀ k : Fin 142, zR 2 (zI_pr 2 k.val) = true := by decide +kernel
  exact key ⟨k, hk⟩
theorem zR2_pr0 (k : Nat) (hk : k < 142) : zR 2 (zI_pr 0 k) = false ∧ 5 < zI_pr 0 k := by
  have key : ∀ k : Fin 142, zR 2 (zI_pr 0 k.val) = false ∧ 5 < zI_pr 0 k.val := by decide +kernel
  exact key ⟨k, hk⟩
theorem zT.L0 {X X' : IX} {S : Nat → Int32} (h : zT X X') (hL : zI_LI X 0 S) : zI_LI X' 0 S := fun k hk => by
  have q := zR2_pr0 k hk
  rw [h _ q.1 (Or.inr q.2)]
  exact hL k hk
theorem zT.r96 {X X' : IX} (h : zT X X') : X' 96 = X 96 := h 96 (by decide) (by omega)
theorem zT_become {X : IX} (hI : zI_INV X) : ∃ X', fn_Land_become 22 20 X = some X' ∧ zI_LI X' 2 (X 96) ∧ zT X X' := by
  obtain ⟨X', e, p1, p2⟩ := ze_become (o0 := 2) (o1 := 0) X (by omega) (by omega) (by omega)
  exact ⟨X', e, fun k hk => by rw [p1 k hk]; exact hI.1.1 k hk, fun a q _ => p2 a q⟩
/-! the reference's land, changed and changed back -/
def zU (X X' : IX) : Prop := ∀ a b, a ≠ 96 → a ≠ 98 → (a ≠ 95 ∨ b < 5 ∨ 8 < b) → X' a b = X a b
theorem zU.rf (X : IX) : zU X X := fun _ _ _ _ _ => rfl
theorem zU.tr {X Y Z : IX} (h : zU X Y) (h2 : zU Y Z) : zU X Z := fun a b q q2 w => (h2 a b q q2 w).trans (h a b q q2 w)
theorem zV.U {X Y : IX} (h : zV X Y) : zU X Y := fun a b _ _ w => h a b w
theorem zU.st {X Y : IX} {j : Nat} {v : Int32} (h : zU X Y) : zU X (zu_st Y 96 j v) := by
  intro a b q q2 w
  rw [zs_other _ _ _ q]
  exact h a b q q2 w
theorem zU.keep {X X' : IX} (h : zU X X') (e : X' 96 = X 96) : zI_keep X X' := by
  intro r j q
  by_cases e1 : r = 96
  · rw [e1, e]
  · by_cases e2 : r = 98
    · subst e2; cases q
    · refine h r j e1 e2 ?_
      by_cases e3 : r = 95
      · subst e3
        unfold zI_imp at q
        simp at q
        omega
      · exact Or.inl e3
/-! the most, the first of them -/
def zMx (p : Nat → Bool) (F : Nat → Nat) : Nat → Nat → Option Nat → Option Nat
  | 0, _, b => b
  | d + 1, v, b => zMx p F d (v + 1) (if p v = true then (match b with
    | none => some v
    | some w => if F v ≤ F w then some w else some v) else b)
def zQ0 (b : Option Nat) : Int32 := match b with
  | none => 0
  | some w => nI w
def zQm (F : Nat → Nat) (b : Option Nat) : Int64 := match b with
  | none => -1
  | some w => lN (F w)
def zQz (F : Nat → Nat) (b : Option Nat) : Int64 := match b with
  | none => 0
  | some w => lN (F w)
theorem zMx_some (p : Nat → Bool) (F : Nat → Nat) : ∀ (d v : Nat) (b : Option Nat), (b ≠ none ∨ ∃ w, v ≤ w ∧ w < v + d ∧ p w = true) → ∃ w, zMx p F d v b = some w := by
  intro d
  induction d with
  | zero =>
    intro v b h
    rcases h with h | ⟨w, h1, h2, _⟩
    · cases b with
      | none => exact absurd rfl h
      | some w => exact ⟨w, rfl⟩
    · omega
  | succ d ih =>
    intro v b h
    show ∃ w, zMx p F d (v + 1) _ = some w
    refine ih (v + 1) _ ?_
    by_cases q : p v = true
    · left
      rw [if_pos q]
      cases b with
      | none => intro e; cases e
      | some w =>
        show (if F v ≤ F w then some w else some v) ≠ none
        split <;> (intro e; cases e)
    · rw [if_neg q]
      rcases h with h | ⟨w, h1, h2, h3⟩
      · exact Or.inl h
      · right
        refine ⟨w, ?_, by omega, h3⟩
        by_cases e : w = v
        · subst e; exact absurd h3 q
        · omega
theorem zQ_gt (F : Nat → Nat) (v : Nat) (hv : F v < 2 ^ 63) (b : Option Nat) (hb : ∀ w, b = some w → F w < 2 ^ 63) : (lg_cmp (lN (F v)) (zQm F b) ≤ 0) ↔ (∃ w, b = some w ∧ F v ≤ F w) := by
  rw [zm_cmp_le]
  cases b with
  | none =>
    refine ⟨fun q => ?_, fun q => by obtain ⟨w, e, _⟩ := q; cases e⟩
    rw [Int64.le_iff_toInt_le, pk_lT hv] at q
    have e1 : (zQm F none).toInt = -1 := rfl
    omega
  | some w =>
    have q : (lN (F v) ≤ zQm F (some w)) ↔ F v ≤ F w := pk_lLE hv (hb w rfl)
    rw [q]
    exact ⟨fun q => ⟨w, rfl, q⟩, fun q => by obtain ⟨u, e, q⟩ := q; cases e; exact q⟩
theorem ze_try (a b : Int32) : fn_Mod_isTry a b = some (zt (zw 0 a 23 && zw 1 b 10)) := by
  unfold fn_Mod_isTry fn_Mod_isTry_L23 fn_Mod_isTry_L24
  rw [ze_mCell, zp_b1, ze_inN b 1 10 1 10 rfl rfl, zp_b1]
  cases zw 0 a 23 <;> cases zw 1 b 10 <;> rfl
/-! how far to fetch -/
def zFf (S : Nat → Int32) (N c v : Nat) : Nat := zPh (upd S 4 (nI v)) (zS_cs (upd S 4 (nI v))) N c
theorem zFf_WF {S : Nat → Int32} (h : zI_WF S) {v : Nat} (hv : v ≤ 9) : zI_WF (upd S 4 (nI v)) := zW_upd h (by omega) (by omega) (show zk_ok _ _ _ 4 (nI v) from zI_le.of hv) (zd_no h (by omega) (fun u _ => by omega))
theorem zl_ff_P {S : Nat → Int32} (h : zI_WF S) {N c : Nat} (hN : N ≤ 15) (hc : c < 24) : ∀ (d v n : Nat) (b : Option Nat) (x : Int32) (X : IX) (Y : LX), v + d = 10 → d < n → zI_LI X 2 (upd S 4 x) → (∀ w, b = some w → w < 10) → ∃ X' Y', fn_Post_fetchFor_L45 n (nI c) (nI N) (zQ0 b) (zQm (zFf S N c) b) (nI v) X Y = some (zQ0 (zMx (fun _ => true) (zFf S N c) d v b), X', Y') ∧ zT X X' := by
  have lt : ∀ w, w < 10 → zFf S N c w < 2 ^ 63 := fun w hw => zPh_lt (zFf_WF h (by omega)) _ hN hc
  intro d
  induction d with
  | zero =>
    intro v n b x X Y hv hd hL hb
    obtain ⟨m, rfl⟩ : ∃ m, n = m + 1 := ⟨n - 1, by omega⟩
    obtain rfl : v = 10 := by omega
    exact ⟨X, Y, rfl, zT.rf X⟩
  | succ d ih =>
    intro v n b x X Y hv hd hL hb
    obtain ⟨m, rfl⟩ : ∃ m, n = m + 1 := ⟨n - 1, by omega⟩
    have L2 := zI_LI_put2 hL (k := 4) (by omega) (nI v)
    rw [zu_uu] at L2
    have L2' : zI_LI (zu_st X 22 7 (nI v)) 2 (upd S 4 (nI v)) := L2
    obtain ⟨Xa, Ya, e1, l3⟩ := zC_home (r := 22) rfl L2' (zFf_WF h (show v ≤ 9 by omega)) hN hc Y
    have La : zI_LI Xa 2 (upd S 4 (nI v)) := zI_LI.cg (fun a ha => l3 a (by omega)) L2'
    have Ta : zT X Xa := ((zT.rf X).st (r := 22) (j := 7) (v := nI v) (by decide)).tr (zT.lay l3)
    have cq := zQ_gt (zFf S N c) v (lt v (by omega)) b (fun w e => lt w (hb w e))
    show ∃ (X' : IX) (Y' : LX), fn_Post_fetchFor_B45 (fn_Post_fetchFor_L45 m) _ _ _ _ _ _ _ = some (zQ0 (zMx _ _ d (v + 1) (if true = true then _ else _)), X', Y') ∧ _
    unfold fn_Post_fetchFor_B45 fn_Post_fetchFor_L88
    have e1' : fn_Post_homeParts 22 (nI c) (nI N) (zu_st X 22 7 (nI v)) Y = some (lN (zFf S N c v), Xa, Ya) := e1
    rw [if_neg (show ¬ (9 : Int32) < nI v from nI_nlt (a := 9) (b := v) (by omega) (by omega)), zp_nx, e1', zp_b3, if_pos rfl]
    simp only [zp_nx, nI_1, cq]
    cases b with
    | none =>
      rw [if_neg (fun q => by obtain ⟨w, e, _⟩ := q; cases e)]
      obtain ⟨X', Y', q1, q2⟩ := ih (v + 1) m (some v) (nI v) Xa Ya (by omega) (by omega) La (fun w e => by cases e; omega)
      exact ⟨X', Y', q1, Ta.tr q2⟩
    | some w =>
      by_cases q : zFf S N c v ≤ zFf S N c w
      · rw [if_pos ⟨w, rfl, q⟩]
        simp only [if_pos q]
        obtain ⟨X', Y', q1, q2⟩ := ih (v + 1) m (some w) (nI v) Xa Ya (by omega) (by omega) La hb
        exact ⟨X', Y', q1, Ta.tr q2⟩
      · rw [if_neg (fun z => by obtain ⟨u, e, z⟩ := z; cases e; exact q z)]
        simp only [if_neg q]
        obtain ⟨X', Y', q1, q2⟩ := ih (v + 1) m (some v) (nI v) Xa Ya (by omega) (by omega) La (fun w e => by cases e; omega)
        exact ⟨X', Y', q1, Ta.tr q2⟩
theorem zl_ff_M {S : Nat → Int32} (h : zI_WF S) {N c : Nat} (hN : N ≤ 15) (hc : c < 24) : ∀ (d v n : Nat) (b : Option Nat) (x : Int32) (X : IX) (Y : LX), v + d = 10 → d < n → X 96 = upd S 4 x → (∀ w, b = some w → w < 10) → ∃ X' Y', fn_Mod_fetchFor_L31 n (nI c) (nI N) (S 4) (zO b) (zQz (zFf S N c) b) (nI v) X Y = some (zO (zMx (fun _ => true) (zFf S N c) d v b), X', Y') ∧ X' 96 = S ∧ zU X X' := by
  have lt : ∀ w, w < 10 → zFf S N c w < 2 ^ 63 := fun w hw => zPh_lt (zFf_WF h (by omega)) _ hN hc
  intro d
  induction d with
  | zero =>
    intro v n b x X Y hv hd hL hb
    obtain ⟨m, rfl⟩ : ∃ m, n = m + 1 := ⟨n - 1, by omega⟩
    obtain rfl : v = 10 := by omega
    exact ⟨zu_st X 96 4 (S 4), Y, rfl, by rw [zs_row, hL, zu_uu, zu_us S rfl], (zU.rf X).st⟩
  | succ d ih =>
    intro v n b x X Y hv hd hL hb
    obtain ⟨m, rfl⟩ : ∃ m, n = m + 1 := ⟨n - 1, by omega⟩
    have e96 : zu_st X 96 4 (nI v) 96 = upd S 4 (nI v) := by rw [zs_row, hL, zu_uu]
    obtain ⟨Xa, Ya, e1, v1⟩ := zm_home e96 (zFf_WF h (show v ≤ 9 by omega)) hN hc Y
    have a96 : Xa 96 = upd S 4 (nI v) := by rw [v1.row (by decide)]; exact e96
    have Ta : zU X Xa := ((zU.rf X).st (j := 4) (v := nI v)).tr v1.U
    show ∃ (X' : IX) (Y' : LX), fn_Mod_fetchFor_B31 (fn_Mod_fetchFor_L31 m) _ _ _ _ _ _ _ _ = some (zO (zMx _ _ d (v + 1) (if true = true then _ else _)), X', Y') ∧ _
    unfold fn_Mod_fetchFor_B31 fn_Mod_fetchFor_L67 fn_Mod_fetchFor_L75
    have e1' : fn_Mod_homeParts (nI c) (nI N) (zu_st X 96 4 (nI v)) Y = some (lN (zFf S N c v), Xa, Ya) := e1
    rw [if_neg (show ¬ (10 : Int32) ≤ nI v from nI_ge (a := v) (b := 10) (by omega) (by omega)), zp_nx, e1', zp_b3, if_pos rfl]
    simp only [zp_nx, nI_1]
    cases b with
    | none =>
      rw [if_pos (show zO none < (0 : Int32) by decide)]
      obtain ⟨X', Y', q1, q2, q3⟩ := ih (v + 1) m (some v) (nI v) Xa Ya (by omega) (by omega) a96 (fun w e => by cases e; omega)
      exact ⟨X', Y', q1, q2, Ta.tr q3⟩
    | some w =>
      have hw := hb w rfl
      have cz : (lg_cmp (lN (zFf S N c v)) (zQz (zFf S N c) (some w)) ≤ 0) ↔ zFf S N c v ≤ zFf S N c w := (zm_cmp_le _ _).trans (pk_lLE (lt v (by omega)) (lt w hw))
      rw [if_neg (show ¬ zO (some w) < (0 : Int32) from nI_pos (by omega))]
      simp only [cz]
      by_cases q : zFf S N c v ≤ zFf S N c w
      · simp only [if_pos q]
        obtain ⟨X', Y', q1, q2, q3⟩ := ih (v + 1) m (some w) (nI v) Xa Ya (by omega) (by omega) a96 hb
        exact ⟨X', Y', q1, q2, Ta.tr q3⟩
      · simp only [if_neg q]
        obtain ⟨X', Y', q1, q2, q3⟩ := ih (v + 1) m (some v) (nI v) Xa Ya (by omega) (by omega) a96 (fun w e => by cases e; omega)
        exact ⟨X', Y', q1, q2, Ta.tr q3⟩
theorem st_fetchFor {X : IX} {Y : LX} (hI : zI_INV X) (a1 : Int32) (a2 : Int32) : ∃ (v : Int32) (X1 : IX) (Y1 : LX) (X2 : IX) (Y2 : LX), fn_Post_fetchFor a1 a2 X Y = some (v, X1, Y1) ∧ fn_Mod_fetchFor a1 a2 X1 Y1 = some (v, X2, Y2) ∧ zI_INV X2 := by
  have n10 : ((1 : Int32) = 0) = False := by decide
  obtain ⟨X1, X2, e1, e2, e3, e4⟩ := zI_both2 hI (f := -1000001) 0 (by decide) (by decide)
  rcases (Bool.eq_false_or_eq_true (zw 0 a1 23 && zw 1 a2 10)).symm with hg | hg
  · refine ⟨-1000001, X1, Y, X2, Y, ?_, ?_, e3⟩
    · cases h1 : zw 0 a1 23 <;> cases h2 : zw 1 a2 10 <;> first
        | exact absurd hg (by rw [h1, h2]; decide)
        | simp only [fn_Post_fetchFor, fn_Post_fetchFor_L17, ze_isCell, ze_isWithin, h1, h2, zp_b1, zp_b2, zp_nx, zt_f, zt_t, e1, n10, Bool.and_true, Bool.and_false, Bool.true_and, Bool.false_and, ↓reduceIte]
    · cases h1 : zw 0 a1 23 <;> cases h2 : zw 1 a2 10 <;> first
        | exact absurd hg (by rw [h1, h2]; decide)
        | simp only [fn_Mod_fetchFor, ze_try, h1, h2, zp_b1, zp_b2, zp_nx, zt_f, zt_t, e2, n10, Bool.and_true, Bool.and_false, Bool.true_and, Bool.false_and, ↓reduceIte]
  simp only [Bool.and_eq_true] at hg
  obtain ⟨h1, h2⟩ := hg
  obtain ⟨c, hc, rfl⟩ := zw_n (m := 23) (by decide) h1
  obtain ⟨N, hN1, hN, rfl⟩ := zw_1n (m := 10) (by decide) h2
  have hW := hI.1.2
  obtain ⟨Xt, be, Lt, Tt⟩ := zT_become hI
  obtain ⟨Xa, Ya, p1, p2⟩ := zl_ff_P hW (N := N) (c := c) (by omega) (by omega) 10 0 400 none (X 96 4) Xt Y (by omega) (by omega) (by rw [zu_us (X 96) rfl]; exact Lt) (fun w e => by cases e)
  have Ta := Tt.tr p2
  obtain ⟨Xb, Yb, m1, m2, m3⟩ := zl_ff_M hW (N := N) (c := c) (by omega) (by omega) 10 0 400 none (X 96 4) Xa Ya (by omega) (by omega) (by rw [zu_us (X 96) rfl]; exact Ta.r96) (fun w e => by cases e)
  obtain ⟨w, hw⟩ := zMx_some (fun _ => true) (zFf (X 96) N c) 10 0 none (Or.inr ⟨0, by omega, by omega, rfl⟩)
  rw [hw] at p1 m1
  refine ⟨nI w, Xa, Ya, Xb, Yb, ?_, ?_, (hI.keep Ta.keep).keep (m3.keep (by rw [m2, Ta.r96]))⟩
  · simp only [fn_Post_fetchFor, ze_isCell, ze_isWithin, h1, h2, zp_b1, zt_t, n10, ↓reduceIte, be]
    exact p1
  · have a4 : Xa 96 4 = X 96 4 := by rw [Ta.r96]
    simp only [fn_Mod_fetchFor, ze_try, h1, h2, Bool.and_true, zp_b1, zt_t, n10, ↓reduceIte, zp_nx, a4]
    exact m1
/-! who is missed -/
def zMn (p : Nat → Bool) (F : Nat → Nat) : Nat → Nat → Option Nat → Option Nat
  | 0, _, b => b
  | d + 1, v, b => zMn p F d (v + 1) (if p v = true then (match b with
    | none => some v
    | some w => if F w ≤ F v then some w else some v) else b)
def zFm (S : Nat → Int32) (N c t : Nat) : Nat := zPh (upd S (30 + 9 * t + 7) 1) (zS_cs (upd S (30 + 9 * t + 7) 1)) N c
theorem zFm_WF {S : Nat → Int32} (h : zI_WF S) {t : Nat} (ht : t < 10) : zI_WF (upd S (30 + 9 * t + 7) 1) := zW_upd h (by omega) (by omega) ((zk_fact ht (by omega)).mpr (fun _ => show zI_le 1 1 from ⟨1, by omega, rfl⟩)) (zd_no h (by omega) (fun u _ => by omega))
def zFp (S : Nat → Int32) (t : Nat) : Bool := decide (zF S t 7 = 0)
theorem zl_ms_P {S : Nat → Int32} (h : zI_WF S) {N c : Nat} (hN : N ≤ 15) (hc : c < 24) : ∀ (d t n : Nat) (b : Option Nat) (X : IX) (Y : LX), t + d = zN S 1 → d < n → zI_LI X 2 S → (∀ w, b = some w → w < 10) → ∃ X' Y', fn_Post_missed_L43 n (nI c) (nI N) (zO b) (zQz (zFm S N c) b) (nI t) X Y = (match zMn (zFp S) (zFm S N c) d t b with
    | none => zu_b2 (fn_Post_finding (-1000004 : Int32) X') fun v X'' => some (v, X'', Y')
    | some w => some (nI w, X', Y')) ∧ zT X X' := by
  have n1 := zW_1 h
  have lt : ∀ w, w < 10 → zFm S N c w < 2 ^ 63 := fun w hw => zPh_lt (zFm_WF h hw) _ hN hc
  intro d
  induction d with
  | zero =>
    intro t n b X Y ht hd hL hb
    obtain ⟨m, rfl⟩ : ∃ m, n = m + 1 := ⟨n - 1, by omega⟩
    have t1 : X 22 4 = nI (zN S 1) := by rw [(zL_h (o := 2) rfl hL).2.1]; exact n1.1
    refine ⟨X, Y, ?_, zT.rf X⟩
    show fn_Post_missed_B43 _ _ _ _ _ _ _ _ = _
    unfold fn_Post_missed_B43 fn_Post_missed_L158
    rw [t1, if_pos ((nI_leI (by omega) (by omega)).mpr (by omega))]
    cases b with
    | none => rfl
    | some w =>
      have hw := hb w rfl
      rw [if_neg (show ¬ zO (some w) = (-1 : Int32) from zO_m1 (by omega))]
      rfl
  | succ d ih =>
    intro t n b X Y ht hd hL hb
    obtain ⟨m, rfl⟩ : ∃ m, n = m + 1 := ⟨n - 1, by omega⟩
    have ht1 : t < zN S 1 := by omega
    have ht10 : t < 10 := by omega
    have fa := zF_all h ht1
    have t1 : X 22 4 = nI (zN S 1) := by rw [(zL_h (o := 2) rfl hL).2.1]; exact n1.1
    show ∃ (X' : IX) (Y' : LX), fn_Post_missed_B43 (fn_Post_missed_L43 m) _ _ _ _ _ _ _ = (match zMn _ _ d (t + 1) (if zFp S t = true then _ else _) with
      | none => _
      | some w => _) ∧ _
    unfold fn_Post_missed_B43 fn_Post_missed_L130 fn_Post_missed_L137
    rw [t1, if_neg (nI_ge (a := t) (by omega) (by omega)), zn_ib ht10 (by decide), zp_gd, zn_cl (by omega), ze_ill (o := 2) rfl hL h ht1, zp_b1]
    by_cases il : zF S t 7 = 1
    · rw [decide_eq_true il, zt_t, if_neg (by decide), show zFp S t = false from decide_eq_false (by omega), if_neg (by decide), zp_nx, nI_1]
      exact ih (t + 1) m b X Y (by omega) (by omega) hL hb
    · rw [decide_eq_false il, zt_f, if_pos rfl, show zFp S t = true from decide_eq_true (by omega), if_pos rfl]
      have hp := zL_p30 2 t 7 ht10 (by omega)
      have L2 := zI_LI_put2 hL (k := 30 + 9 * t + 7) (by omega) 1
      rw [hp.1, hp.2] at L2
      have L2' : zI_LI (zu_st X (zu_th (22 + 6) t + 30) 7 1) 2 (upd S (30 + 9 * t + 7) 1) := L2
      obtain ⟨Xa, Ya, e1, l3⟩ := zC_home (r := 22) rfl L2' (zFm_WF h ht10) hN hc Y
      have La : zI_LI Xa 2 (upd S (30 + 9 * t + 7) 1) := zI_LI.cg (fun a ha => l3 a (by omega)) L2'
      have L3 := zI_LI_put2 La (k := 30 + 9 * t + 7) (by omega) 0
      rw [hp.1, hp.2, zu_uu, zu_us S (by rw [fa.2.1 7 (by omega), show zF S t 7 = 0 by omega]; rfl)] at L3
      have L3' : zI_LI (zu_st Xa (zu_th (22 + 6) t + 30) 7 0) 2 S := L3
      have rr : zR 2 (zu_th (22 + 6) t + 30) = true := by
        have := zR2_pr (30 + 9 * t + 7) (by omega)
        rw [hp.1] at this
        exact this
      have Ta : zT X (zu_st Xa (zu_th (22 + 6) t + 30) 7 0) := (((zT.rf X).st (j := 7) (v := 1) rr).tr (zT.lay l3)).st rr
      have e1' : fn_Post_homeParts 22 (nI c) (nI N) (zu_st X (zu_th (22 + 6) t + 30) 7 1) Y = some (lN (zFm S N c t), Xa, Ya) := e1
      rw [zp_gd, zp_nx, e1', zp_b3, zp_gd, zp_nx]
      simp only [zp_nx, nI_1]
      cases b with
      | none =>
        rw [if_pos (show zO none = (-1 : Int32) from rfl)]
        obtain ⟨X', Y', q1, q2⟩ := ih (t + 1) m (some t) _ Ya (by omega) (by omega) L3' (fun w e => by cases e; omega)
        exact ⟨X', Y', q1, Ta.tr q2⟩
      | some w =>
        have hw := hb w rfl
        have cz : (0 ≤ lg_cmp (lN (zFm S N c t)) (zQz (zFm S N c) (some w))) ↔ zFm S N c w ≤ zFm S N c t := (zm_cmp_ge _ _).trans (pk_lLE (lt w hw) (lt t ht10))
        rw [if_neg (show ¬ zO (some w) = (-1 : Int32) from zO_m1 (by omega))]
        simp only [cz]
        by_cases q : zFm S N c w ≤ zFm S N c t
        · simp only [if_pos q]
          obtain ⟨X', Y', q1, q2⟩ := ih (t + 1) m (some w) _ Ya (by omega) (by omega) L3' hb
          exact ⟨X', Y', q1, Ta.tr q2⟩
        · simp only [if_neg q]
          obtain ⟨X', Y', q1, q2⟩ := ih (t + 1) m (some t) _ Ya (by omega) (by omega) L3' (fun w e => by cases e; omega)
          exact ⟨X', Y', q1, Ta.tr q2⟩
theorem zl_ms_M {S : Nat → Int32} (h : zI_WF S) {N c : Nat} (hN : N ≤ 15) (hc : c < 24) : ∀ (d t n : Nat) (b : Option Nat) (X : IX) (Y : LX), t + d = zN S 1 → d < n → X 96 = S → (∀ w, b = some w → w < 10) → ∃ X' Y', fn_Mod_missed_L23 n (nI c) (nI N) (zO b) (zQz (zFm S N c) b) (nI t) X Y = (match zMn (zFp S) (zFm S N c) d t b with
    | none => zu_b2 (fn_Mod_finds (-1000004 : Int32) X') fun v X'' => some (v, X'', Y')
    | some w => some (nI w, X', Y')) ∧ X' 96 = S ∧ zU X X' := by
  have n1 := zW_1 h
  have lt : ∀ w, w < 10 → zFm S N c w < 2 ^ 63 := fun w hw => zPh_lt (zFm_WF h hw) _ hN hc
  intro d
  induction d with
  | zero =>
    intro t n b X Y ht hd hL hb
    obtain ⟨m, rfl⟩ : ∃ m, n = m + 1 := ⟨n - 1, by omega⟩
    have t1 : X 96 1 = nI (zN S 1) := by rw [hL]; exact n1.1
    refine ⟨X, Y, ?_, hL, zU.rf X⟩
    show fn_Mod_missed_B23 _ _ _ _ _ _ _ _ = _
    unfold fn_Mod_missed_B23 fn_Mod_missed_L118
    rw [t1, if_pos ((nI_leI (by omega) (by omega)).mpr (by omega))]
    cases b with
    | none => rfl
    | some w =>
      have hw := hb w rfl
      rw [if_pos (show (0 : Int32) ≤ zO (some w) from zn_0le (by omega))]
      rfl
  | succ d ih =>
    intro t n b X Y ht hd hL hb
    obtain ⟨m, rfl⟩ : ∃ m, n = m + 1 := ⟨n - 1, by omega⟩
    have ht1 : t < zN S 1 := by omega
    have ht10 : t < 10 := by omega
    have fa := zF_all h ht1
    have t1 : X 96 1 = nI (zN S 1) := by rw [hL]; exact n1.1
    have f7 : fn_Mod_its X (nI t) (7 : Int32) = _ := zf_M hL h ht1 (f := 7) (by omega)
    have ea : fn_Mod_at (nI t) (7 : Int32) = nI (30 + 9 * t + 7) := ze_at t 7
    show ∃ (X' : IX) (Y' : LX), fn_Mod_missed_B23 (fn_Mod_missed_L23 m) _ _ _ _ _ _ _ = (match zMn _ _ d (t + 1) (if zFp S t = true then _ else _) with
      | none => _
      | some w => _) ∧ _
    unfold fn_Mod_missed_B23 fn_Mod_missed_L91 fn_Mod_missed_L98
    rw [t1, if_neg (nI_ge (a := t) (by omega) (by omega)), f7, zp_b1]
    have c7 : nI (zF S t 7) = (0 : Int32) ↔ zF S t 7 = 0 := nI_eq (b := 0) (by omega) (by omega)
    by_cases il : zF S t 7 = 0
    · rw [if_pos (c7.mpr il), show zFp S t = true from decide_eq_true il, if_pos rfl]
      have e96 : zu_st X 96 (30 + 9 * t + 7) 1 96 = upd S (30 + 9 * t + 7) 1 := by rw [zs_row, hL]
      obtain ⟨Xa, Ya, e1, v1⟩ := zm_home e96 (zFm_WF h ht10) hN hc Y
      have a96 : zu_st Xa 96 (30 + 9 * t + 7) 0 96 = S := by
        rw [zs_row, v1.row (by decide), e96, zu_uu, zu_us S (by rw [fa.2.1 7 (by omega), il]; rfl)]
      have Ta : zU X (zu_st Xa 96 (30 + 9 * t + 7) 0) := (((zU.rf X).st (j := 30 + 9 * t + 7) (v := 1)).tr v1.U).st
      have e1' : fn_Mod_homeParts (nI c) (nI N) (zu_st X 96 (30 + 9 * t + 7) 1) Y = some (lN (zFm S N c t), Xa, Ya) := e1
      simp only [zp_nx, ea, zn_ib (show 30 + 9 * t + 7 < 142 by omega) (show 142 < 2 ^ 31 by decide), zp_gd, zn_cl (show 30 + 9 * t + 7 < 2 ^ 31 by omega), e1', zp_b3, nI_1]
      cases b with
      | none =>
        rw [if_pos (show zO none < (0 : Int32) by decide)]
        obtain ⟨X', Y', q1, q2, q3⟩ := ih (t + 1) m (some t) _ Ya (by omega) (by omega) a96 (fun w e => by cases e; omega)
        exact ⟨X', Y', q1, q2, Ta.tr q3⟩
      | some w =>
        have hw := hb w rfl
        have cz : (0 ≤ lg_cmp (lN (zFm S N c t)) (zQz (zFm S N c) (some w))) ↔ zFm S N c w ≤ zFm S N c t := (zm_cmp_ge _ _).trans (pk_lLE (lt w hw) (lt t ht10))
        rw [if_neg (show ¬ zO (some w) < (0 : Int32) from nI_pos (by omega))]
        simp only [cz]
        by_cases q : zFm S N c w ≤ zFm S N c t
        · simp only [if_pos q]
          obtain ⟨X', Y', q1, q2, q3⟩ := ih (t + 1) m (some w) _ Ya (by omega) (by omega) a96 hb
          exact ⟨X', Y', q1, q2, Ta.tr q3⟩
        · simp only [if_neg q]
          obtain ⟨X', Y', q1, q2, q3⟩ := ih (t + 1) m (some t) _ Ya (by omega) (by omega) a96 (fun w e => by cases e; omega)
          exact ⟨X', Y', q1, q2, Ta.tr q3⟩
    · rw [if_neg (fun z => il (c7.mp z)), show zFp S t = false from decide_eq_false il, if_neg (by decide), zp_nx, nI_1]
      exact ih (t + 1) m b X Y (by omega) (by omega) hL hb
theorem st_missed {X : IX} {Y : LX} (hI : zI_INV X) (a1 : Int32) (a2 : Int32) : ∃ (v : Int32) (X1 : IX) (Y1 : LX) (X2 : IX) (Y2 : LX), fn_Post_missed a1 a2 X Y = some (v, X1, Y1) ∧ fn_Mod_missed a1 a2 X1 Y1 = some (v, X2, Y2) ∧ zI_INV X2 := by
  have n10 : ((1 : Int32) = 0) = False := by decide
  obtain ⟨X1, X2, e1, e2, e3, e4⟩ := zI_both2 hI (f := -1000001) 0 (by decide) (by decide)
  rcases (Bool.eq_false_or_eq_true (zw 0 a1 23 && zw 1 a2 10)).symm with hg | hg
  · refine ⟨-1000001, X1, Y, X2, Y, ?_, ?_, e3⟩
    · cases h1 : zw 0 a1 23 <;> cases h2 : zw 1 a2 10 <;> first
        | exact absurd hg (by rw [h1, h2]; decide)
        | simp only [fn_Post_missed, fn_Post_missed_L17, ze_isCell, ze_isWithin, h1, h2, zp_b1, zp_b2, zp_nx, zt_f, zt_t, e1, n10, Bool.and_true, Bool.and_false, Bool.true_and, Bool.false_and, ↓reduceIte]
    · cases h1 : zw 0 a1 23 <;> cases h2 : zw 1 a2 10 <;> first
        | exact absurd hg (by rw [h1, h2]; decide)
        | simp only [fn_Mod_missed, ze_try, h1, h2, zp_b1, zp_b2, zp_nx, zt_f, zt_t, e2, n10, Bool.and_true, Bool.and_false, Bool.true_and, Bool.false_and, ↓reduceIte]
  simp only [Bool.and_eq_true] at hg
  obtain ⟨h1, h2⟩ := hg
  obtain ⟨c, hc, rfl⟩ := zw_n (m := 23) (by decide) h1
  obtain ⟨N, hN1, hN, rfl⟩ := zw_1n (m := 10) (by decide) h2
  have hW := hI.1.2
  have n1 := zW_1 hW
  obtain ⟨Xt, be, Lt, Tt⟩ := zT_become hI
  obtain ⟨Xa, Ya, p1, p2⟩ := zl_ms_P hW (N := N) (c := c) (by omega) (by omega) (zN (X 96) 1) 0 400 none Xt Y (by omega) (by omega) Lt (fun w e => by cases e)
  have Ta := Tt.tr p2
  have hIa := hI.keep Ta.keep
  have P : fn_Post_missed (nI c) (nI N) X Y = (match zMn (zFp (X 96)) (zFm (X 96) N c) (zN (X 96) 1) 0 none with
    | none => zu_b2 (fn_Post_finding (-1000004 : Int32) Xa) fun v X'' => some (v, X'', Ya)
    | some w => some (nI w, Xa, Ya)) := by
    simp only [fn_Post_missed, ze_isCell, ze_isWithin, h1, h2, zp_b1, zt_t, n10, ↓reduceIte, be]
    exact p1
  have M : ∀ (X' : IX) (Y' : LX), X' 96 = X 96 → ∃ Xb Yb, fn_Mod_missed (nI c) (nI N) X' Y' = (match zMn (zFp (X 96)) (zFm (X 96) N c) (zN (X 96) 1) 0 none with
    | none => zu_b2 (fn_Mod_finds (-1000004 : Int32) Xb) fun v X'' => some (v, X'', Yb)
    | some w => some (nI w, Xb, Yb)) ∧ Xb 96 = X 96 ∧ zU X' Xb := by
    intro X' Y' e
    obtain ⟨Xb, Yb, m1, m2, m3⟩ := zl_ms_M hW (N := N) (c := c) (by omega) (by omega) (zN (X 96) 1) 0 400 none X' Y' (by omega) (by omega) e (fun w e => by cases e)
    refine ⟨Xb, Yb, ?_, m2, m3⟩
    simp only [fn_Mod_missed, ze_try, h1, h2, Bool.and_true, zp_b1, zt_t, n10, ↓reduceIte]
    exact m1
  rw [P]
  cases hm : zMn (zFp (X 96)) (zFm (X 96) N c) (zN (X 96) 1) 0 none with
  | some w =>
    obtain ⟨Xb, Yb, m1, m2, m3⟩ := M Xa Ya Ta.r96
    rw [hm] at m1
    exact ⟨nI w, Xa, Ya, Xb, Yb, rfl, m1, hIa.keep (m3.keep (by rw [m2, Ta.r96]))⟩
  | none =>
    obtain ⟨Xc, f1, f2, f3⟩ := zI_bothV hIa (f := -1000004) 3 (by decide) (by decide)
    obtain ⟨Xb, Yb, m1, m2, m3⟩ := M Xc Ya (by rw [f2 96 (by decide)]; exact Ta.r96)
    rw [hm] at m1
    obtain ⟨Xd, d1, d2⟩ := f3 Xb (m3.keep (by rw [m2, f2 96 (by decide), Ta.r96]))
    refine ⟨-1000004, Xc, Ya, Xd, Yb, ?_, ?_, d2⟩
    · show zu_b2 (fn_Post_finding (-1000004 : Int32) Xa) _ = _
      rw [f1]
      rfl
    · rw [m1]
      show zu_b2 (fn_Mod_finds (-1000004 : Int32) Xb) _ = _
      rw [d1]
      rfl
