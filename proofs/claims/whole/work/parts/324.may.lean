/-! queries: what both sides write by the way -/
theorem zI_keep.st2 {A B : IX} (h : zI_keep A B) (r j : Nat) (v : Int32) : zI_keep (zu_st A r j v) (zu_st B r j v) := by
  intro a b q
  rw [zs_st, zs_st]
  split
  · rfl
  · exact h a b q
theorem zI_keep.lay {X X' : IX} (h : ∀ a, (a < 1 ∨ 5 < a) → X' a = X a) : zI_keep X X' := by
  intro r j q
  by_cases e : r < 1 ∨ 5 < r
  · rw [h r e]
  · unfold zI_imp at q
    simp at q
    omega
theorem zI_bothV {X : IX} (hI : zI_INV X) {f : Int32} (j : Nat) (hj : j < 7) (e : (-1000001 : Int32) - f = nI j) : ∃ X1, fn_Post_finding f X = some (f, X1) ∧ (∀ r, r ≠ 11 → X1 r = X r) ∧ ∀ X1', zI_keep X1 X1' → ∃ X2, fn_Mod_finds f X1' = some (f, X2) ∧ zI_INV X2 := by
  refine ⟨_, ze_find j hj e X, fun _ hr => zs_other X _ _ hr, fun X1' hk => ⟨_, ze_finds j hj e X1', ?_⟩⟩
  refine (zI_find hI j hj).keep ?_
  rw [hk 99 j rfl]
  exact hk.st2 99 j _
theorem ze_odds (a b m : Int32) : fn_Mod_isOdds a b m = some (zt (zw 0 a 23 && zw 0 b m)) := by
  unfold fn_Mod_isOdds fn_Mod_isOdds_L22 fn_Mod_isOdds_L23
  rw [ze_mCell, zp_b1, ze_inN b 0 _ 0 m rfl rfl, zp_b1]
  cases zw 0 a 23 <;> cases zw 0 b m <;> rfl
theorem zm_clock {X : IX} {S : Nat → Int32} (e : X 96 = S) (h : zI_WF S) {hh : Nat} (hb : hh < 100) : fn_Mod_clockIn X (nI hh) = nI ((zN S 0 + hh) % 24) := by
  have w0 := zW_0 h
  unfold fn_Mod_clockIn
  rw [e, w0.1, nI_add]
  have n0 : zN S 0 = zN S 0 := rfl
  exact pk_rem (d := 24) (by omega) (by omega) (by omega)
/-! sets of cells -/
def zS_mk (r : Nat × Nat × Nat) : Int32 := (if r.2.2 = 0 then 0 else (1 : Int32) <<< (nI r.1 &&& 31)) ||| (if 12 ≤ r.2.2 then 0 else (1 : Int32) <<< (nI r.2.1 &&& 31))
theorem zC_cells {X : IX} {ix : Nat} {r : Nat × Nat × Nat} (hi : ix < 96) (h2 : X 2 ix = nI r.1) (h3 : X 3 ix = nI r.2.1) (h4 : X 4 ix = nI r.2.2) (hr : r.2.2 ≤ 12) : fn_Chart_cellsOf X (nI ix) = some (zS_mk r) := by
  unfold fn_Chart_cellsOf fn_Chart_cellsOf_L22 fn_Chart_cellsOf_L44
  simp only [zn_ib hi (show 96 < 2 ^ 31 by decide), zp_gd, zn_cl (show ix < 2 ^ 31 by omega), h2, h3, h4, zp_nx]
  have c1 : (nI r.2.2 ≤ (0 : Int32)) ↔ r.2.2 = 0 := (nI_leI (b := 0) (by omega) (by omega)).trans (by omega)
  have c2 : ((12 : Int32) ≤ nI r.2.2) ↔ 12 ≤ r.2.2 := nI_leI (a := 12) (by omega) (by omega)
  simp only [c1, c2]
  unfold zS_mk
  by_cases q1 : r.2.2 = 0
  · rw [if_pos q1, if_pos q1]
    by_cases q2 : 12 ≤ r.2.2
    · omega
    · rw [if_neg q2, if_neg q2]
  · rw [if_neg q1, if_neg q1]
    by_cases q2 : 12 ≤ r.2.2
    · rw [if_pos q2, if_pos q2, Int32.zero_or, Int32.or_zero]
    · rw [if_neg q2, if_neg q2, Int32.zero_or]
theorem zC_cells2 {X : IX} {S : Nat → Int32} (hC : zC_laid X S) (h : zI_WF S) {c far : Nat} {ng : Bool} (hc : c < 24) (hf : far < 2) : fn_Chart_cellsOf X (nI (zS_ix ng far c)) = some (zS_mk (zS_rw S c ng far)) := by
  have q := (hC.2.2.2 c hc).2 ng far hf
  exact zC_cells (zS_ix_b hf hc).1 q.1 q.2.1 q.2.2 (zS_rw_b h hc).2.2
theorem zm_ways {X : IX} {S : Nat → Int32} (e : X 96 = S) (h : zI_WF S) {c k by_ : Nat} (hc : c < 24) (hk : k < 24) (hb : by_ < 2) {a3 : Int32} (ha : a3 = nI by_ ∨ (a3 = -1 ∧ ∀ t, zS_on S c = some t → zF S t 6 = by_)) : ∃ X', fn_Mod_ways (nI c) (nI k) a3 X = some (zS_mk (zS_rw S c (zg_night k) by_), X') ∧ zV X X' := by
  obtain ⟨X', e1, e2, e3⟩ := zm_goes e h hc hk hb ha
  refine ⟨X', ?_, e3⟩
  have b := (zS_rw_b h (ng := zg_night k) (far := by_) hc).2.2
  unfold fn_Mod_ways fn_Mod_ways_L24 fn_Mod_ways_L43
  rw [e1, zp_b1, e2.1, e2.2.1, e2.2.2.1]
  have c1 : (nI (zS_rw S c (zg_night k) by_).2.2 ≤ (0 : Int32)) ↔ (zS_rw S c (zg_night k) by_).2.2 = 0 := (nI_leI (b := 0) (by omega) (by omega)).trans (by omega)
  have c2 : ((12 : Int32) ≤ nI (zS_rw S c (zg_night k) by_).2.2) ↔ 12 ≤ (zS_rw S c (zg_night k) by_).2.2 := nI_leI (a := 12) (by omega) (by omega)
  simp only [c1, c2]
  unfold zS_mk
  by_cases q1 : (zS_rw S c (zg_night k) by_).2.2 = 0
  · by_cases q2 : 12 ≤ (zS_rw S c (zg_night k) by_).2.2
    · simp only [if_pos q1, if_pos q2]
    · simp only [if_pos q1, if_neg q2]
  · by_cases q2 : 12 ≤ (zS_rw S c (zg_night k) by_).2.2
    · simp only [if_neg q1, if_pos q2]
    · simp only [if_neg q1, if_neg q2]
theorem zS_by_cs {S : Nat → Int32} (h : zI_WF S) {c : Nat} : ∀ t, zS_on S c = some t → zF S t 6 = zS_by S (zS_cs S) c := by
  intro t ho
  have ht := (zS_on_lt ho).1
  have b := zF_all h ht
  unfold zS_by
  rw [ho]
  show _ = if zbt (zS_cs S) t = true then 1 else 0
  rw [zS_cs_b h ht]
  by_cases q : zF S t 6 = 1
  · rw [decide_eq_true q, if_pos rfl, q]
  · rw [decide_eq_false q, if_neg (by decide)]; omega
def zS_W (S : Nat → Int32) (h c : Nat) : Int32 := zS_mk (zS_go S (zS_cs S) h c)
def zS_Wf (S : Nat → Int32) (h c : Nat) : Int32 := zS_mk (zS_rw S c (zg_night (zN S 0 + h)) 0) ||| zS_mk (zS_rw S c (zg_night (zN S 0 + h)) 1)
def zS_af (W : Nat → Int32) (cells : Int32) : Nat → Nat → Int32 → Int32
  | 0, _, a => a
  | d + 1, c, a => zS_af W cells d (c + 1) (if zbt cells c = true then a ||| W c else a)
def zS_step (W : Nat → Int32) (cells : Int32) : Int32 := zS_af W cells 24 0 0
theorem zC_after_L {X : IX} {S : Nat → Int32} (hC : zC_laid X S) (h : zI_WF S) {hh : Nat} (hb : hh < 100) (s : Int32) : ∀ (d c n : Nat) (a : Int32), c + d = 24 → d < n → fn_Chart_after_L5 X n s (nI hh) a (nI c) = some (zS_af (zS_W S hh) s d c a) := by
  intro d
  induction d with
  | zero =>
    intro c n a hc hd
    obtain ⟨m, rfl⟩ : ∃ m, n = m + 1 := ⟨n - 1, by omega⟩
    obtain rfl : c = 24 := by omega
    rfl
  | succ d ih =>
    intro c n a hc hd
    obtain ⟨m, rfl⟩ : ∃ m, n = m + 1 := ⟨n - 1, by omega⟩
    show fn_Chart_after_B5 X (fn_Chart_after_L5 X m) _ _ _ _ = _
    unfold fn_Chart_after_B5 fn_Chart_after_L40
    rw [if_neg (show ¬ (24 : Int32) ≤ nI c from nI_ge (a := c) (b := 24) (by omega) (by omega)), zbt_val s (by omega), zC_chosen hC h (by omega) hb, zp_b1, zC_cells2 hC h (by omega) (zS_by_lt _ _ _), zp_b1]
    simp only [zp_nx, nI_1, ih (c + 1) m _ (by omega) (by omega), zt_1, hC.1]
    show _ = some (zS_af _ _ d (c + 1) _)
    split <;> rfl
theorem zC_after {X : IX} {S : Nat → Int32} (hC : zC_laid X S) (h : zI_WF S) {hh : Nat} (hb : hh < 100) (s : Int32) : fn_Chart_after X s (nI hh) = some (zS_step (zS_W S hh) s) := zC_after_L hC h hb s 24 0 400 0 (by omega) (by omega)
theorem zC_any_L {X : IX} {S : Nat → Int32} (hC : zC_laid X S) (h : zI_WF S) {hh : Nat} (hb : hh < 100) (s : Int32) : ∀ (d c n : Nat) (a : Int32), c + d = 24 → d < n → fn_Chart_afterAny_L5 X n s (nI hh) a (nI c) = some (zS_af (zS_Wf S hh) s d c a) := by
  intro d
  induction d with
  | zero =>
    intro c n a hc hd
    obtain ⟨m, rfl⟩ : ∃ m, n = m + 1 := ⟨n - 1, by omega⟩
    obtain rfl : c = 24 := by omega
    rfl
  | succ d ih =>
    intro c n a hc hd
    obtain ⟨m, rfl⟩ : ∃ m, n = m + 1 := ⟨n - 1, by omega⟩
    have r0 : fn_Chart_row X (nI c) (nI hh) (0 : Int32) = _ := zC_row hC h (c := c) (far := 0) (by omega) hb (by omega)
    have r1 : fn_Chart_row X (nI c) (nI hh) (1 : Int32) = _ := zC_row hC h (c := c) (far := 1) (by omega) hb (by omega)
    show fn_Chart_afterAny_B5 X (fn_Chart_afterAny_L5 X m) _ _ _ _ = _
    unfold fn_Chart_afterAny_B5 fn_Chart_afterAny_L50
    rw [if_neg (show ¬ (24 : Int32) ≤ nI c from nI_ge (a := c) (b := 24) (by omega) (by omega)), zbt_val s (by omega), r0, zp_b1, zC_cells2 hC h (by omega) (by omega), zp_b1, r1, zp_b1, zC_cells2 hC h (by omega) (by omega), zp_b1]
    simp only [zp_nx, nI_1, ih (c + 1) m _ (by omega) (by omega), zt_1]
    show _ = some (zS_af _ _ d (c + 1) _)
    split <;> rfl
theorem zC_any {X : IX} {S : Nat → Int32} (hC : zC_laid X S) (h : zI_WF S) {hh : Nat} (hb : hh < 100) (s : Int32) : fn_Chart_afterAny X s (nI hh) = some (zS_step (zS_Wf S hh) s) := zC_any_L hC h hb s 24 0 400 0 (by omega) (by omega)
def zS_WB (fr : Bool) (S : Nat → Int32) (h c : Nat) : Int32 := if fr = true then zS_Wf S h c else zS_W S h c
theorem zm_step_L {S : Nat → Int32} (h : zI_WF S) {hh : Nat} (fr : Bool) (s but : Int32) {fi : Int32} (hfi : fi = 0 ↔ fr = false) : ∀ (d c n : Nat) (a : Int32) (X : IX), X 96 = S → c + d = 24 → d < n → ∃ X', fn_Mod_stepped_L6 n s (nI ((zN S 0 + hh) % 24)) fi but a (nI c) X = some (zS_af (zS_WB fr S hh) s d c a &&& (but ^^^ (-1 : Int32)), X') ∧ zV X X' := by
  have hk : (zN S 0 + hh) % 24 < 24 := Nat.mod_lt _ (by omega)
  intro d
  induction d with
  | zero =>
    intro c n a X _ hc hd
    obtain ⟨m, rfl⟩ : ∃ m, n = m + 1 := ⟨n - 1, by omega⟩
    obtain rfl : c = 24 := by omega
    exact ⟨X, rfl, zV.rf X⟩
  | succ d ih =>
    intro c n a X e hc hd
    obtain ⟨m, rfl⟩ : ∃ m, n = m + 1 := ⟨n - 1, by omega⟩
    show ∃ X', fn_Mod_stepped_B6 (fn_Mod_stepped_L6 m) _ _ _ _ _ _ _ = some (zS_af _ _ d (c + 1) _ &&& _, X') ∧ _
    unfold fn_Mod_stepped_B6 fn_Mod_stepped_L56 fn_Mod_stepped_L59
    rw [if_neg (show ¬ (24 : Int32) ≤ nI c from nI_ge (a := c) (b := 24) (by omega) (by omega)), zbt_has s (by omega), zp_b1]
    simp only [zp_nx, nI_1]
    cases hs : zbt s c with
    | false =>
      rw [zt_f, if_pos rfl, if_neg (by decide)]
      exact ih (c + 1) m a X e (by omega) (by omega)
    | true =>
      rw [zt_t, if_neg (by decide), if_pos rfl]
      cases fr with
      | false =>
        rw [if_pos (hfi.mpr rfl)]
        obtain ⟨X2, w1, w2⟩ := zm_ways e h (c := c) (k := (zN S 0 + hh) % 24) (by omega) hk (zS_by_lt S (zS_cs S) c) (a3 := -1) (Or.inr ⟨rfl, zS_by_cs h⟩)
        rw [zg_night_mod] at w1
        rw [w1, zp_b2]
        obtain ⟨X', q1, q2⟩ := ih (c + 1) m (a ||| zS_mk (zS_rw S c (zg_night (zN S 0 + hh)) (zS_by S (zS_cs S) c))) X2 (by rw [w2.row (by decide)]; exact e) (by omega) (by omega)
        exact ⟨X', q1, w2.tr q2⟩
      | true =>
        rw [if_neg (fun q => by have := hfi.mp q; cases this)]
        obtain ⟨X2, w1, w2⟩ := zm_ways e h (c := c) (k := (zN S 0 + hh) % 24) (by_ := 0) (by omega) hk (by omega) (a3 := 0) (Or.inl rfl)
        have e2 : X2 96 = S := by rw [w2.row (by decide)]; exact e
        obtain ⟨X3, u1, u2⟩ := zm_ways e2 h (c := c) (k := (zN S 0 + hh) % 24) (by_ := 1) (by omega) hk (by omega) (a3 := 1) (Or.inl rfl)
        rw [zg_night_mod] at w1 u1
        rw [w1, zp_b2, u1, zp_b2]
        obtain ⟨X', q1, q2⟩ := ih (c + 1) m (a ||| (zS_mk (zS_rw S c (zg_night (zN S 0 + hh)) 0) ||| zS_mk (zS_rw S c (zg_night (zN S 0 + hh)) 1))) X3 (by rw [u2.row (by decide)]; exact e2) (by omega) (by omega)
        exact ⟨X', q1, (w2.tr u2).tr q2⟩
theorem zm_step {S : Nat → Int32} (h : zI_WF S) {hh : Nat} (fr : Bool) (s but : Int32) {fi : Int32} (hfi : fi = 0 ↔ fr = false) {X : IX} (e : X 96 = S) : ∃ X', fn_Mod_stepped s (nI ((zN S 0 + hh) % 24)) fi but X = some (zS_step (zS_WB fr S hh) s &&& (but ^^^ (-1 : Int32)), X') ∧ zV X X' := zm_step_L h fr s but hfi 24 0 400 0 X e (by omega) (by omega)
theorem zb_all (x : Int32) : x &&& ((0 : Int32) ^^^ (-1 : Int32)) = x := by
  rw [show ((0 : Int32) ^^^ (-1 : Int32)) = -1 from by decide, ← Int32.toBitVec_inj, Int32.toBitVec_and]
  show x.toBitVec &&& BitVec.allOnes 32 = x.toBitVec
  exact BitVec.and_allOnes
def zS_mb (S : Nat → Int32) (but : Int32) : Nat → Nat → Int32 → Int32
  | 0, _, s => s
  | d + 1, h, s => zS_mb S but d (h + 1) (zS_step (zS_W S h) s &&& (but ^^^ (-1 : Int32)))
theorem zm_mb_L {S : Nat → Int32} (h : zI_WF S) (but : Int32) {N : Nat} (hN : N ≤ 60) : ∀ (d hh n : Nat) (s : Int32) (X : IX), X 96 = S → hh + d = N → d < n → ∃ X', fn_Mod_mayBe_L8 n (nI N) but s (nI hh) X = some (zS_mb S but d hh s, X') ∧ zV X X' := by
  intro d
  induction d with
  | zero =>
    intro hh n s X _ hc hd
    obtain ⟨m, rfl⟩ : ∃ m, n = m + 1 := ⟨n - 1, by omega⟩
    refine ⟨X, ?_, zV.rf X⟩
    show fn_Mod_mayBe_B8 _ _ _ _ _ _ = _
    unfold fn_Mod_mayBe_B8
    rw [if_pos ((nI_leI (by omega) (by omega)).mpr (by omega))]
    rfl
  | succ d ih =>
    intro hh n s X e hc hd
    obtain ⟨m, rfl⟩ : ∃ m, n = m + 1 := ⟨n - 1, by omega⟩
    obtain ⟨X2, w1, w2⟩ := zm_step h (hh := hh) false s but (fi := 0) (by decide) e
    obtain ⟨X', q1, q2⟩ := ih (hh + 1) m (zS_step (zS_W S hh) s &&& (but ^^^ (-1 : Int32))) X2 (by rw [w2.row (by decide)]; exact e) (by omega) (by omega)
    refine ⟨X', ?_, w2.tr q2⟩
    show fn_Mod_mayBe_B8 (fn_Mod_mayBe_L8 m) _ _ _ _ _ = _
    unfold fn_Mod_mayBe_B8
    rw [if_neg (nI_ge (a := hh) (by omega) (by omega)), zp_nx, zm_clock e h (by omega), w1, zp_b2, zp_nx, nI_1]
    exact q1
theorem zm_mb {S : Nat → Int32} (h : zI_WF S) (but : Int32) {c N : Nat} (hN : N ≤ 60) {X : IX} (e : X 96 = S) : ∃ X', fn_Mod_mayBe (nI c) (nI N) but X = some (zS_mb S but N 0 ((1 : Int32) <<< (nI c &&& 31)), X') ∧ zV X X' := zm_mb_L h but hN N 0 400 _ X e (by omega) (by omega)
theorem zC_may_L {X : IX} {S : Nat → Int32} (hC : zC_laid X S) (h : zI_WF S) {N : Nat} (hN : N ≤ 60) : ∀ (d hh n : Nat) (s : Int32), hh + d = N → d < n → fn_Post_may_L42 n (nI N) s (nI hh) X = some (zS_mb S 0 d hh s, X) := by
  intro d
  induction d with
  | zero =>
    intro hh n s hc hd
    obtain ⟨m, rfl⟩ : ∃ m, n = m + 1 := ⟨n - 1, by omega⟩
    show fn_Post_may_B42 _ _ _ _ _ = _
    unfold fn_Post_may_B42
    rw [if_pos ((nI_leI (by omega) (by omega)).mpr (by omega))]
    rfl
  | succ d ih =>
    intro hh n s hc hd
    obtain ⟨m, rfl⟩ : ∃ m, n = m + 1 := ⟨n - 1, by omega⟩
    show fn_Post_may_B42 (fn_Post_may_L42 m) _ _ _ _ = _
    unfold fn_Post_may_B42
    rw [if_neg (nI_ge (a := hh) (by omega) (by omega)), zC_after hC h (by omega), zp_b1, zp_nx, nI_1, ih (hh + 1) m _ (by omega) (by omega)]
    show _ = some (zS_mb S 0 d (hh + 1) _, X)
    rw [zb_all]
theorem st_may {X : IX} {Y : LX} (hI : zI_INV X) (a1 : Int32) (a2 : Int32) : ∃ (v : Int32) (X1 : IX) (X2 : IX), fn_Post_may a1 a2 X = some (v, X1) ∧ fn_Mod_may a1 a2 X1 = some (v, X2) ∧ zI_INV X2 := by
  have n10 : ((1 : Int32) = 0) = False := by decide
  obtain ⟨X1, X2, e1, e2, e3, e4⟩ := zI_both2 hI (f := -1000001) 0 (by decide) (by decide)
  rcases (Bool.eq_false_or_eq_true (zw 0 a1 23 && zw 0 a2 60)).symm with hg | hg
  · refine ⟨-1000001, X1, X2, ?_, ?_, e3⟩
    · cases h1 : zw 0 a1 23 <;> cases h2 : zw 0 a2 60 <;> first
        | exact absurd hg (by rw [h1, h2]; decide)
        | simp only [fn_Post_may, fn_Post_may_L17, ze_isCell, ze_isWithin, h1, h2, zp_b1, zp_b2, zp_nx, zt_f, zt_t, e1, n10, Bool.and_true, Bool.and_false, Bool.true_and, Bool.false_and, ↓reduceIte]
    · cases h1 : zw 0 a1 23 <;> cases h2 : zw 0 a2 60 <;> first
        | exact absurd hg (by rw [h1, h2]; decide)
        | simp only [fn_Mod_may, fn_Mod_may_L26, ze_odds, h1, h2, zp_b1, zp_b2, zp_nx, zt_f, zt_t, e2, n10, Bool.and_true, Bool.and_false, Bool.true_and, Bool.false_and, ↓reduceIte]
  simp only [Bool.and_eq_true] at hg
  obtain ⟨h1, h2⟩ := hg
  obtain ⟨c, hc, rfl⟩ := zw_n (m := 23) (by decide) h1
  obtain ⟨N, hN, rfl⟩ := zw_n (m := 60) (by decide) h2
  have hW := hI.1.2
  obtain ⟨Xa, l1, l2, l3⟩ := zC_lay rfl hI.1.1 hW
  obtain ⟨Xb, m1, m2⟩ := zm_mb hW 0 (c := c) hN (X := Xa) (l3 96 (by omega))
  refine ⟨zS_mb (X 96) 0 N 0 ((1 : Int32) <<< (nI c &&& 31)), Xa, Xb, ?_, ?_, (hI.keep (zI_keep.lay l3)).keep m2.keep⟩
  · simp only [fn_Post_may, ze_isCell, ze_isWithin, h1, h2, zp_b1, zt_t, n10, ↓reduceIte, l1, zp_nx]
    exact zC_may_L l2 hW hN N 0 400 _ (by omega) (by omega)
  · simp only [fn_Mod_may, fn_Mod_may_L26, ze_odds, h1, h2, Bool.and_true, zp_b1, zp_b2, zt_t, n10, ↓reduceIte, m1]
/-! the fewest hours -/
def zS_hh (W : Nat → Nat → Int32) (home : Nat) : Nat → Nat → Int32 → Option Nat
  | 0, _, _ => none
  | d + 1, h, s => if zbt s home = true then some h else zS_hh W home d (h + 1) (zS_step (W h) s)
theorem zC_hh_L {X : IX} {S : Nat → Int32} (hC : zC_laid X S) (hL : zI_LI X 0 S) (h : zI_WF S) (fr : Bool) {fi : Int32} (hfi : fi = 0 ↔ fr = false) : ∀ (d hh n : Nat) (s : Int32), hh + d = 61 → d < n → (∀ k, zS_hh (zS_WB fr S) (zN S 3) d hh s = some k → fn_Post_hoursHome_L32 n fi s (nI hh) X = some (nI k, X) ∧ k < 61) ∧ (zS_hh (zS_WB fr S) (zN S 3) d hh s = none → fn_Post_hoursHome_L32 n fi s (nI hh) X = zu_b2 (fn_Post_finding (-1000004 : Int32) X) fun a b => some (a, b)) := by
  have w3 := zW_3 h
  have t6 : X 20 6 = nI (zN S 3) := by rw [(zL_h rfl hL).2.2.2.1]; exact w3.1
  intro d
  induction d with
  | zero =>
    intro hh n s hc hd
    obtain ⟨m, rfl⟩ : ∃ m, n = m + 1 := ⟨n - 1, by omega⟩
    obtain rfl : hh = 61 := by omega
    exact ⟨fun k q => (by cases q), fun _ => rfl⟩
  | succ d ih =>
    intro hh n s hc hd
    obtain ⟨m, rfl⟩ : ∃ m, n = m + 1 := ⟨n - 1, by omega⟩
    have key : fn_Post_hoursHome_L32 (m + 1) fi s (nI hh) X = if zbt s (zN S 3) = true then some (nI hh, X) else fn_Post_hoursHome_L32 m fi (zS_step (zS_WB fr S hh) s) (nI (hh + 1)) X := by
      show fn_Post_hoursHome_B32 (fn_Post_hoursHome_L32 m) _ _ _ _ = _
      unfold fn_Post_hoursHome_B32 fn_Post_hoursHome_L84
      rw [if_neg (show ¬ (60 : Int32) < nI hh from nI_nlt (a := 60) (b := hh) (by omega) (by omega)), t6, zbt_val s (by omega)]
      simp only [zt_1, zp_nx, nI_1]
      split
      · rfl
      · cases fr with
        | false => rw [if_pos (hfi.mpr rfl), zC_after hC h (by omega), zp_b1]; rfl
        | true => rw [if_neg (fun q => by have := hfi.mp q; cases this), zC_any hC h (by omega), zp_b1]; rfl
    rw [key]
    show (∀ k, (if zbt s (zN S 3) = true then some hh else zS_hh _ _ d (hh + 1) _) = some k → _) ∧ ((if zbt s (zN S 3) = true then some hh else zS_hh _ _ d (hh + 1) _) = none → _)
    by_cases q : zbt s (zN S 3) = true
    · rw [if_pos q, if_pos q]
      exact ⟨fun k e => by cases e; exact ⟨rfl, by omega⟩, fun e => by cases e⟩
    · rw [if_neg q, if_neg q]
      exact ih (hh + 1) m _ (by omega) (by omega)
theorem zm_hh_L {S : Nat → Int32} (h : zI_WF S) (fr : Bool) {fi : Int32} (hfi : fi = 0 ↔ fr = false) : ∀ (d hh n : Nat) (s : Int32) (X : IX), X 96 = S → hh + d = 61 → d < n → ∃ X', zV X X' ∧ (∀ k, zS_hh (zS_WB fr S) (zN S 3) d hh s = some k → fn_Mod_fewestOf_L7 n fi s (nI hh) X = some (nI k, X')) ∧ (zS_hh (zS_WB fr S) (zN S 3) d hh s = none → fn_Mod_fewestOf_L7 n fi s (nI hh) X = zu_b2 (fn_Mod_finds (-1000004 : Int32) X') fun a b => some (a, b)) := by
  have w3 := zW_3 h
  intro d
  induction d with
  | zero =>
    intro hh n s X _ hc hd
    obtain ⟨m, rfl⟩ : ∃ m, n = m + 1 := ⟨n - 1, by omega⟩
    obtain rfl : hh = 61 := by omega
    exact ⟨X, zV.rf X, fun k q => (by cases q), fun _ => rfl⟩
  | succ d ih =>
    intro hh n s X e hc hd
    obtain ⟨m, rfl⟩ : ∃ m, n = m + 1 := ⟨n - 1, by omega⟩
    have t3 : X 96 3 = nI (zN S 3) := by rw [e]; exact w3.1
    obtain ⟨X2, x1, x2⟩ := zm_step h (hh := hh) fr s 0 hfi e
    rw [zb_all] at x1
    have key : fn_Mod_fewestOf_L7 (m + 1) fi s (nI hh) X = if zbt s (zN S 3) = true then some (nI hh, X) else fn_Mod_fewestOf_L7 m fi (zS_step (zS_WB fr S hh) s) (nI (hh + 1)) X2 := by
      show fn_Mod_fewestOf_B7 (fn_Mod_fewestOf_L7 m) _ _ _ _ = _
      unfold fn_Mod_fewestOf_B7 fn_Mod_fewestOf_L47 fn_Mod_fewestOf_L65
      rw [if_neg (show ¬ (61 : Int32) ≤ nI hh from nI_ge (a := hh) (b := 61) (by omega) (by omega)), t3, zbt_has s (by omega), zp_b1, zp_nx, zm_clock e h (by omega), x1, zp_b2, zp_nx, nI_1, if_pos (show nI hh ≤ (60 : Int32) from (nI_leI (b := 60) (by omega) (by omega)).mpr (by omega))]
      cases zbt s (zN S 3) <;> rfl
    rw [key]
    show ∃ X', zV X X' ∧ (∀ k, (if zbt s (zN S 3) = true then some hh else zS_hh _ _ d (hh + 1) _) = some k → _) ∧ ((if zbt s (zN S 3) = true then some hh else zS_hh _ _ d (hh + 1) _) = none → _)
    by_cases q : zbt s (zN S 3) = true
    · rw [if_pos q, if_pos q]
      exact ⟨X, zV.rf X, fun k e => by cases e; rfl, fun e => by cases e⟩
    · rw [if_neg q, if_neg q]
      obtain ⟨X', y1, y2⟩ := ih (hh + 1) m (zS_step (zS_WB fr S hh) s) X2 (by rw [x2.row (by decide)]; exact e) (by omega) (by omega)
      exact ⟨X', x2.tr y1, y2⟩
theorem zh_home {X : IX} (hI : zI_INV X) (fr : Bool) {fi : Int32} (hfi : fi = 0 ↔ fr = false) {c : Nat} (hc : c < 24) : ∃ (v : Int32) (X1 X2 : IX), fn_Post_hoursHome (nI c) fi X = some (v, X1) ∧ fn_Mod_fewestOf (nI c) fi X1 = some (v, X2) ∧ zI_INV X2 := by
  have hW := hI.1.2
  have n10 : ((1 : Int32) = 0) = False := by decide
  have h1 : zw 0 (nI c) 23 = true := zw_nI (l := 0) (h := 23) (by omega) (by omega) (by omega)
  obtain ⟨Xa, l1, l2, l3⟩ := zC_lay rfl hI.1.1 hW
  have hIa := hI.keep (zI_keep.lay l3)
  have e96 : Xa 96 = X 96 := l3 96 (by omega)
  have La : zI_LI Xa 0 (X 96) := zI_LI.cg (fun a ha => l3 a (by omega)) hI.1.1
  have P := zC_hh_L l2 La hW fr hfi 61 0 400 ((1 : Int32) <<< (nI c &&& 31)) (by omega) (by omega)
  have pe : fn_Post_hoursHome (nI c) fi X = fn_Post_hoursHome_L32 400 fi ((1 : Int32) <<< (nI c &&& 31)) (nI 0) Xa := by
    simp only [fn_Post_hoursHome, ze_isCell, h1, zp_b1, zt_t, n10, ↓reduceIte, l1, zp_nx]
    rfl
  rw [pe]
  cases hh : zS_hh (zS_WB fr (X 96)) (zN (X 96) 3) 61 0 ((1 : Int32) <<< (nI c &&& 31)) with
  | some k =>
    obtain ⟨Xb, b1, b2, _⟩ := zm_hh_L hW fr hfi 61 0 400 ((1 : Int32) <<< (nI c &&& 31)) Xa e96 (by omega) (by omega)
    exact ⟨nI k, Xa, Xb, (P.1 k hh).1, b2 k hh, hIa.keep b1.keep⟩
  | none =>
    obtain ⟨Xc, s1, s2, s3⟩ := zI_bothV hIa (f := -1000004) 3 (by decide) (by decide)
    obtain ⟨Xb, b1, _, b3⟩ := zm_hh_L hW fr hfi 61 0 400 ((1 : Int32) <<< (nI c &&& 31)) Xc (by rw [s2 96 (by decide)]; exact e96) (by omega) (by omega)
    obtain ⟨Xd, d1, d2⟩ := s3 Xb b1.keep
    refine ⟨-1000004, Xc, Xd, ?_, ?_, d2⟩
    · rw [P.2 hh, s1]; rfl
    · show fn_Mod_fewestOf_L7 400 fi ((1 : Int32) <<< (nI c &&& 31)) (nI 0) Xc = _
      rw [b3 hh, d1]; rfl
theorem st_fewest {X : IX} {Y : LX} (hI : zI_INV X) (a1 : Int32) : ∃ (v : Int32) (X1 : IX) (X2 : IX), fn_Post_fewest a1 X = some (v, X1) ∧ fn_Mod_fewest a1 X1 = some (v, X2) ∧ zI_INV X2 := by
  have n10 : ((1 : Int32) = 0) = False := by decide
  obtain ⟨X1, X2, e1, e2, e3, e4⟩ := zI_both2 hI (f := -1000001) 0 (by decide) (by decide)
  rcases (Bool.eq_false_or_eq_true (zw 0 a1 23)).symm with hg | hg
  · refine ⟨-1000001, X1, X2, ?_, ?_, e3⟩
    · cases h1 : zw 0 a1 23 <;> first
        | exact absurd hg (by rw [h1]; decide)
        | simp only [fn_Post_fewest, fn_Post_hoursHome, ze_isCell, h1, zp_b1, zp_b2, zp_nx, zt_f, zt_t, e1, n10, Bool.and_true, Bool.and_false, Bool.true_and, Bool.false_and, ↓reduceIte]
    · cases h1 : zw 0 a1 23 <;> first
        | exact absurd hg (by rw [h1]; decide)
        | simp only [fn_Mod_fewest, fn_Mod_fewest_L22, ze_mCell, h1, zp_b1, zp_b2, zp_nx, zt_f, zt_t, e2, n10, Bool.and_true, Bool.and_false, Bool.true_and, Bool.false_and, ↓reduceIte]
  have h1 := hg
  obtain ⟨c, hc, rfl⟩ := zw_n (m := 23) (by decide) h1
  obtain ⟨v, Xa, Xb, q1, q2, q3⟩ := zh_home hI false (fi := 0) (by decide) (show c < 24 by omega)
  refine ⟨v, Xa, Xb, ?_, ?_, q3⟩
  · simp only [fn_Post_fewest, q1, zp_b2]
  · simp only [fn_Mod_fewest, fn_Mod_fewest_L22, ze_mCell, h1, zp_b1, zp_b2, zt_t, n10, ↓reduceIte, q2]
theorem st_free {X : IX} {Y : LX} (hI : zI_INV X) (a1 : Int32) : ∃ (v : Int32) (X1 : IX) (X2 : IX), fn_Post_free a1 X = some (v, X1) ∧ fn_Mod_free a1 X1 = some (v, X2) ∧ zI_INV X2 := by
  have n10 : ((1 : Int32) = 0) = False := by decide
  obtain ⟨X1, X2, e1, e2, e3, e4⟩ := zI_both2 hI (f := -1000001) 0 (by decide) (by decide)
  rcases (Bool.eq_false_or_eq_true (zw 0 a1 23)).symm with hg | hg
  · refine ⟨-1000001, X1, X2, ?_, ?_, e3⟩
    · cases h1 : zw 0 a1 23 <;> first
        | exact absurd hg (by rw [h1]; decide)
        | simp only [fn_Post_free, fn_Post_hoursHome, ze_isCell, h1, zp_b1, zp_b2, zp_nx, zt_f, zt_t, e1, n10, Bool.and_true, Bool.and_false, Bool.true_and, Bool.false_and, ↓reduceIte]
    · cases h1 : zw 0 a1 23 <;> first
        | exact absurd hg (by rw [h1]; decide)
        | simp only [fn_Mod_free, fn_Mod_free_L22, ze_mCell, h1, zp_b1, zp_b2, zp_nx, zt_f, zt_t, e2, n10, Bool.and_true, Bool.and_false, Bool.true_and, Bool.false_and, ↓reduceIte]
  have h1 := hg
  obtain ⟨c, hc, rfl⟩ := zw_n (m := 23) (by decide) h1
  obtain ⟨v, Xa, Xb, q1, q2, q3⟩ := zh_home hI true (fi := 1) (by decide) (show c < 24 by omega)
  refine ⟨v, Xa, Xb, ?_, ?_, q3⟩
  · simp only [fn_Post_free, q1, zp_b2]
  · simp only [fn_Mod_free, fn_Mod_free_L22, ze_mCell, h1, zp_b1, zp_b2, zt_t, n10, ↓reduceIte, q2]
