/-! hours pass -/
theorem zu_cm (f : Nat → Int32) {i j : Nat} (x y : Int32) (h : i ≠ j) : upd (upd f i x) j y = upd (upd f j y) i x := by
  funext k
  by_cases q : k = j
  · subst q; rw [pk_us, pk_un (fun e => h e.symm), pk_us]
  · by_cases w : k = i
    · subst w; rw [pk_un q, pk_us, pk_us]
    · rw [pk_un q, pk_un w, pk_un w, pk_un q]
def zH_z (x : Int32) : Int32 := (x * (1103515245 : Int32)) + (12345 : Int32)
def zH_d (z : Int32) : Int32 := (z.toUInt32 >>> ((8 : Int32).toUInt32 &&& Int32.toUInt32 31)).toInt32
def zH_m (z : Int32) : Int32 := zH_d z - zH_d z / (12 : Int32) * (12 : Int32)
def zH_r (S0 : Nat → Int32) (h c : Nat) : Nat × Nat × Nat := zS_go S0 (zS_cs S0) h c
def zH_to (r : Nat × Nat × Nat) (x : Int32) : Nat := if r.2.2 = 12 then r.1 else if r.2.2 = 0 then r.2.1 else if nI r.2.2 ≤ zH_m (zH_z x) then r.2.1 else r.1
def zH_a (o : Option Nat) (S : Nat → Int32) : Nat → Int32 := match o with
  | none => S
  | some t => upd S (30 + 9 * t + 8) (S (30 + 9 * t + 8) + 1)
def zH_b (r : Nat × Nat × Nat) (S : Nat → Int32) : Nat → Int32 := if r.2.2 = 12 then S else if r.2.2 = 0 then S else upd S 5 (zH_z (S 5))
def zH_n (S0 : Nat → Int32) (h i : Nat) (S : Nat → Int32) : Nat → Int32 := upd (zH_b (zH_r S0 h (zN S (120 + i))) (zH_a (zS_on S0 (zN S (120 + i))) S)) (120 + i) (nI (zH_to (zH_r S0 h (zN S (120 + i))) (S 5)))
def zH_L (S0 : Nat → Int32) (h : Nat) : Nat → Nat → (Nat → Int32) → (Nat → Int32)
  | 0, _, S => S
  | d + 1, i, S => zH_L S0 h d (i + 1) (zH_n S0 h i S)
def zH_cm (S0 : Nat → Int32) (h : Nat) : Nat → Nat → (Nat → Int32) → Nat
  | 0, _, _ => 0
  | d + 1, i, S => (if zH_to (zH_r S0 h (zN S (120 + i))) (S 5) = zN S0 3 ∧ zN S (120 + i) ≠ zN S0 3 then 1 else 0) + zH_cm S0 h d (i + 1) (zH_n S0 h i S)
/-- what holds within an hour, i letters gone -/
def zH_Q (S0 : Nat → Int32) (h i : Nat) (S : Nat → Int32) : Prop := zEq S0 S ∧ (∀ t, t < zN S0 1 → S (30 + 9 * t + 6) = S0 (30 + 9 * t + 6)) ∧ S 0 = nI (zN S0 0 + h) ∧ S 2 = S0 2 ∧ (∀ j, j < zN S0 2 → zI_le (S (120 + j)) 23) ∧ (∀ t, t < zN S0 1 → zI_le (S (30 + 9 * t + 8)) (12 * (zN S0 0 + h) + i)) ∧ ∀ q, q < 10 → S (132 + q) = S0 (132 + q)
theorem zH_r_b {S0 : Nat → Int32} (h0 : zI_WF S0) (h : Nat) {c : Nat} (hc : c < 24) : (zH_r S0 h c).1 < 24 ∧ (zH_r S0 h c).2.1 < 24 ∧ (zH_r S0 h c).2.2 ≤ 12 := zS_rw_b h0 hc
theorem zH_to_b {r : Nat × Nat × Nat} (h1 : r.1 < 24) (h2 : r.2.1 < 24) (x : Int32) : zH_to r x < 24 := by
  unfold zH_to
  repeat' split
  all_goals assumption
theorem zH_a_o (o : Option Nat) (S : Nat → Int32) {j : Nat} (h : ∀ t, o = some t → j ≠ 30 + 9 * t + 8) : zH_a o S j = S j := by
  cases o with
  | none => rfl
  | some t => exact pk_un (h t rfl)
theorem zH_b_o (r : Nat × Nat × Nat) (S : Nat → Int32) {j : Nat} (h : j ≠ 5) : zH_b r S j = S j := by
  unfold zH_b
  repeat' split
  · rfl
  · rfl
  · exact pk_un h
theorem zH_n_o (S0 : Nat → Int32) (h i : Nat) (S : Nat → Int32) {j : Nat} (h1 : j ≠ 120 + i) (h2 : j ≠ 5) (h3 : ∀ t, zS_on S0 (zN S (120 + i)) = some t → j ≠ 30 + 9 * t + 8) : zH_n S0 h i S j = S j := by
  unfold zH_n
  rw [pk_un h1, zH_b_o _ _ h2, zH_a_o _ _ h3]
theorem zH_Q.cell {S0 S : Nat → Int32} {h i : Nat} (q : zH_Q S0 h i S) {j : Nat} (hj : j < zN S0 2) : S (120 + j) = nI (zN S (120 + j)) ∧ zN S (120 + j) ≤ 23 := (q.2.2.2.2.1 j hj).n (by omega)
theorem zH_Q.n {S0 S : Nat → Int32} (h0 : zI_WF S0) {h i : Nat} (hh : h < 100) (hi : i < 12) (hm : i < zN S0 2) (q : zH_Q S0 h i S) : zH_Q S0 h (i + 1) (zH_n S0 h i S) := by
  have n1 := zW_1 h0
  have n0 := zW_0 h0
  have n2 := zW_2 h0
  have c := q.cell hm
  have on : ∀ t, zS_on S0 (zN S (120 + i)) = some t → t < zN S0 1 := fun t e => (zS_on_lt e).1
  obtain ⟨⟨e1, e3, e4, e6, ef⟩, g6, g0, g2, gl, g8, gs⟩ := id q
  have o : ∀ j, j ≠ 120 + i → j ≠ 5 → (∀ t, t < zN S0 1 → j ≠ 30 + 9 * t + 8) → zH_n S0 h i S j = S j := fun j a b d => zH_n_o S0 h i S a b (fun t e => d t (on t e))
  refine ⟨⟨?_, ?_, ?_, fun c hc => ?_, fun t f ht hf => ?_⟩, fun t ht => ?_, ?_, ?_, fun j hj => ?_, fun t ht => ?_, fun p hp => ?_⟩
  · rw [o 1 (by omega) (by omega) (fun t _ => by omega)]; exact e1
  · rw [o 3 (by omega) (by omega) (fun t _ => by omega)]; exact e3
  · rw [o 4 (by omega) (by omega) (fun t _ => by omega)]; exact e4
  · rw [o _ (by omega) (by omega) (fun t _ => by omega)]; exact e6 c hc
  · rw [o _ (by omega) (by omega) (fun t _ => by omega)]; exact ef t f ht hf
  · rw [o _ (by omega) (by omega) (fun t _ => by omega)]; exact g6 t ht
  · rw [o 0 (by omega) (by omega) (fun t _ => by omega)]; exact g0
  · rw [o 2 (by omega) (by omega) (fun t _ => by omega)]; exact g2
  · by_cases w : j = i
    · subst w
      have b := zH_r_b h0 h (show zN S (120 + j) < 24 by omega)
      have b2 := zH_to_b b.1 b.2.1 (S 5)
      unfold zH_n
      rw [pk_us]
      exact ⟨_, by omega, rfl⟩
    · rw [o _ (by omega) (by omega) (fun t _ => by omega)]; exact gl j hj
  · have old := g8 t ht
    unfold zH_n
    rw [pk_un (by omega), zH_b_o _ _ (by omega)]
    cases ho : zS_on S0 (zN S (120 + i)) with
    | none => exact old.mono (by omega)
    | some u =>
      show zI_le (upd S (30 + 9 * u + 8) (S (30 + 9 * u + 8) + 1) (30 + 9 * t + 8)) _
      by_cases w : t = u
      · subst w
        rw [pk_us]
        obtain ⟨k, hk, ek⟩ := old
        rw [ek, nI_1]
        exact ⟨k + 1, by omega, rfl⟩
      · rw [pk_un (by omega)]
        exact old.mono (by omega)
  · rw [o _ (by omega) (by omega) (fun t _ => by omega)]; exact gs p hp
theorem zH_Q.L {S0 : Nat → Int32} (h0 : zI_WF S0) {h : Nat} (hh : h < 100) : ∀ (d i : Nat) (S : Nat → Int32), i + d = zN S0 2 → zH_Q S0 h i S → zH_Q S0 h (zN S0 2) (zH_L S0 h d i S) := by
  have n2 := zW_2 h0
  intro d
  induction d with
  | zero =>
    intro i S hi q
    obtain rfl : i = zN S0 2 := by omega
    exact q
  | succ d ih =>
    intro i S hi q
    exact ih (i + 1) _ (by omega) (q.n h0 hh (by omega) (by omega))
/-- the hour told one later: then all is well formed -/
theorem zH_Q.wf {S0 S : Nat → Int32} (h0 : zI_WF S0) {h i : Nat} (hh : zN S0 0 + h + 1 ≤ 9999) (hi : i ≤ 12) (q : zH_Q S0 h i S) : zI_WF (upd S 0 (nI (zN S0 0 + h + 1))) := by
  obtain ⟨⟨e1, e3, e4, e6, ef⟩, g6, g0, g2, gl, g8, gs⟩ := id q
  have z : zN (upd S 0 (nI (zN S0 0 + h + 1))) 0 = zN S0 0 + h + 1 := by unfold zN; rw [pk_us, zn_cl (by unfold zN at hh; omega)]
  refine zW_mk h0 (by rw [pk_us]; exact ⟨_, hh, rfl⟩) (by rw [pk_un (by omega)]; exact e1) (by rw [pk_un (by omega)]; exact g2) (by rw [pk_un (by omega)]; exact e3) (by rw [pk_un (by omega)]; exact e4) (fun c hc => by rw [pk_un (by omega)]; exact e6 c hc) (fun t f ht hf => by rw [pk_un (by omega)]; exact ef t f ht hf) (fun t ht => ?_) (fun t ht => ?_) (fun j hj => by rw [pk_un (by omega)]; exact gl j hj) (fun p hp => by rw [pk_un (by omega)]; exact gs p hp)
  · rw [pk_un (by omega), g6 t ht]
    exact (h0.2.2.2.2.2.2.1 t ht).2.2.2.2.2.2.1
  · rw [pk_un (by omega), z]
    exact (g8 t ht).mono (by omega)
theorem zH_Q.eq {S0 S : Nat → Int32} {h i : Nat} (q : zH_Q S0 h i S) (x : Int32) : zEq S0 (upd S 0 x) := by
  obtain ⟨⟨e1, e3, e4, e6, ef⟩, _⟩ := q
  exact ⟨by rw [pk_un (by omega)]; exact e1, by rw [pk_un (by omega)]; exact e3, by rw [pk_un (by omega)]; exact e4, fun c hc => by rw [pk_un (by omega)]; exact e6 c hc, fun t f ht hf => by rw [pk_un (by omega)]; exact ef t f ht hf⟩
theorem zH_Q.next {S0 S : Nat → Int32} {h i : Nat} (hi : i ≤ 12) (q : zH_Q S0 h i S) : zH_Q S0 (h + 1) 0 (upd S 0 (nI (zN S0 0 + h + 1))) := by
  obtain ⟨e, g6, g0, g2, gl, g8, gs⟩ := id q
  refine ⟨q.eq _, fun t ht => by rw [pk_un (by omega)]; exact g6 t ht, by rw [pk_us]; rfl, by rw [pk_un (by omega)]; exact g2, fun j hj => by rw [pk_un (by omega)]; exact gl j hj, fun t ht => ?_, fun p hp => by rw [pk_un (by omega)]; exact gs p hp⟩
  rw [pk_un (by omega)]
  exact (g8 t ht).mono (by omega)
/-- in the class -/
theorem zC_laid.cg {X X' : IX} {S : Nat → Int32} (e : ∀ a, a < 6 → X' a = X a) (h : zC_laid X S) : zC_laid X' S := by
  obtain ⟨h1, h2, h3, h4⟩ := h
  rw [← e 1 (by omega)] at h1 h2 h3
  refine ⟨h1, h2, h3, fun c hc => ?_⟩
  have q := h4 c hc
  unfold zC_cl at q ⊢
  rw [e 5 (by omega), e 2 (by omega), e 3 (by omega), e 4 (by omega)]
  exact q
theorem zR0_st {X Y : IX} {r j : Nat} {v : Int32} (h : ∀ a, zR 0 a = false → Y a = X a) (hr : zR 0 r = true) : ∀ a, zR 0 a = false → zu_st Y r j v a = X a := by
  intro a q
  rw [zs_other _ _ _ (fun e => by rw [e, hr] at q; cases q)]
  exact h a q
theorem zR0_pr (k : Nat) (hk : k < 142) : zR 0 (zI_pr 0 k) = true := by
  have key : ∀ k : Fin 142, zR 0 (zI_pr 0 k.val) = true := by decide +kernel
  exact key ⟨k, hk⟩
theorem zR0_low {a : Nat} (h : a < 6) : zR 0 a = false := by
  have key : ∀ a : Fin 6, zR 0 a.val = false := by decide
  exact key ⟨a, h⟩
theorem zl_drawn {X : IX} {S0 S : Nat → Int32} (hC : zC_laid X S0) (h0 : zI_WF S0) (hL : zI_LI X 0 S) {h c : Nat} (hc : c < 24) : ∃ X', fn_Post_drawnCell (nI (zS_ix (zg_night (zN S0 0 + h)) (zS_by S0 (zS_cs S0) c) c)) X = some (nI (zH_to (zH_r S0 h c) (S 5)), X') ∧ zI_LI X' 0 (zH_b (zH_r S0 h c) S) ∧ ∀ a, zR 0 a = false → X' a = X a := by
  obtain ⟨r, hr⟩ : ∃ r, r = zH_r S0 h c := ⟨_, rfl⟩
  have b := zH_r_b h0 h hc
  have rd : X 2 _ = nI (zH_r S0 h c).1 ∧ X 3 _ = nI (zH_r S0 h c).2.1 ∧ X 4 _ = nI (zH_r S0 h c).2.2 := (hC.2.2.2 c hc).2 (zg_night (zN S0 0 + h)) (zS_by S0 (zS_cs S0) c) (zS_by_lt S0 (zS_cs S0) c)
  have ixb := zS_ix_b (ng := zg_night (zN S0 0 + h)) (zS_by_lt S0 (zS_cs S0) c) hc
  obtain ⟨ix, hix⟩ : ∃ ix, ix = zS_ix (zg_night (zN S0 0 + h)) (zS_by S0 (zS_cs S0) c) c := ⟨_, rfl⟩
  rw [← hix] at rd ixb ⊢
  rw [← hr] at rd b ⊢
  have c12 : nI r.2.2 = (12 : Int32) ↔ r.2.2 = 12 := nI_eq (b := 12) (by omega) (by omega)
  have c0 : nI r.2.2 = (0 : Int32) ↔ r.2.2 = 0 := nI_eq (b := 0) (by omega) (by omega)
  unfold fn_Post_drawnCell fn_Post_drawnCell_L75 zH_to zH_b
  rw [zn_ib ixb.1 (by decide), zr_gd, zr_nx, zn_cl (by omega), rd.1, rd.2.1, rd.2.2]
  by_cases q12 : r.2.2 = 12
  · rw [if_pos (c12.mpr q12), zr_gd, if_pos q12, if_pos q12]
    exact ⟨X, rfl, hL, fun _ _ => rfl⟩
  · rw [if_neg (fun z => q12 (c12.mp z)), if_neg q12, if_neg q12]
    by_cases q0 : r.2.2 = 0
    · rw [if_pos (c0.mpr q0), zr_gd, if_pos q0, if_pos q0]
      exact ⟨X, rfl, hL, fun _ _ => rfl⟩
    · rw [if_neg (fun z => q0 (c0.mp z)), if_neg q0, if_neg q0]
      have s5 : X 20 9 = S 5 := (zL_h (r := 20) rfl hL).2.2.2.2.2
      obtain ⟨X6, h6⟩ : ∃ X6 : IX, X6 = zu_st X 20 9 (zH_z (S 5)) := ⟨_, rfl⟩
      have dr : fn_Land_draw 20 X = some (zH_d (zH_z (S 5)), X6) := by
        unfold fn_Land_draw
        rw [s5, zr_nx, zs_st, if_pos ⟨rfl, rfl⟩, h6]
        rfl
      have L6 : zI_LI X6 0 (upd S 5 (zH_z (S 5))) := by
        rw [h6]
        exact zI_LI_put hL (k := 5) (by omega) _
      have f6 : ∀ a, zR 0 a = false → X6 a = X a := by
        rw [h6]
        exact zR0_st (fun _ _ => rfl) (by decide)
      have x2 : X6 2 = X 2 := f6 2 (by decide)
      have x3 : X6 3 = X 3 := f6 3 (by decide)
      rw [dr, zr_b2, zr_gd, zr_gd, x2, x3, rd.1, rd.2.1]
      refine ⟨X6, ?_, L6, f6⟩
      show (if nI r.2.2 ≤ zH_m (zH_z (S 5)) then _ else _) = _
      by_cases w : nI r.2.2 ≤ zH_m (zH_z (S 5))
      · rw [if_pos w, if_pos w]
      · rw [if_neg w, if_neg w]
theorem zH_b5 (r : Nat × Nat × Nat) (o : Option Nat) (S : Nat → Int32) : zH_a o S 5 = S 5 := zH_a_o o S (fun t _ => by omega)
theorem zl_pass {S0 : Nat → Int32} (h0 : zI_WF S0) {h : Nat} (hh : h < 100) : ∀ (d i n a : Nat) (X : IX) (S : Nat → Int32), zH_Q S0 h i S → zC_laid X S0 → zI_LI X 0 S → i + d = zN S0 2 → d < n → ∃ X', fn_Post_passHour_L4 n (nI h) (nI a) (nI i) X = some (nI (a + zH_cm S0 h d i S), X') ∧ zI_LI X' 0 (zH_L S0 h d i S) ∧ ∀ a, zR 0 a = false → X' a = X a := by
  have n2 := zW_2 h0
  have w3 := zW_3 h0
  have n1 := zW_1 h0
  intro d
  induction d with
  | zero =>
    intro i n a X S q hC hL hi hd
    obtain ⟨m, rfl⟩ : ∃ m, n = m + 1 := ⟨n - 1, by omega⟩
    have t5 : X 20 5 = nI (zN S0 2) := by rw [(zL_h rfl hL).2.2.1, q.2.2.2.1]; exact n2.1
    refine ⟨X, ?_, hL, fun _ _ => rfl⟩
    show fn_Post_passHour_B4 _ _ _ _ _ = _
    unfold fn_Post_passHour_B4
    rw [t5, if_pos ((nI_leI (by omega) (by omega)).mpr (by omega))]
    rfl
  | succ d ih =>
    intro i n a X S q hC hL hi hd
    obtain ⟨m, rfl⟩ : ∃ m, n = m + 1 := ⟨n - 1, by omega⟩
    have hi12 : i < 12 := by omega
    have cc := q.cell (show i < zN S0 2 by omega)
    obtain ⟨c, hc⟩ : ∃ c, c = zN S (120 + i) := ⟨_, rfl⟩
    rw [← hc] at cc
    have t5 : X 20 5 = nI (zN S0 2) := by rw [(zL_h rfl hL).2.2.1, q.2.2.2.1]; exact n2.1
    have lc : X (20 + 9) i = nI c := by rw [zL_let (r := 20) rfl hL hi12]; exact cc.1
    have x5 := (hC.2.2.2 c (by omega)).1
    have b := zH_r_b h0 h (show c < 24 by omega)
    have tb := zH_to_b b.1 b.2.1 (S 5)
    -- the thanks
    obtain ⟨Xa, ea, La, fa⟩ : ∃ Xa : IX, (if zO (zS_on S0 c) = (-1 : Int32) then fn_Post_passHour_L64 (fn_Post_passHour_L4 m) (nI h) (nI a) (nI i) (nI c) X else zu_gd (zu_ib (zO (zS_on S0 c)) 10) (zu_nx (zu_st X ((zu_th (20 + 6) ((zO (zS_on S0 c)).toNatClampNeg)) + 30) 8 ((X ((zu_th (20 + 6) ((zO (zS_on S0 c)).toNatClampNeg)) + 30) 8) + (1 : Int32))) fun X8 => fn_Post_passHour_L64 (fn_Post_passHour_L4 m) (nI h) (nI a) (nI i) (nI c) X8)) = fn_Post_passHour_L64 (fn_Post_passHour_L4 m) (nI h) (nI a) (nI i) (nI c) Xa ∧ zI_LI Xa 0 (zH_a (zS_on S0 c) S) ∧ ∀ a, zR 0 a = false → Xa a = X a := by
      cases ho : zS_on S0 c with
      | none => exact ⟨X, if_pos rfl, hL, fun _ _ => rfl⟩
      | some t =>
        have ht := (zS_on_lt ho).1
        have hp := zL_p30 0 t 8 (by omega) (by omega)
        have fr : X (zu_th (20 + 6) t + 30) 8 = S (30 + 9 * t + 8) := zL_fact (r := 20) rfl hL (by omega) (by omega)
        have L2 := zI_LI_put hL (k := 30 + 9 * t + 8) (by omega) (S (30 + 9 * t + 8) + 1)
        rw [hp.1, hp.2] at L2
        have rr : zR 0 (zu_th (20 + 6) t + 30) = true := by
          have := zR0_pr (30 + 9 * t + 8) (by omega)
          rw [hp.1] at this
          exact this
        refine ⟨zu_st X (zu_th (20 + 6) t + 30) 8 (S (30 + 9 * t + 8) + 1), ?_, L2, zR0_st (fun _ _ => rfl) rr⟩
        have cl : (zO (some t)).toNatClampNeg = t := zn_cl (by omega)
        rw [if_neg (show ¬ zO (some t) = (-1 : Int32) from zO_m1 (by omega)), show zu_ib (zO (some t)) 10 = true from zn_ib (show t < 10 by omega) (by decide), zr_gd, zr_nx, cl, fr]
    have Ca : zC_laid Xa S0 := hC.cg (fun a ha => fa a (zR0_low ha))
    obtain ⟨Xb, eb, Lb, fb⟩ := zl_drawn Ca h0 La (h := h) (show c < 24 by omega)
    rw [zH_b5 (zH_r S0 h c)] at eb
    have fab : ∀ a, zR 0 a = false → Xb a = X a := fun a ha => by rw [fb a ha, fa a ha]
    have Cb : zC_laid Xb S0 := hC.cg (fun a ha => fab a (zR0_low ha))
    -- the letter laid down
    have hp := zL_p120 0 i hi12
    have L3 := zI_LI_put Lb (k := 120 + i) (by omega) (nI (zH_to (zH_r S0 h c) (S 5)))
    rw [hp.1, hp.2] at L3
    obtain ⟨Xc, hXc⟩ : ∃ Xc : IX, Xc = zu_st Xb (20 + 9) i (nI (zH_to (zH_r S0 h c) (S 5))) := ⟨_, rfl⟩
    have L3' : zI_LI Xc 0 (zH_n S0 h i S) := by
      rw [hXc]
      unfold zH_n
      rw [← hc]
      exact L3
    have fc : ∀ a, zR 0 a = false → Xc a = X a := by
      rw [hXc]
      exact zR0_st fab (by decide)
    have Cc : zC_laid Xc S0 := hC.cg (fun a ha => fc a (zR0_low ha))
    have hm6 : Xb 20 6 = nI (zN S0 3) := by
      rw [(zL_h (r := 20) rfl Lb).2.2.2.1, zH_b_o _ _ (by omega), zH_a_o _ _ (fun t _ => by omega), q.1.2.1]
      exact w3.1
    have cmE : ∀ k : Nat, (k = if zH_to (zH_r S0 h c) (S 5) = zN S0 3 ∧ c ≠ zN S0 3 then 1 else 0) → zH_cm S0 h (d + 1) i S = k + zH_cm S0 h d (i + 1) (zH_n S0 h i S) := by
      intro k hk
      rw [hk, hc]
      rfl
    have go : ∀ k : Nat, (k = if zH_to (zH_r S0 h c) (S 5) = zN S0 3 ∧ c ≠ zN S0 3 then 1 else 0) → ∃ X', fn_Post_passHour_L114 (fn_Post_passHour_L4 m) (nI h) (nI (a + k)) (nI i) (nI (zH_to (zH_r S0 h c) (S 5))) Xb = some (nI (a + zH_cm S0 h (d + 1) i S), X') ∧ zI_LI X' 0 (zH_L S0 h (d + 1) i S) ∧ ∀ a, zR 0 a = false → X' a = X a := by
      intro k hk
      obtain ⟨X', q1, q2, q3⟩ := ih (i + 1) m (a + k) Xc (zH_n S0 h i S) (q.n h0 hh hi12 (by omega)) Cc L3' (by omega) (by omega)
      refine ⟨X', ?_, q2, fun x hx => by rw [q3 x hx, fc x hx]⟩
      unfold fn_Post_passHour_L114
      rw [zn_ib hi12 (by decide), zr_gd, zr_nx, zr_nx, zn_cl (by omega), nI_1, ← hXc, q1, cmE k hk, Nat.add_assoc]
    show ∃ X', fn_Post_passHour_B4 (fn_Post_passHour_L4 m) _ _ _ _ = _ ∧ _
    unfold fn_Post_passHour_B4
    rw [t5, if_neg (nI_ge (a := i) (by omega) (by omega)), zn_ib hi12 (by decide), zr_gd, zn_cl (by omega), zr_nx, lc, zn_ib (show c < 24 by omega) (by decide), zr_gd, zn_cl (by omega), zr_nx, x5, ea]
    unfold fn_Post_passHour_L64
    rw [Ca.1, zC_chosen Ca h0 (by omega) hh, zr_b1, eb, zr_b2, hm6]
    have c1 : nI (zH_to (zH_r S0 h c) (S 5)) = nI (zN S0 3) ↔ zH_to (zH_r S0 h c) (S 5) = zN S0 3 := nI_eq (by omega) (by omega)
    have c2 : nI c = nI (zN S0 3) ↔ c = zN S0 3 := nI_eq (by omega) (by omega)
    by_cases w1 : zH_to (zH_r S0 h c) (S 5) = zN S0 3
    · rw [if_pos (c1.mpr w1)]
      by_cases w2 : c = zN S0 3
      · rw [if_pos (c2.mpr w2)]
        exact go 0 (by rw [if_neg (fun z => z.2 w2)])
      · rw [if_neg (fun z => w2 (c2.mp z)), zr_nx, nI_1]
        exact go 1 (by rw [if_pos ⟨w1, w2⟩])
    · rw [if_neg (fun z => w1 (c1.mp z))]
      exact go 0 (by rw [if_neg (fun z => w1 z.1)])
