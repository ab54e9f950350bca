/-! hours in the reference -/
theorem zH_a5 (o : Option Nat) (S : Nat → Int32) (z : Int32) : zH_a o (upd S 5 z) = upd (zH_a o S) 5 z := by
  cases o with
  | none => rfl
  | some t =>
    show upd (upd S 5 z) (30 + 9 * t + 8) (upd S 5 z (30 + 9 * t + 8) + 1) = upd (upd S (30 + 9 * t + 8) (S (30 + 9 * t + 8) + 1)) 5 z
    rw [pk_un (show 30 + 9 * t + 8 ≠ 5 by omega)]
    exact zu_cm S _ _ (by omega)
theorem zm_L81 (k2 : Int32 → IX → Option IX) {X : IX} {U : Nat → Int32} {i f s : Nat} {o : Option Nat} (hi : i < 12) (ho : ∀ t, o = some t → t < 10) (e : X 96 = U) (x5 : X 95 5 = nI f) (x7 : X 95 7 = nI s) (x8 : X 95 8 = zO o) (y : Bool) : ∃ X', fn_Mod_hour_L81 k2 (nI i) (zt y) X = k2 (nI (i + 1)) X' ∧ X' 96 = upd (zH_a o U) (120 + i) (nI (if y = true then f else s)) ∧ ∀ a, a ≠ 96 → X' a = X a := by
  have e6 : (120 : Int32) + nI i = nI (120 + i) := nI_add 120 i
  have L : ∀ Z : IX, Z 95 5 = nI f → Z 95 7 = nI s → fn_Mod_hour_L106 k2 (nI i) (zt y) Z = k2 (nI (i + 1)) (zu_st Z 96 (120 + i) (nI (if y = true then f else s))) := by
    intro Z z5 z7
    unfold fn_Mod_hour_L106 fn_Mod_hour_L129
    rw [e6, zn_ib (show 120 + i < 142 by omega) (by decide), zr_gd, zr_gd, zn_cl (by omega), z5, z7]
    simp only [zr_nx, nI_1]
    cases y <;> rfl
  unfold fn_Mod_hour_L81
  rw [x8]
  cases o with
  | none =>
    rw [if_pos (show zO none < (0 : Int32) by decide), L X x5 x7]
    exact ⟨_, rfl, by rw [zs_row, e]; rfl, fun a ha => zs_other _ _ _ ha⟩
  | some t =>
    have ht := ho t rfl
    have ea : fn_Mod_at (zO (some t)) (8 : Int32) = nI (30 + 9 * t + 8) := ze_at t 8
    rw [if_neg (show ¬ zO (some t) < (0 : Int32) from nI_pos (by omega)), zr_nx, ea, zn_ib (show 30 + 9 * t + 8 < 142 by omega) (by decide), zr_gd, zr_gd, zn_cl (by omega), zr_nx, L _ (by rw [zs_other _ _ _ (by decide)]; exact x5) (by rw [zs_other _ _ _ (by decide)]; exact x7)]
    exact ⟨_, rfl, by rw [zs_row, zs_row, e]; rfl, fun a ha => by rw [zs_other _ _ _ ha, zs_other _ _ _ ha]⟩
theorem zm_hour {S0 : Nat → Int32} (h0 : zI_WF S0) {h : Nat} (hh : h < 100) (hH : zN S0 0 + h + 1 ≤ 9999) : ∀ (d i n : Nat) (X : IX) (S : Nat → Int32), zH_Q S0 h i S → X 96 = S → i + d = zN S0 2 → d < n → ∃ X', fn_Mod_hour_L2 n (nI i) X = some X' ∧ X' 96 = upd (zH_L S0 h d i S) 0 (nI (zN S0 0 + h + 1)) ∧ zU X X' := by
  have n2 := zW_2 h0
  have n1 := zW_1 h0
  intro d
  induction d with
  | zero =>
    intro i n X S q e hi hd
    obtain ⟨m, rfl⟩ : ∃ m, n = m + 1 := ⟨n - 1, by omega⟩
    refine ⟨zu_st X 96 0 (nI (zN S0 0 + h + 1)), ?_, by rw [zs_row, e]; rfl, (zU.rf X).st⟩
    show fn_Mod_hour_B2 _ _ _ = _
    unfold fn_Mod_hour_B2
    rw [e, q.2.2.2.1, n2.1, if_pos ((nI_leI (by omega) (by omega)).mpr (by omega)), zr_nx, q.2.2.1, nI_1]
  | succ d ih =>
    intro i n X S q e hi hd
    obtain ⟨m, rfl⟩ : ∃ m, n = m + 1 := ⟨n - 1, by omega⟩
    have hi12 : i < 12 := by omega
    have cc := q.cell (show i < zN S0 2 by omega)
    obtain ⟨c, hc⟩ : ∃ c, c = zN S (120 + i) := ⟨_, rfl⟩
    rw [← hc] at cc
    have hc24 : c < 24 := by omega
    have e6 : (120 : Int32) + nI i = nI (120 + i) := nI_add 120 i
    have ck : fn_Mod_clockIn X (0 : Int32) = nI ((zN S0 0 + h) % 24) := by
      unfold fn_Mod_clockIn
      rw [e, q.2.2.1, Int32.add_zero]
      exact pk_rem (d := 24) (by omega) (by omega) (by omega)
    have qe := q.eq (nI (zN S0 0 + h + 1))
    obtain ⟨X6, g1, g2, g3⟩ := zm_goesw (X := X) (S := upd S 0 (nI (zN S0 0 + h + 1))) (c := c) (k := (zN S0 0 + h) % 24) (fun k hk => by rw [e, pk_un hk]) (q.wf h0 hH (by omega)) hc24 (Nat.mod_lt _ (by omega)) (zS_by_lt S0 (zS_cs S0) c) (a3 := -1) (Or.inr ⟨rfl, fun t ht => by
      rw [qe.on hc24] at ht
      have lt := (zS_on_lt ht).1
      rw [← zS_by_cs h0 t ht]
      unfold zF zN
      rw [pk_un (by omega), q.2.1 t lt]⟩)
    unfold zM_at at g2
    rw [qe.rw hc24, qe.on hc24, zg_night_mod] at g2
    have er : zS_rw S0 c (zg_night (zN S0 0 + h)) (zS_by S0 (zS_cs S0) c) = zH_r S0 h c := rfl
    rw [er] at g2
    have b := zH_r_b h0 h hc24
    have x96 : X6 96 = S := by rw [g3.row (by decide)]; exact e
    obtain ⟨r, hr⟩ : ∃ r, r = zH_r S0 h c := ⟨_, rfl⟩
    rw [← hr] at g2 b
    have on10 : ∀ t, zS_on S0 c = some t → t < 10 := fun t ht => by have := (zS_on_lt ht).1; omega
    -- what stands behind the letter
    have fin : ∀ (Xa : IX) (y : Bool), Xa 95 5 = nI r.1 → Xa 95 7 = nI r.2.1 → Xa 95 8 = zO (zS_on S0 c) → zH_a (zS_on S0 c) (Xa 96) = zH_b r (zH_a (zS_on S0 c) S) → (if y = true then r.1 else r.2.1) = zH_to r (S 5) → zU X Xa → ∃ X', fn_Mod_hour_L81 (fn_Mod_hour_L2 m) (nI i) (zt y) Xa = some X' ∧ X' 96 = upd (zH_L S0 h (d + 1) i S) 0 (nI (zN S0 0 + h + 1)) ∧ zU X X' := by
      intro Xa y a5 a7 a8 a96 ay aU
      obtain ⟨Xb, b1, b2, b3⟩ := zm_L81 (fn_Mod_hour_L2 m) hi12 on10 (rfl : Xa 96 = Xa 96) a5 a7 a8 y
      have bn : Xb 96 = zH_n S0 h i S := by
        rw [b2, a96, ay]
        unfold zH_n
        rw [← hc, ← hr]
      obtain ⟨X', q1, q2, q3⟩ := ih (i + 1) m Xb (zH_n S0 h i S) (q.n h0 hh hi12 (by omega)) bn (by omega) (by omega)
      have ub : zU Xa Xb := fun a b q _ _ => by rw [b3 a q]
      exact ⟨X', by rw [b1]; exact q1, q2, aU.tr (ub.tr q3)⟩
    have c12 : nI r.2.2 = (12 : Int32) ↔ r.2.2 = 12 := nI_eq (b := 12) (by omega) (by omega)
    have cin : zw 1 (nI r.2.2) 11 = decide (1 ≤ r.2.2 ∧ r.2.2 ≤ 11) := zw_iff (l := 1) (h := 11) (by omega) (by omega) (by omega)
    show ∃ X', fn_Mod_hour_B2 (fn_Mod_hour_L2 m) _ _ = _ ∧ _
    unfold fn_Mod_hour_B2 fn_Mod_hour_L45 fn_Mod_hour_L80
    rw [e, q.2.2.2.1, n2.1, if_neg (nI_ge (a := i) (by omega) (by omega)), e6, zn_ib (show 120 + i < 142 by omega) (by decide), zr_gd, zr_nx, ck, zn_cl (by omega), cc.1, g1, zr_b1, g2.2.2.1, ze_inN (nI r.2.2) 1 11 1 11 rfl rfl, zr_b1, zr_b1, cin]
    by_cases q12 : r.2.2 = 12
    · rw [if_pos (c12.mpr q12), decide_eq_false (by omega), zt_f, if_pos rfl]
      refine fin X6 true g2.1 g2.2.1 g2.2.2.2 ?_ ?_ g3.U
      · rw [x96]; unfold zH_b; rw [if_pos q12]
      · unfold zH_to; rw [if_pos q12, if_pos rfl]
    · rw [if_neg (fun z => q12 (c12.mp z))]
      by_cases q0 : r.2.2 = 0
      · rw [decide_eq_false (by omega), zt_f, if_pos rfl]
        refine fin X6 false g2.1 g2.2.1 g2.2.2.2 ?_ ?_ g3.U
        · rw [x96]; unfold zH_b; rw [if_neg q12, if_pos q0]
        · unfold zH_to; rw [if_neg q12, if_pos q0, if_neg (by decide)]
      · rw [decide_eq_true (by omega), zt_t, if_neg (by decide)]
        obtain ⟨Xd, hXd⟩ : ∃ Xd : IX, Xd = zu_st X6 96 5 (zH_z (S 5)) := ⟨_, rfl⟩
        have dr : fn_Mod_draw X6 = some (zH_d (zH_z (S 5)), Xd) := by
          unfold fn_Mod_draw
          rw [x96, zr_nx, zs_st, if_pos ⟨rfl, rfl⟩, hXd]
          rfl
        have r95 : Xd 95 = X6 95 := by rw [hXd, zs_other _ _ _ (by decide)]
        have d96 : Xd 96 = upd S 5 (zH_z (S 5)) := by rw [hXd, zs_row, x96]
        have aU : zU X Xd := by rw [hXd]; exact g3.U.st
        have a96 : zH_a (zS_on S0 c) (Xd 96) = zH_b r (zH_a (zS_on S0 c) S) := by
          rw [d96, zH_a5]
          unfold zH_b
          rw [if_neg q12, if_neg q0, zH_a_o _ _ (fun t _ => by omega)]
        rw [dr, zr_b2, r95, g2.2.2.1]
        show ∃ X', (if nI r.2.2 ≤ zH_m (zH_z (S 5)) then _ else _) = _ ∧ _
        by_cases w : nI r.2.2 ≤ zH_m (zH_z (S 5))
        · rw [if_pos w]
          refine fin Xd false (by rw [r95]; exact g2.1) (by rw [r95]; exact g2.2.1) (by rw [r95]; exact g2.2.2.2) a96 ?_ aU
          unfold zH_to
          rw [if_neg q12, if_neg q0, if_pos w, if_neg (by decide)]
        · rw [if_neg w]
          refine fin Xd true (by rw [r95]; exact g2.1) (by rw [r95]; exact g2.2.1) (by rw [r95]; exact g2.2.2.2) a96 ?_ aU
          unfold zH_to
          rw [if_neg q12, if_neg q0, if_neg w, if_pos rfl]
/-! letters at home -/
def zS_lh (S : Nat → Int32) (hm : Nat) : Nat → Nat → Nat
  | 0, _ => 0
  | d + 1, i => (if zN S (120 + i) = hm then 1 else 0) + zS_lh S hm d (i + 1)
theorem zS_lh_le (S : Nat → Int32) (hm : Nat) : ∀ d i, zS_lh S hm d i ≤ d := by
  intro d
  induction d with
  | zero => intro i; exact Nat.le_refl _
  | succ d ih =>
    intro i
    have := ih (i + 1)
    show (if zN S (120 + i) = hm then 1 else 0) + zS_lh S hm d (i + 1) ≤ d + 1
    split <;> omega
theorem zS_lh_cg {S T : Nat → Int32} (hm : Nat) : ∀ d i, (∀ j, i ≤ j → j < i + d → T (120 + j) = S (120 + j)) → zS_lh T hm d i = zS_lh S hm d i := by
  intro d
  induction d with
  | zero => intro i _; rfl
  | succ d ih =>
    intro i h
    have e : zN T (120 + i) = zN S (120 + i) := by unfold zN; rw [h i (by omega) (by omega)]
    show (if zN T (120 + i) = hm then 1 else 0) + zS_lh T hm d (i + 1) = (if zN S (120 + i) = hm then 1 else 0) + zS_lh S hm d (i + 1)
    rw [e, ih (i + 1) (fun j h1 h2 => h j (by omega) (by omega))]
theorem zm_lh {X : IX} {S : Nat → Int32} {M : Nat} (e : X 96 = S) (h2 : S 2 = nI M) (hM : M ≤ 12) {hm : Nat} (h3 : S 3 = nI hm) (hm23 : hm ≤ 23) (hl : ∀ j, j < M → zI_le (S (120 + j)) 23) : ∀ (d i n a : Nat), i + d = M → d < n → fn_Mod_lettersHome_L4 X n (nI a) (nI i) = some (nI (a + zS_lh S hm d i)) := by
  intro d
  induction d with
  | zero =>
    intro i n a hi hd
    obtain ⟨m, rfl⟩ : ∃ m, n = m + 1 := ⟨n - 1, by omega⟩
    show fn_Mod_lettersHome_B4 _ _ _ _ = _
    unfold fn_Mod_lettersHome_B4
    rw [e, h2, if_pos ((nI_leI (by omega) (by omega)).mpr (by omega))]
    rfl
  | succ d ih =>
    intro i n a hi hd
    obtain ⟨m, rfl⟩ : ∃ m, n = m + 1 := ⟨n - 1, by omega⟩
    have cc := (hl i (by omega)).n (by omega)
    have cc' : S (120 + i) = nI (zN S (120 + i)) ∧ zN S (120 + i) ≤ 23 := cc
    have e6 : (120 : Int32) + nI i = nI (120 + i) := nI_add 120 i
    have c1 : nI (zN S (120 + i)) = nI hm ↔ zN S (120 + i) = hm := nI_eq (by omega) (by omega)
    have st : zS_lh S hm (d + 1) i = (if zN S (120 + i) = hm then 1 else 0) + zS_lh S hm d (i + 1) := rfl
    show fn_Mod_lettersHome_B4 X (fn_Mod_lettersHome_L4 X m) _ _ = _
    unfold fn_Mod_lettersHome_B4 fn_Mod_lettersHome_L38
    rw [e, h2, if_neg (nI_ge (a := i) (by omega) (by omega)), e6, zn_ib (show 120 + i < 142 by omega) (by decide), zr_gd, zn_cl (by omega), cc'.1, h3, st]
    simp only [zr_nx, nI_1, c1]
    by_cases w : zN S (120 + i) = hm
    · rw [if_pos w, if_pos w, ih (i + 1) m (a + 1) (by omega) (by omega), Nat.add_assoc]
    · rw [if_neg w, if_neg w, Int32.add_zero, ih (i + 1) m a (by omega) (by omega), Nat.zero_add]
theorem zH_L_o {S0 : Nat → Int32} (h0 : zI_WF S0) {h : Nat} : ∀ (d i : Nat) (S : Nat → Int32) (j : Nat), i + d ≤ 12 → j < i → zH_L S0 h d i S (120 + j) = S (120 + j) := by
  intro d
  induction d with
  | zero => intro i S j _ _; rfl
  | succ d ih =>
    intro i S j hi hj
    show zH_L S0 h d (i + 1) (zH_n S0 h i S) (120 + j) = _
    rw [ih (i + 1) _ j (by omega) (by omega)]
    refine zH_n_o S0 h i S (by omega) (by omega) (fun t ht => ?_)
    have := (zS_on_lt ht).1
    have := (zW_1 h0).2
    omega
theorem zH_home {S0 : Nat → Int32} (h : Nat) (x : Int32) : zH_to (zH_r S0 h (zN S0 3)) x = zN S0 3 := by
  have st : zS_st S0 (zN S0 3) = true := decide_eq_true (Or.inl rfl)
  have hd : zS_hand S0 (zN S0 3) = none := by unfold zS_hand; rw [st]; rfl
  have er : zH_r S0 h (zN S0 3) = (zN S0 3, zN S0 3, 12) := by
    show zS_rw S0 (zN S0 3) _ _ = _
    unfold zS_rw
    rw [hd]
    show (zS_un S0 (zN S0 3), zN S0 3, 12) = _
    unfold zS_un
    rw [st]
    rfl
  rw [er]
  rfl
theorem zH_cnt {S0 : Nat → Int32} (h0 : zI_WF S0) {h : Nat} (hh : h < 100) : ∀ (d i : Nat) (S : Nat → Int32), i + d = zN S0 2 → zH_Q S0 h i S → zS_lh (zH_L S0 h d i S) (zN S0 3) d i = zS_lh S (zN S0 3) d i + zH_cm S0 h d i S := by
  have w3 := zW_3 h0
  intro d
  induction d with
  | zero => intro i S _ _; rfl
  | succ d ih =>
    intro i S hi q
    have n2 := (zW_2 h0).2
    have cc := q.cell (show i < zN S0 2 by omega)
    have e0 : zH_L S0 h (d + 1) i S = zH_L S0 h d (i + 1) (zH_n S0 h i S) := rfl
    have e1 : zS_lh (zH_L S0 h d (i + 1) (zH_n S0 h i S)) (zN S0 3) (d + 1) i = (if zN (zH_L S0 h d (i + 1) (zH_n S0 h i S)) (120 + i) = zN S0 3 then 1 else 0) + zS_lh (zH_L S0 h d (i + 1) (zH_n S0 h i S)) (zN S0 3) d (i + 1) := rfl
    have e2 : zS_lh S (zN S0 3) (d + 1) i = (if zN S (120 + i) = zN S0 3 then 1 else 0) + zS_lh S (zN S0 3) d (i + 1) := rfl
    have e3 : zH_cm S0 h (d + 1) i S = (if zH_to (zH_r S0 h (zN S (120 + i))) (S 5) = zN S0 3 ∧ zN S (120 + i) ≠ zN S0 3 then 1 else 0) + zH_cm S0 h d (i + 1) (zH_n S0 h i S) := rfl
    have e4 : zS_lh (zH_n S0 h i S) (zN S0 3) d (i + 1) = zS_lh S (zN S0 3) d (i + 1) := zS_lh_cg _ d (i + 1) (fun j h1 h2 => zH_n_o S0 h i S (by omega) (by omega) (fun t ht => by have := (zS_on_lt ht).1; have := (zW_1 h0).2; omega))
    rw [e0, e1, e2, e3, ih (i + 1) (zH_n S0 h i S) (by omega) (q.n h0 hh (by omega) (by omega)), e4]
    have to : zN (zH_L S0 h d (i + 1) (zH_n S0 h i S)) (120 + i) = (nI (zH_to (zH_r S0 h (zN S (120 + i))) (S 5))).toNatClampNeg := by
      unfold zN
      rw [zH_L_o h0 d (i + 1) _ i (by omega) (by omega)]
      show (upd _ (120 + i) _ (120 + i)).toNatClampNeg = _
      rw [pk_us]
      rfl
    rw [to]
    by_cases w : zN S (120 + i) = zN S0 3
    · rw [w, zH_home, zn_cl (by omega), if_pos rfl, if_neg (fun z => z.2 rfl)]
      omega
    · rw [if_neg w]
      by_cases w2 : zH_to (zH_r S0 h (zN S (120 + i))) (S 5) = zN S0 3
      · rw [w2, zn_cl (by omega), if_pos rfl, if_pos ⟨rfl, w⟩]
        omega
      · have lt : zH_to (zH_r S0 h (zN S (120 + i))) (S 5) < 2 ^ 31 := by
          have b := zH_r_b h0 h (show zN S (120 + i) < 24 by omega)
          have := zH_to_b b.1 b.2.1 (S 5)
          omega
        rw [zn_cl lt, if_neg w2, if_neg (fun z => w2 z.1)]
        omega
/-! many hours -/
def zH_all (S0 : Nat → Int32) : Nat → Nat → (Nat → Int32) → (Nat → Int32)
  | 0, _, S => S
  | d + 1, h, S => zH_all S0 d (h + 1) (upd (zH_L S0 h (zN S0 2) 0 S) 0 (nI (zN S0 0 + h + 1)))
def zH_ct (S0 : Nat → Int32) : Nat → Nat → (Nat → Int32) → Nat
  | 0, _, _ => 0
  | d + 1, h, S => zH_cm S0 h (zN S0 2) 0 S + zH_ct S0 d (h + 1) (upd (zH_L S0 h (zN S0 2) 0 S) 0 (nI (zN S0 0 + h + 1)))
theorem zH_step {S0 : Nat → Int32} (h0 : zI_WF S0) {h : Nat} (hh : h < 100) {S : Nat → Int32} (q : zH_Q S0 h 0 S) : zH_Q S0 (h + 1) 0 (upd (zH_L S0 h (zN S0 2) 0 S) 0 (nI (zN S0 0 + h + 1))) := (zH_Q.L h0 hh (zN S0 2) 0 S (by omega) q).next (zW_2 h0).2
theorem zH_Q.wf0 {S0 S : Nat → Int32} (h0 : zI_WF S0) {h : Nat} (hh : zN S0 0 + h ≤ 9999) (q : zH_Q S0 h 0 S) : zI_WF S := by
  obtain ⟨⟨e1, e3, e4, e6, ef⟩, g6, g0, g2, gl, g8, gs⟩ := id q
  have z : zN S 0 = zN S0 0 + h := by
    show (S 0).toNatClampNeg = _
    rw [g0, zn_cl (by omega)]
  refine zW_mk h0 (by rw [g0]; exact ⟨_, hh, rfl⟩) e1 g2 e3 e4 e6 ef (fun t ht => ?_) (fun t ht => ?_) gl gs
  · rw [g6 t ht]
    exact (h0.2.2.2.2.2.2.1 t ht).2.2.2.2.2.2.1
  · rw [z]
    exact (g8 t ht).mono (by omega)
theorem zH_total {S0 : Nat → Int32} (h0 : zI_WF S0) : ∀ (d h : Nat) (S : Nat → Int32), h + d < 100 → zH_Q S0 h 0 S → zS_lh (zH_all S0 d h S) (zN S0 3) (zN S0 2) 0 = zS_lh S (zN S0 3) (zN S0 2) 0 + zH_ct S0 d h S ∧ zH_Q S0 (h + d) 0 (zH_all S0 d h S) := by
  intro d
  induction d with
  | zero => intro h S _ q; exact ⟨rfl, q⟩
  | succ d ih =>
    intro h S hd q
    have st := zH_step h0 (show h < 100 by omega) q
    have i := ih (h + 1) _ (by omega) st
    have c := zH_cnt h0 (show h < 100 by omega) (zN S0 2) 0 S (by omega) q
    have u : zS_lh (upd (zH_L S0 h (zN S0 2) 0 S) 0 (nI (zN S0 0 + h + 1))) (zN S0 3) (zN S0 2) 0 = zS_lh (zH_L S0 h (zN S0 2) 0 S) (zN S0 3) (zN S0 2) 0 := zS_lh_cg _ _ 0 (fun j _ _ => pk_un (by omega))
    rw [u, c] at i
    refine ⟨?_, by rw [show h + (d + 1) = h + 1 + d by omega]; exact i.2⟩
    show zS_lh (zH_all S0 d (h + 1) _) _ _ 0 = _ + (zH_cm S0 h (zN S0 2) 0 S + zH_ct S0 d (h + 1) _)
    rw [i.1, Nat.add_assoc]
theorem zl_hours_P {S0 : Nat → Int32} (h0 : zI_WF S0) {N : Nat} (hN : N ≤ 48) : ∀ (d h n a : Nat) (X : IX) (S : Nat → Int32), zH_Q S0 h 0 S → zC_laid X S0 → zI_LI X 0 S → h + d = N → d < n → ∃ X', fn_Post_hours_L54 n (nI N) (nI a) (nI h) X = some (nI (a + zH_ct S0 d h S), X') ∧ zI_LI X' 0 (zH_all S0 d h S) ∧ ∀ a, zR 0 a = false → X' a = X a := by
  have n0 := zW_0 h0
  have n2 := zW_2 h0
  intro d
  induction d with
  | zero =>
    intro h n a X S q hC hL hd hn
    obtain ⟨m, rfl⟩ : ∃ m, n = m + 1 := ⟨n - 1, by omega⟩
    refine ⟨X, ?_, hL, fun _ _ => rfl⟩
    show fn_Post_hours_B54 _ _ _ _ _ = _
    unfold fn_Post_hours_B54
    rw [if_pos ((nI_leI (by omega) (by omega)).mpr (by omega))]
    rfl
  | succ d ih =>
    intro h n a X S q hC hL hd hn
    obtain ⟨m, rfl⟩ : ∃ m, n = m + 1 := ⟨n - 1, by omega⟩
    obtain ⟨Xa, e1, La, fa⟩ := zl_pass h0 (show h < 100 by omega) (zN S0 2) 0 400 0 X S q hC hL (by omega) (by omega)
    rw [nI_0, Nat.zero_add] at e1
    have e1' : fn_Post_passHour (nI h) X = some (nI (zH_cm S0 h (zN S0 2) 0 S), Xa) := e1
    have qL := zH_Q.L h0 (show h < 100 by omega) (zN S0 2) 0 S (by omega) q
    have x8 : Xa 20 8 = nI (zN S0 0 + h) := by rw [(zL_h (r := 20) rfl La).1]; exact qL.2.2.1
    have L2 := zI_LI_put La (k := 0) (by omega) (nI (zN S0 0 + h + 1))
    obtain ⟨Xb, hXb⟩ : ∃ Xb : IX, Xb = zu_st Xa 20 8 (nI (zN S0 0 + h + 1)) := ⟨_, rfl⟩
    have Lb : zI_LI Xb 0 (upd (zH_L S0 h (zN S0 2) 0 S) 0 (nI (zN S0 0 + h + 1))) := by rw [hXb]; exact L2
    have fb : ∀ a, zR 0 a = false → Xb a = X a := by rw [hXb]; exact zR0_st fa (by decide)
    obtain ⟨X', q1, q2, q3⟩ := ih (h + 1) m (a + zH_cm S0 h (zN S0 2) 0 S) Xb _ (zH_step h0 (by omega) q) (hC.cg (fun a ha => fb a (zR0_low ha))) Lb (by omega) (by omega)
    refine ⟨X', ?_, q2, fun a ha => by rw [q3 a ha, fb a ha]⟩
    show fn_Post_hours_B54 (fn_Post_hours_L54 m) _ _ _ _ = _
    unfold fn_Post_hours_B54
    rw [if_neg (nI_ge (a := h) (by omega) (by omega)), e1', zr_b2, zr_nx, zr_nx, zr_nx, x8, nI_1, nI_1, nI_add, ← hXb, q1, Nat.add_assoc]
    rfl
theorem zl_hours_M {S0 : Nat → Int32} (h0 : zI_WF S0) {N : Nat} (hN : N ≤ 48) (h9 : zN S0 0 + N ≤ 9999) (had : Int32) : ∀ (d h n : Nat) (X : IX) (S : Nat → Int32), zH_Q S0 h 0 S → X 96 = S → h + d = N → d < n → ∃ X', fn_Mod_hours_L47 n (nI N) had (nI h) X = some (nI (zS_lh (zH_all S0 d h S) (zN S0 3) (zN S0 2) 0) - had, X') ∧ X' 96 = zH_all S0 d h S ∧ zU X X' := by
  have n2 := zW_2 h0
  have w3 := zW_3 h0
  intro d
  induction d with
  | zero =>
    intro h n X S q e hd hn
    obtain ⟨m, rfl⟩ : ∃ m, n = m + 1 := ⟨n - 1, by omega⟩
    have l : fn_Mod_lettersHome_L4 X 400 (nI 0) (nI 0) = _ := zm_lh e (M := zN S0 2) (by rw [q.2.2.2.1]; exact n2.1) n2.2 (hm := zN S0 3) (by rw [q.1.2.1]; exact w3.1) w3.2 q.2.2.2.2.1 (zN S0 2) 0 400 0 (by omega) (by omega)
    rw [nI_0, Nat.zero_add] at l
    have l' : fn_Mod_lettersHome X = _ := l
    refine ⟨X, ?_, e, zU.rf X⟩
    show fn_Mod_hours_B47 _ _ _ _ _ = _
    unfold fn_Mod_hours_B47
    rw [if_pos ((nI_leI (by omega) (by omega)).mpr (by omega)), l', zr_b1]
    rfl
  | succ d ih =>
    intro h n X S q e hd hn
    obtain ⟨m, rfl⟩ : ∃ m, n = m + 1 := ⟨n - 1, by omega⟩
    obtain ⟨Xa, e1, e2, e3⟩ := zm_hour h0 (show h < 100 by omega) (by omega) (zN S0 2) 0 400 X S q e (by omega) (by omega)
    rw [nI_0] at e1
    have e1' : fn_Mod_hour X = some Xa := e1
    obtain ⟨X', q1, q2, q3⟩ := ih (h + 1) m Xa _ (zH_step h0 (by omega) q) e2 (by omega) (by omega)
    refine ⟨X', ?_, q2, e3.tr q3⟩
    show fn_Mod_hours_B47 (fn_Mod_hours_L47 m) _ _ _ _ = _
    unfold fn_Mod_hours_B47
    rw [if_neg (nI_ge (a := h) (by omega) (by omega)), e1', zr_b1, zr_nx, nI_1]
    exact q1
theorem st_hours {X : IX} {Y : LX} (hI : zI_INV X) (a1 : Int32) : ∃ (v : Int32) (X1 : IX) (X2 : IX), fn_Post_hours a1 X = some (v, X1) ∧ fn_Mod_hours a1 X1 = some (v, X2) ∧ zI_INV X2 := by
  have n10 : ((1 : Int32) = 0) = False := by decide
  obtain ⟨X1, X2, e1, e2, e3, e4⟩ := zI_both2 hI (f := -1000001) 0 (by decide) (by decide)
  obtain ⟨X1s, X2s, s1, s2, s3, s4⟩ := zI_both2 hI (f := -1000005) 4 (by decide) (by decide)
  rcases (Bool.eq_false_or_eq_true (zw 1 a1 48)).symm with hg | hg
  · refine ⟨-1000001, X1, X2, ?_, ?_, e3⟩
    · unfold fn_Post_hours
      rw [ze_isWithin, hg, zr_b1, zt_f, if_pos rfl, e1, zr_b2]
    · unfold fn_Mod_hours
      rw [ze_inN a1 1 48 1 48 rfl rfl, hg, zr_b1, zt_f, if_pos rfl, e2, zr_b2]
  obtain ⟨N, hN1, hN, rfl⟩ := zw_1n (m := 48) (by decide) hg
  have hW := hI.1.2
  have n0 := zW_0 hW
  have n2 := zW_2 hW
  have w3 := zW_3 hW
  have x8 : X 20 8 = nI (zN (X 96) 0) := by rw [(zL_h (r := 20) rfl hI.1.1).1]; exact n0.1
  have c1 : nI (zN (X 96) 0) + nI N ≤ (9999 : Int32) ↔ zN (X 96) 0 + N ≤ 9999 := by
    rw [nI_add]
    exact nI_leI (b := 9999) (by omega) (by omega)
  by_cases q : zN (X 96) 0 + N ≤ 9999
  · obtain ⟨Xl, l1, l2, l3⟩ := zC_lay rfl hI.1.1 hW
    have Ll : zI_LI Xl 0 (X 96) := zI_LI.cg (fun a ha => l3 a (by omega)) hI.1.1
    have Q0 : zH_Q (X 96) 0 0 (X 96) := ⟨⟨rfl, rfl, rfl, fun _ _ => rfl, fun _ _ _ _ => rfl⟩, fun _ _ => rfl, by rw [Nat.add_zero]; exact n0.1, rfl, fun j hj => hW.2.2.2.2.2.2.2.1 j hj, fun t ht => (hW.2.2.2.2.2.2.1 t ht).2.2.2.2.2.2.2.2.mono (by omega), fun _ _ => rfl⟩
    obtain ⟨Xa, p1, p2, p3⟩ := zl_hours_P hW hN N 0 400 0 Xl (X 96) Q0 l2 Ll (by omega) (by omega)
    rw [nI_0, Nat.zero_add] at p1
    have a96 : Xa 96 = X 96 := by rw [p3 96 (by decide)]; exact l3 96 (by omega)
    have lh : fn_Mod_lettersHome_L4 Xa 400 (nI 0) (nI 0) = _ := zm_lh a96 (M := zN (X 96) 2) n2.1 n2.2 (hm := zN (X 96) 3) w3.1 w3.2 (fun j hj => hW.2.2.2.2.2.2.2.1 j hj) (zN (X 96) 2) 0 400 0 (by omega) (by omega)
    rw [nI_0, Nat.zero_add] at lh
    have lh' : fn_Mod_lettersHome Xa = _ := lh
    obtain ⟨Xb, m1, m2, m3⟩ := zl_hours_M hW hN q (nI (zS_lh (X 96) (zN (X 96) 3) (zN (X 96) 2) 0)) N 0 400 Xa (X 96) Q0 a96 (by omega) (by omega)
    have tot := zH_total hW N 0 (X 96) (by omega) Q0
    rw [nI_0, tot.1, pk_sub (by omega), Nat.add_sub_cancel_left] at m1
    rw [Nat.zero_add] at tot
    refine ⟨nI (zH_ct (X 96) N 0 (X 96)), Xa, Xb, ?_, ?_, ?_⟩
    · unfold fn_Post_hours
      rw [ze_isWithin, hg, zr_b1, zt_t, if_neg (by decide), x8, if_pos (c1.mpr q), l1, zr_b1, p1]
    · unfold fn_Mod_hours
      rw [ze_inN (nI N) 1 48 1 48 rfl rfl, hg, zr_b1, zt_t, if_neg (by decide), a96, n0.1, if_pos (c1.mpr q), lh', zr_b1, m1]
    · refine hI.land (S' := zH_all (X 96) N 0 (X 96)) (fun i hi => ?_) m2 (tot.2.wf0 hW q) (fun a h1 h2 j hj => ?_)
      · have w := zI_prF i hi 0
        have w1 : zI_pr 0 i ≠ 98 ∧ zI_pr 0 i ≠ 95 := by
          have key : ∀ i : Fin 142, zI_pr 0 i.val ≠ 98 ∧ zI_pr 0 i.val ≠ 95 := by decide +kernel
          exact key ⟨i, hi⟩
        rw [m3 _ _ w.2.2.2.2 w1.1 (Or.inl w1.2)]
        exact p2 i hi
      · by_cases a98 : a = 98
        · subst a98; cases hj
        · have low : a < 1 ∨ 5 < a := by
            unfold zI_imp at hj
            simp only [Bool.or_eq_true, Bool.and_eq_true, beq_iff_eq, decide_eq_true_eq] at hj
            omega
          rw [m3 a j h2 a98 (by
            unfold zI_imp at hj
            simp only [Bool.or_eq_true, Bool.and_eq_true, beq_iff_eq, decide_eq_true_eq] at hj
            omega), p3 a h1, l3 a low]
  · refine ⟨-1000005, X1s, X2s, ?_, ?_, s3⟩
    · unfold fn_Post_hours
      rw [ze_isWithin, hg, zr_b1, zt_t, if_neg (by decide), x8, if_neg (fun z => q (c1.mp z)), s1, zr_b2]
    · unfold fn_Mod_hours
      rw [ze_inN (nI N) 1 48 1 48 rfl rfl, hg, zr_b1, zt_t, if_neg (by decide), s4 96 (by decide), n0.1, if_neg (fun z => q (c1.mp z)), s2, zr_b2]
