/-! what a letter is worth -/
def zW_v (w : Nat → Int64) (r : Nat × Nat × Nat) : Int64 := w r.1 * (nI r.2.2).toInt64 + w r.2.1 * ((12 : Int32) - nI r.2.2).toInt64
def zW_s (S : Nat → Int32) (hh : Nat) (w : Nat → Int64) (c : Nat) : Int64 := if zW_v w (zS_rw S c (zg_night (zN S 0 + hh)) 1) < zW_v w (zS_rw S c (zg_night (zN S 0 + hh)) 0) then zW_v w (zS_rw S c (zg_night (zN S 0 + hh)) 0) else zW_v w (zS_rw S c (zg_night (zN S 0 + hh)) 1)
def zWl (S : Nat → Int32) (b : Nat) : Nat → (Nat → Int64) → (Nat → Int64)
  | 0, w => w
  | d + 1, w => zWl S b d (zW_s S (b + d) w)
def zW_o (home j : Nat) : Int64 := if j = home then 1 else 0
theorem zC_worth {X : IX} {S : Nat → Int32} (hC : zC_laid X S) (h : zI_WF S) {Y : LX} {w : Nat → Int64} (hw : ∀ j, j < 24 → Y 6 j = w j) {c far : Nat} {ng : Bool} (hc : c < 24) (hf : far < 2) : fn_Chart_worth X Y (nI (zS_ix ng far c)) = some (zW_v w (zS_rw S c ng far)) := by
  have rd := (hC.2.2.2 c hc).2 ng far hf
  have b := zS_rw_b h (far := far) (ng := ng) hc
  have ixb := zS_ix_b (ng := ng) hf hc
  unfold fn_Chart_worth
  rw [zn_ib ixb.1 (by decide), zr_gd, zn_cl (by omega), rd.1, rd.2.1, rd.2.2, zn_ib b.1 (by decide), zr_gd, zr_gd, zr_gd, zn_ib b.2.1 (by decide), zr_gd, zr_gd, zn_cl (show (zS_rw S c ng far).1 < 2 ^ 31 by omega), zn_cl (show (zS_rw S c ng far).2.1 < 2 ^ 31 by omega), hw _ b.1, hw _ b.2.1]
  rfl
theorem zm_worth {X : IX} {S : Nat → Int32} (e : X 96 = S) (h : zI_WF S) {Y : LX} {w : Nat → Int64} (hw : ∀ j, j < 24 → Y 102 j = w j) {c far k : Nat} (hc : c < 24) (hk : k < 24) (hf : far < 2) : ∃ X', fn_Mod_worthBy Y (nI c) (nI k) (nI far) X = some (zW_v w (zS_rw S c (zg_night k) far), X') ∧ zV X X' := by
  obtain ⟨X', e1, e2, e3⟩ := zm_goes e h hc hk hf (a3 := nI far) (Or.inl rfl)
  have b := zS_rw_b h (far := far) (ng := zg_night k) hc
  refine ⟨X', ?_, e3⟩
  unfold fn_Mod_worthBy
  rw [e1, zr_b1, e2.1, e2.2.1, e2.2.2.1, zn_ib b.1 (by decide), zr_gd, zn_ib b.2.1 (by decide), zr_gd, zn_cl (show (zS_rw S c (zg_night k) far).1 < 2 ^ 31 by omega), zn_cl (show (zS_rw S c (zg_night k) far).2.1 < 2 ^ 31 by omega), hw _ b.1, hw _ b.2.1]
  unfold zW_v
  rw [Int64.mul_comm (w _), Int64.mul_comm (w _)]
theorem zC_wi {X : IX} {S : Nat → Int32} (hC : zC_laid X S) (h : zI_WF S) {hh : Nat} (hb : hh < 100) (bg : Int32) (k22 : Int32 → Int32 → LX → Option LX) {w : Nat → Int64} : ∀ (d c n : Nat) (Y : LX), c + d = 24 → d < n → (∀ j, j < 24 → Y 6 j = w j) → (∀ j, j < c → Y 7 j = zW_s S hh w j) → ∃ Y', fn_Chart_weigh_L30 X k22 n bg (nI hh) (nI c) Y = k22 bg (nI hh + (-1 : Int32)) Y' ∧ ∀ j, j < 24 → Y' 6 j = zW_s S hh w j := by
  intro d
  induction d with
  | zero =>
    intro c n Y hc hd y6 y7
    obtain ⟨m, rfl⟩ : ∃ m, n = m + 1 := ⟨n - 1, by omega⟩
    obtain rfl : c = 24 := by omega
    refine ⟨zu_upl Y 6 (va_cpy (Y 7) (Y 6) 0 0 24), ?_, fun j hj => ?_⟩
    · show fn_Chart_weigh_B30 _ _ _ _ _ _ _ = _
      unfold fn_Chart_weigh_B30
      rw [if_pos (by decide), zr_nx, zr_nx]
    · unfold zu_upl
      rw [if_pos rfl, pk_cpy_in (by omega) (by omega), show 0 + (j - 0) = j by omega]
      exact y7 j hj
  | succ d ih =>
    intro c n Y hc hd y6 y7
    obtain ⟨m, rfl⟩ : ∃ m, n = m + 1 := ⟨n - 1, by omega⟩
    have hc' : c < 24 := by omega
    have r0 : fn_Chart_row X (nI c) (nI hh) (0 : Int32) = _ := zC_row hC h (c := c) (far := 0) hc' hb (by omega)
    have r1 : fn_Chart_row X (nI c) (nI hh) (1 : Int32) = _ := zC_row hC h (c := c) (far := 1) hc' hb (by omega)
    obtain ⟨Y', q1, q2⟩ := ih (c + 1) m (zu_stl Y 7 c (zW_s S hh w c)) (by omega) (by omega) (fun j hj => by rw [zs_stl, if_neg (by omega)]; exact y6 j hj) (fun j hj => by
      rw [zs_stl]
      by_cases q : j = c
      · rw [if_pos ⟨rfl, q⟩, q]
      · rw [if_neg (fun z => q z.2)]; exact y7 j (by omega))
    refine ⟨Y', ?_, q2⟩
    rw [← q1]
    show fn_Chart_weigh_B30 X k22 (fn_Chart_weigh_L30 X k22 m) _ _ _ _ = _
    unfold fn_Chart_weigh_B30
    rw [if_neg (show ¬ (24 : Int32) ≤ nI c from nI_ge (a := c) (b := 24) (by omega) (by omega)), r0, zr_b1, zC_worth hC h y6 hc' (by omega), zr_b1, r1, zr_b1, zC_worth hC h y6 hc' (by omega), zr_b1, zr_nx, zn_ib hc' (by decide), zr_gd, zr_nx, zr_nx, nI_1, zn_cl (by omega)]
    rfl
theorem zb_dn {b : Nat} (hb : b ≤ 1) : nI b - 1 < nI b := by
  rcases (show b = 0 ∨ b = 1 by omega) with rfl | rfl
  · decide
  · decide
theorem zC_wo {X : IX} {S : Nat → Int32} (hC : zC_laid X S) (h : zI_WF S) {b : Nat} (hb : b ≤ 1) : ∀ (d n : Nat) (w : Nat → Int64) (Y : LX), d ≤ 15 → d < n → (∀ j, j < 24 → Y 6 j = w j) → ∃ Y', fn_Chart_weigh_L22 X n (nI b) (nI (b + d) - 1) Y = some Y' ∧ ∀ j, j < 24 → Y' 6 j = zWl S b d w j := by
  intro d
  induction d with
  | zero =>
    intro n w Y _ hd y6
    obtain ⟨m, rfl⟩ : ∃ m, n = m + 1 := ⟨n - 1, by omega⟩
    refine ⟨Y, ?_, y6⟩
    show fn_Chart_weigh_B22 _ _ _ _ _ = _
    unfold fn_Chart_weigh_B22
    rw [Nat.add_zero, if_pos (zb_dn hb)]
  | succ d ih =>
    intro n w Y h15 hd y6
    obtain ⟨m, rfl⟩ : ∃ m, n = m + 1 := ⟨n - 1, by omega⟩
    obtain ⟨Ya, e1, e2⟩ := zC_wi hC h (show b + d < 100 by omega) (nI b) (fn_Chart_weigh_L22 X m) (w := w) 24 0 400 Y (by omega) (by omega) y6 (fun j hj => absurd hj (by omega))
    obtain ⟨Y', q1, q2⟩ := ih m (zW_s S (b + d) w) Ya (by omega) (by omega) e2
    refine ⟨Y', ?_, q2⟩
    show fn_Chart_weigh_B22 X (fn_Chart_weigh_L22 X m) _ _ _ = _
    unfold fn_Chart_weigh_B22
    rw [show b + (d + 1) = b + d + 1 by omega, nI_pred, if_neg (nI_nlt (by omega) (by omega))]
    rw [nI_0] at e1
    rw [e1, ← q1, Int32.sub_eq_add_neg]
theorem zC_weigh {X : IX} {S : Nat → Int32} (hC : zC_laid X S) (h : zI_WF S) {b N : Nat} (hb : b ≤ 1) (hN : b + N ≤ 15) (Y : LX) : ∃ Y', fn_Chart_weigh X (nI b) (nI (b + N)) Y = some Y' ∧ ∀ j, j < 24 → Y' 6 j = zWl S b N (zW_o (zN S 3)) j := by
  have w3 := zW_3 h
  obtain ⟨Ya, ea, fa1, fa2⟩ := ze_fillJ 6 0 Y
  obtain ⟨Y', q1, q2⟩ := zC_wo hC h hb N 400 (zW_o (zN S 3)) (zu_stl Ya 6 (zN S 3) 1) (by omega) (by omega) (fun j hj => by
    rw [zs_stl]
    unfold zW_o
    by_cases q : j = zN S 3
    · rw [if_pos ⟨rfl, q⟩, if_pos q]
    · rw [if_neg (fun z => q z.2), if_neg q]; exact fa1 j hj)
  refine ⟨Y', ?_, q2⟩
  unfold fn_Chart_weigh
  rw [ea, zr_b1, hC.2.2.1, zn_ib (show zN S 3 < 24 by omega) (by decide), zr_gd, zr_nx, zr_nx, zn_cl (by omega)]
  exact q1
/-! in the reference -/
theorem zm_wc (k39 : Int32 → Int32 → IX → LX → Option (IX × LX)) (bg hh : Int32) (X : IX) : ∀ (d c n : Nat) (Y : LX), c + d = 24 → d < n → ∃ Y', fn_Mod_findWorth_L113 k39 n bg hh (nI c) X Y = k39 bg (hh + (-1 : Int32)) X Y' ∧ (∀ j, c ≤ j → j < 24 → Y' 102 j = Y 101 j) ∧ ∀ j, j < c → Y' 102 j = Y 102 j := by
  intro d
  induction d with
  | zero =>
    intro c n Y hc hd
    obtain ⟨m, rfl⟩ : ∃ m, n = m + 1 := ⟨n - 1, by omega⟩
    obtain rfl : c = 24 := by omega
    refine ⟨Y, ?_, fun j h1 h2 => absurd h2 (by omega), fun _ _ => rfl⟩
    show fn_Mod_findWorth_B113 _ _ _ _ _ _ _ = _
    unfold fn_Mod_findWorth_B113
    rw [if_pos (by decide), zr_nx]
  | succ d ih =>
    intro c n Y hc hd
    obtain ⟨m, rfl⟩ : ∃ m, n = m + 1 := ⟨n - 1, by omega⟩
    obtain ⟨Y', e, p1, p2⟩ := ih (c + 1) m (zu_stl Y 102 c (Y 101 c)) (by omega) (by omega)
    refine ⟨Y', ?_, ?_, ?_⟩
    · show fn_Mod_findWorth_B113 k39 (fn_Mod_findWorth_L113 k39 m) _ _ _ _ _ = _
      unfold fn_Mod_findWorth_B113
      rw [if_neg (show ¬ (24 : Int32) ≤ nI c from nI_ge (a := c) (b := 24) (by omega) (by omega)), zn_ib (show c < 24 by omega) (by decide), zr_gd, zr_gd, zr_nx, zr_nx, nI_1, zn_cl (by omega)]
      exact e
    · intro j h1 h2
      by_cases q : j = c
      · subst q
        rw [p2 j (by omega), zs_stl, if_pos ⟨rfl, rfl⟩]
      · rw [p1 j (by omega) h2, zs_stl, if_neg (by omega)]
    · intro j h1
      rw [p2 j (by omega), zs_stl, if_neg (by omega)]
theorem zm_wi {S : Nat → Int32} (h : zI_WF S) {hh : Nat} (hb : hh < 100) (bg : Int32) (k39 : Int32 → Int32 → IX → LX → Option (IX × LX)) {w : Nat → Int64} : ∀ (d c n : Nat) (X : IX) (Y : LX), X 96 = S → c + d = 24 → d < n → (∀ j, j < 24 → Y 102 j = w j) → (∀ j, j < c → Y 101 j = zW_s S hh w j) → ∃ X' Y', fn_Mod_findWorth_L47 k39 n bg (nI hh) (nI c) X Y = k39 bg (nI hh + (-1 : Int32)) X' Y' ∧ zV X X' ∧ ∀ j, j < 24 → Y' 102 j = zW_s S hh w j := by
  intro d
  induction d with
  | zero =>
    intro c n X Y e hc hd y6 y7
    obtain ⟨m, rfl⟩ : ∃ m, n = m + 1 := ⟨n - 1, by omega⟩
    obtain rfl : c = 24 := by omega
    obtain ⟨Y', q1, q2, _⟩ := zm_wc k39 bg (nI hh) X 24 0 400 Y (by omega) (by omega)
    refine ⟨X, Y', ?_, zV.rf X, fun j hj => by rw [q2 j (by omega) hj]; exact y7 j hj⟩
    show fn_Mod_findWorth_B47 _ _ _ _ _ _ _ = _
    unfold fn_Mod_findWorth_B47
    rw [if_pos (by decide)]
    rw [nI_0] at q1
    exact q1
  | succ d ih =>
    intro c n X Y e hc hd y6 y7
    obtain ⟨m, rfl⟩ : ∃ m, n = m + 1 := ⟨n - 1, by omega⟩
    have hc' : c < 24 := by omega
    have hk : (zN S 0 + hh) % 24 < 24 := Nat.mod_lt _ (by omega)
    obtain ⟨X2, a1, a2⟩ := zm_worth e h y6 (c := c) (far := 0) hc' hk (by omega)
    have e2 : X2 96 = S := by rw [a2.row (by decide)]; exact e
    obtain ⟨X3, b1, b2⟩ := zm_worth e2 h y6 (c := c) (far := 1) hc' hk (by omega)
    have e3 : X3 96 = S := by rw [b2.row (by decide)]; exact e2
    rw [zg_night_mod, nI_0] at a1
    rw [zg_night_mod, show nI 1 = (1 : Int32) from rfl] at b1
    obtain ⟨X', Y', q1, q2, q3⟩ := ih (c + 1) m X3 (zu_stl Y 101 c (zW_s S hh w c)) e3 (by omega) (by omega) (fun j hj => by rw [zs_stl, if_neg (by omega)]; exact y6 j hj) (fun j hj => by
      rw [zs_stl]
      by_cases q : j = c
      · rw [if_pos ⟨rfl, q⟩, q]
      · rw [if_neg (fun z => q z.2)]; exact y7 j (by omega))
    refine ⟨X', Y', ?_, (a2.tr b2).tr q2, q3⟩
    rw [← q1]
    show fn_Mod_findWorth_B47 k39 (fn_Mod_findWorth_L47 k39 m) _ _ _ _ _ = _
    unfold fn_Mod_findWorth_B47 fn_Mod_findWorth_L103
    rw [if_neg (show ¬ (24 : Int32) ≤ nI c from nI_ge (a := c) (b := 24) (by omega) (by omega)), zr_nx, zm_clock e h hb, a1, zr_b2, zr_nx, zm_clock e2 h hb, b1, zr_b2, zn_ib hc' (by decide), zr_gd, zr_gd, zr_nx, zr_nx, zr_nx, nI_1, zn_cl (by omega)]
    have c1 := zm_cmp_ge (zW_v w (zS_rw S c (zg_night (zN S 0 + hh)) 0)) (zW_v w (zS_rw S c (zg_night (zN S 0 + hh)) 1))
    unfold zW_s
    by_cases q : zW_v w (zS_rw S c (zg_night (zN S 0 + hh)) 1) < zW_v w (zS_rw S c (zg_night (zN S 0 + hh)) 0)
    · rw [if_pos q, if_pos (c1.mpr (by rw [Int64.lt_iff_toInt_lt] at q; rw [Int64.le_iff_toInt_le]; omega))]
    · rw [if_neg q]
      by_cases q2 : 0 ≤ lg_cmp (zW_v w (zS_rw S c (zg_night (zN S 0 + hh)) 0)) (zW_v w (zS_rw S c (zg_night (zN S 0 + hh)) 1))
      · rw [if_pos q2]
        have q3 := c1.mp q2
        have : zW_v w (zS_rw S c (zg_night (zN S 0 + hh)) 0) = zW_v w (zS_rw S c (zg_night (zN S 0 + hh)) 1) := by
          rw [Int64.lt_iff_toInt_lt] at q
          rw [Int64.le_iff_toInt_le] at q3
          rw [← Int64.toInt_inj]
          omega
        rw [this]
      · rw [if_neg q2, zr_nx]
theorem zm_wo {S : Nat → Int32} (h : zI_WF S) {b : Nat} (hb : b ≤ 1) : ∀ (d n : Nat) (w : Nat → Int64) (X : IX) (Y : LX), X 96 = S → d ≤ 15 → d < n → (∀ j, j < 24 → Y 102 j = w j) → ∃ X' Y', fn_Mod_findWorth_L39 n (nI b) (nI (b + d) - 1) X Y = some (X', Y') ∧ zV X X' ∧ ∀ j, j < 24 → Y' 102 j = zWl S b d w j := by
  intro d
  induction d with
  | zero =>
    intro n w X Y e _ hd y6
    obtain ⟨m, rfl⟩ : ∃ m, n = m + 1 := ⟨n - 1, by omega⟩
    refine ⟨X, Y, ?_, zV.rf X, y6⟩
    show fn_Mod_findWorth_B39 _ _ _ _ _ = _
    unfold fn_Mod_findWorth_B39
    rw [Nat.add_zero, if_pos (zb_dn hb)]
  | succ d ih =>
    intro n w X Y e h15 hd y6
    obtain ⟨m, rfl⟩ : ∃ m, n = m + 1 := ⟨n - 1, by omega⟩
    obtain ⟨Xa, Ya, e1, v1, e2⟩ := zm_wi h (show b + d < 100 by omega) (nI b) (fn_Mod_findWorth_L39 m) (w := w) 24 0 400 X Y e (by omega) (by omega) y6 (fun j hj => absurd hj (by omega))
    obtain ⟨X', Y', q1, q2, q3⟩ := ih m (zW_s S (b + d) w) Xa Ya (by rw [v1.row (by decide)]; exact e) (by omega) (by omega) e2
    refine ⟨X', Y', ?_, v1.tr q2, q3⟩
    show fn_Mod_findWorth_B39 (fn_Mod_findWorth_L39 m) _ _ _ _ = _
    unfold fn_Mod_findWorth_B39
    rw [show b + (d + 1) = b + d + 1 by omega, nI_pred, if_neg (nI_nlt (by omega) (by omega))]
    rw [nI_0] at e1
    rw [e1, ← q1, Int32.sub_eq_add_neg]
theorem zm_wini {S : Nat → Int32} (h : zI_WF S) {b N : Nat} (hb : b ≤ 1) (hN : b + N ≤ 15) : ∀ (d i n : Nat) (X : IX) (Y : LX), X 96 = S → i + d = 24 → d < n → (∀ j, j < i → Y 102 j = zW_o (zN S 3) j) → ∃ X' Y', fn_Mod_findWorth_L2 n (nI b) (nI (b + N)) (nI i) X Y = some (X', Y') ∧ zV X X' ∧ ∀ j, j < 24 → Y' 102 j = zWl S b N (zW_o (zN S 3)) j := by
  have w3 := zW_3 h
  intro d
  induction d with
  | zero =>
    intro i n X Y e hi hd y6
    obtain ⟨m, rfl⟩ : ∃ m, n = m + 1 := ⟨n - 1, by omega⟩
    obtain rfl : i = 24 := by omega
    obtain ⟨X', Y', e', v', f'⟩ := zm_wo h hb N 400 (zW_o (zN S 3)) X Y e (by omega) (by omega) y6
    refine ⟨X', Y', ?_, v', f'⟩
    show fn_Mod_findWorth_B2 _ _ _ _ _ _ = _
    unfold fn_Mod_findWorth_B2
    rw [if_pos (by decide), zr_nx]
    exact e'
  | succ d ih =>
    intro i n X Y e hi hd y6
    obtain ⟨m, rfl⟩ : ∃ m, n = m + 1 := ⟨n - 1, by omega⟩
    have t3 : X 96 3 = nI (zN S 3) := by rw [e]; exact w3.1
    obtain ⟨X', Y', e', v', f'⟩ := ih (i + 1) m X (zu_stl Y 102 i (zW_o (zN S 3) i)) e (by omega) (by omega) (fun j hj => by
      rw [zs_stl]
      by_cases q : j = i
      · rw [if_pos ⟨rfl, q⟩, q]
      · rw [if_neg (fun z => q z.2)]; exact y6 j (by omega))
    refine ⟨X', Y', ?_, v', f'⟩
    rw [← e']
    show fn_Mod_findWorth_B2 (fn_Mod_findWorth_L2 m) _ _ _ _ _ = _
    unfold fn_Mod_findWorth_B2 fn_Mod_findWorth_L28
    have c1 : nI i = nI (zN S 3) ↔ i = zN S 3 := nI_eq (by omega) (by omega)
    rw [if_neg (show ¬ (24 : Int32) ≤ nI i from nI_ge (a := i) (b := 24) (by omega) (by omega)), t3, zn_ib (show i < 24 by omega) (by decide), zr_gd, zr_gd, zr_nx, zr_nx, zr_nx, nI_1, zn_cl (by omega)]
    unfold zW_o
    by_cases q : i = zN S 3
    · rw [if_pos (c1.mpr q), if_pos q]
    · rw [if_neg (fun z => q (c1.mp z)), if_neg q, zr_nx]
theorem zm_wfind {X : IX} {S : Nat → Int32} (e : X 96 = S) (h : zI_WF S) {b N : Nat} (hb : b ≤ 1) (hN : b + N ≤ 15) (Y : LX) : ∃ X' Y', fn_Mod_findWorth (nI b) (nI (b + N)) X Y = some (X', Y') ∧ zV X X' ∧ ∀ j, j < 24 → Y' 102 j = zWl S b N (zW_o (zN S 3)) j := by
  obtain ⟨X', Y', q1, q2⟩ := zm_wini h hb hN 24 0 400 X Y e (by omega) (by omega) (fun j hj => absurd hj (by omega))
  rw [nI_0] at q1
  exact ⟨X', Y', q1, q2⟩
theorem st_best {X : IX} {Y : LX} (hI : zI_INV X) (a1 : Int32) (a2 : Int32) : ∃ (v : Int64) (X1 : IX) (Y1 : LX) (X2 : IX) (Y2 : LX), fn_Post_best a1 a2 X Y = some (v, X1, Y1) ∧ fn_Mod_best a1 a2 X1 Y1 = some (v, X2, Y2) ∧ zI_INV X2 := by
  have n10 : ((1 : Int32) = 0) = False := by decide
  obtain ⟨X1, X2, e1, e2, e3, e4⟩ := zI_both2 hI (f := -1000001) 0 (by decide) (by decide)
  rcases (Bool.eq_false_or_eq_true (zw 0 a1 23 && zw 0 a2 15)).symm with hg | hg
  · refine ⟨(-1000001 : Int32).toInt64, X1, Y, X2, Y, ?_, ?_, e3⟩
    · cases h1 : zw 0 a1 23 <;> cases h2 : zw 0 a2 15 <;> first
        | exact absurd hg (by rw [h1, h2]; decide)
        | simp only [fn_Post_best, fn_Post_best_L17, ze_isCell, ze_isWithin, h1, h2, zr_b1, zr_b2, zr_nx, zt_f, zt_t, e1, n10, Bool.and_true, Bool.and_false, Bool.true_and, Bool.false_and, ↓reduceIte]
    · cases h1 : zw 0 a1 23 <;> cases h2 : zw 0 a2 15 <;> first
        | exact absurd hg (by rw [h1, h2]; decide)
        | simp only [fn_Mod_best, ze_odds, h1, h2, zr_b1, zr_b2, zr_nx, zt_f, zt_t, e2, n10, Bool.and_true, Bool.and_false, Bool.true_and, Bool.false_and, ↓reduceIte]
  simp only [Bool.and_eq_true] at hg
  obtain ⟨h1, h2⟩ := hg
  obtain ⟨c, hc, rfl⟩ := zw_n (m := 23) (by decide) h1
  obtain ⟨N, hN, rfl⟩ := zw_n (m := 15) (by decide) h2
  have hW := hI.1.2
  obtain ⟨Xa, l1, l2, l3⟩ := zC_lay rfl hI.1.1 hW
  obtain ⟨Ya, y1, y2⟩ := zC_weigh l2 hW (b := 0) (N := N) (by omega) (by omega) Y
  rw [Nat.zero_add, nI_0] at y1
  have hIa := hI.keep (zI_keep.lay l3)
  have e96 : Xa 96 = X 96 := l3 96 (by omega)
  obtain ⟨Xb, Yb, m1, m2, m3⟩ := zm_wfind e96 hW (b := 0) (N := N) (by omega) (by omega) Ya
  rw [Nat.zero_add, nI_0] at m1
  obtain ⟨f, hf⟩ : ∃ f : Nat → Int64, f = zWl (X 96) 0 N (zW_o (zN (X 96) 3)) := ⟨_, rfl⟩
  rw [← hf] at y2 m3
  refine ⟨f c, Xa, Ya, Xb, Yb, ?_, ?_, hIa.keep m2.keep⟩
  · simp only [fn_Post_best, ze_isCell, ze_isWithin, h1, h2, zr_b1, zt_t, n10, ↓reduceIte, l1, y1, zn_ib (show c < 24 by omega) (show 24 < 2 ^ 31 by decide), zr_gd, zn_cl (show c < 2 ^ 31 by omega), y2 c (by omega)]
  · simp only [fn_Mod_best, ze_odds, h1, h2, Bool.and_true, zr_b1, zr_b2, zt_t, n10, ↓reduceIte, m1, zn_ib (show c < 24 by omega) (show 24 < 2 ^ 31 by decide), zr_gd, zn_cl (show c < 2 ^ 31 by omega), m3 c (by omega)]
theorem st_choose {X : IX} {Y : LX} (hI : zI_INV X) (a1 : Int32) (a2 : Int32) : ∃ (v : Int32) (X1 : IX) (Y1 : LX) (X2 : IX) (Y2 : LX), fn_Post_choose a1 a2 X Y = some (v, X1, Y1) ∧ fn_Mod_choose a1 a2 X1 Y1 = some (v, X2, Y2) ∧ zI_INV X2 := by
  have n10 : ((1 : Int32) = 0) = False := by decide
  obtain ⟨X1, X2, e1, e2, e3, e4⟩ := zI_both2 hI (f := -1000001) 0 (by decide) (by decide)
  obtain ⟨X1s, X2s, s1, s2, s3, s4⟩ := zI_both2 hI (f := -1000005) 4 (by decide) (by decide)
  obtain ⟨n1, hn⟩ := zI_1 hI
  obtain ⟨n, en⟩ : ∃ n, n = zN (X 96) 1 := ⟨_, rfl⟩
  rw [← en] at n1 hn
  have t1 : X 20 4 = nI n := by rw [(zL_h rfl hI.1.1).2.1, n1]
  have m1 : X1 96 1 = nI n := by rw [e4 96 (by decide), n1]
  rcases (Bool.eq_false_or_eq_true (zh n a1 && zw 1 a2 15)).symm with hg | hg
  · refine ⟨-1000001, X1, Y, X2, Y, ?_, ?_, e3⟩
    · cases h1 : zh n a1 <;> cases h2 : zw 1 a2 15 <;> first
        | exact absurd hg (by rw [h1, h2]; decide)
        | simp only [fn_Post_choose, fn_Post_choose_L18, ze_isThrower t1 hn, ze_isWithin, h1, h2, zr_b1, zr_b2, zr_nx, zt_f, zt_t, e1, n10, Bool.and_true, Bool.and_false, Bool.true_and, Bool.false_and, ↓reduceIte]
    · cases h1 : zh n a1 <;> cases h2 : zw 1 a2 15 <;> first
        | exact absurd hg (by rw [h1, h2]; decide)
        | simp only [fn_Mod_choose, fn_Mod_choose_L20, ze_mThrower m1 hn, ze_inN a2 1 15 1 15 rfl rfl, h1, h2, zr_b1, zr_b2, zr_nx, zt_f, zt_t, e2, n10, Bool.and_true, Bool.and_false, Bool.true_and, Bool.false_and, ↓reduceIte]
  simp only [Bool.and_eq_true] at hg
  obtain ⟨h1, h2⟩ := hg
  obtain ⟨t, ht, rfl⟩ := zh_t (by omega) h1
  obtain ⟨N, hN1, hN, rfl⟩ := zw_1n (m := 15) (by decide) h2
  have hW := hI.1.2
  have tn : t < zN (X 96) 1 := by rw [← en]; exact ht
  have fa := zF_all hW tn
  have cc : zF (X 96) t 1 < 24 := by omega
  have p1 := zf_P (r := 20) rfl hI.1.1 hW tn (show 1 < 9 by omega)
  have pi := ze_ill (r := 20) rfl hI.1.1 hW tn
  have ps := ze_st (r := 20) rfl hI.1.1 hW cc
  have M1 : ∀ X' : IX, X' 96 = X 96 → fn_Mod_its X' (nI t) (1 : Int32) = some (nI (zF (X 96) t 1)) := fun X' e => zf_M e hW tn (f := 1) (by omega)
  have M7 : ∀ X' : IX, X' 96 = X 96 → fn_Mod_its X' (nI t) (7 : Int32) = some (nI (zF (X 96) t 7)) := fun X' e => zf_M e hW tn (f := 7) (by omega)
  have c7 : nI (zF (X 96) t 7) = (1 : Int32) ↔ zF (X 96) t 7 = 1 := nI_eq (b := 1) (by omega) (by omega)
  have s96 := s4 96 (by decide)
  have mmS : X1s 96 1 = nI n := by rw [s96]; exact n1
  by_cases il : zF (X 96) t 7 = 1
  · refine ⟨-1000005, X1s, Y, X2s, Y, ?_, ?_, s3⟩
    · simp only [fn_Post_choose, fn_Post_choose_L62, ze_isThrower t1 hn, ze_isWithin, h1, h2, zr_b1, zr_b2, zt_t, n10, ↓reduceIte, zn_ib (show t < 10 by omega) (show 10 < 2 ^ 31 by decide), zr_gd, zn_cl (show t < 2 ^ 31 by omega), zr_nx, pi, decide_eq_true il, s1]
    · simp only [fn_Mod_choose, fn_Mod_choose_L53, ze_mThrower mmS hn, ze_inN (nI N) 1 15 1 15 rfl rfl, h1, h2, zr_b1, zr_b2, zt_t, n10, ↓reduceIte, M1 X1s s96, M7 X1s s96, if_pos (c7.mpr il), s2]
  · cases hs : zS_st (X 96) (zF (X 96) t 1) with
    | true =>
      refine ⟨-1000005, X1s, Y, X2s, Y, ?_, ?_, s3⟩
      · simp only [fn_Post_choose, fn_Post_choose_L62, ze_isThrower t1 hn, ze_isWithin, h1, h2, zr_b1, zr_b2, zt_t, zt_f, n10, ↓reduceIte, zn_ib (show t < 10 by omega) (show 10 < 2 ^ 31 by decide), zr_gd, zn_cl (show t < 2 ^ 31 by omega), zr_nx, pi, decide_eq_false il, p1, ps, hs, s1]
      · simp only [fn_Mod_choose, fn_Mod_choose_L53, ze_mThrower mmS hn, ze_inN (nI N) 1 15 1 15 rfl rfl, h1, h2, zr_b1, zr_b2, zt_t, n10, ↓reduceIte, M1 X1s s96, M7 X1s s96, if_neg (fun z => il (c7.mp z)), zm_st s96 hW cc, hs, s2]
    | false =>
      obtain ⟨N', rfl⟩ : ∃ N', N = 1 + N' := ⟨N - 1, by omega⟩
      obtain ⟨Xa, l1, l2, l3⟩ := zC_lay rfl hI.1.1 hW
      obtain ⟨Ya, y1, y2⟩ := zC_weigh l2 hW (b := 1) (N := N') (by omega) (by omega) Y
      rw [show nI 1 = (1 : Int32) from rfl] at y1
      have hIa := hI.keep (zI_keep.lay l3)
      have e96 : Xa 96 = X 96 := l3 96 (by omega)
      obtain ⟨Xb, Yb, m1', m2, m3⟩ := zm_wfind e96 hW (b := 1) (N := N') (by omega) (by omega) Ya
      rw [show nI 1 = (1 : Int32) from rfl] at m1'
      obtain ⟨f, hf⟩ : ∃ f : Nat → Int64, f = zWl (X 96) 1 N' (zW_o (zN (X 96) 3)) := ⟨_, rfl⟩
      rw [← hf] at y2 m3
      have b96 : Xb 96 = X 96 := by rw [m2.row (by decide)]; exact e96
      have r0 : fn_Chart_row Xa (nI (zF (X 96) t 1)) (0 : Int32) (0 : Int32) = _ := zC_row l2 hW (hh := 0) (far := 0) cc (by omega) (by omega)
      have r1 : fn_Chart_row Xa (nI (zF (X 96) t 1)) (0 : Int32) (1 : Int32) = _ := zC_row l2 hW (hh := 0) (far := 1) cc (by omega) (by omega)
      have hk : (zN (X 96) 0 + 0) % 24 < 24 := Nat.mod_lt _ (by omega)
      obtain ⟨Xc, a1, a2⟩ := zm_worth b96 hW m3 (far := 0) cc hk (by omega)
      have d96 : Xc 96 = X 96 := by rw [a2.row (by decide)]; exact b96
      obtain ⟨Xd, b1, b2⟩ := zm_worth d96 hW m3 (far := 1) cc hk (by omega)
      rw [zg_night_mod, nI_0] at a1
      rw [zg_night_mod, show nI 1 = (1 : Int32) from rfl] at b1
      have ck : ∀ X' : IX, X' 96 = X 96 → fn_Mod_clockIn X' (0 : Int32) = nI ((zN (X 96) 0 + 0) % 24) := fun X' e => zm_clock (hh := 0) e hW (by omega)
      have mma : Xa 96 1 = nI n := by rw [e96]; exact n1
      obtain ⟨v0, hv0⟩ : ∃ v : Int64, v = zW_v f (zS_rw (X 96) (zF (X 96) t 1) (zg_night (zN (X 96) 0 + 0)) 0) := ⟨_, rfl⟩
      obtain ⟨v1, hv1⟩ : ∃ v : Int64, v = zW_v f (zS_rw (X 96) (zF (X 96) t 1) (zg_night (zN (X 96) 0 + 0)) 1) := ⟨_, rfl⟩
      have w0 := zC_worth l2 hW y2 (far := 0) (ng := zg_night (zN (X 96) 0 + 0)) cc (by omega)
      have w1 := zC_worth l2 hW y2 (far := 1) (ng := zg_night (zN (X 96) 0 + 0)) cc (by omega)
      rw [← hv0] at w0 a1
      rw [← hv1] at w1 b1
      refine ⟨if v1 ≤ v0 then 0 else 1, Xa, Ya, Xd, Yb, ?_, ?_, ((hIa.keep m2.keep).keep a2.keep).keep b2.keep⟩
      · simp only [fn_Post_choose, fn_Post_choose_L134, ze_isThrower t1 hn, ze_isWithin, h1, h2, zr_b1, zr_b2, zt_t, zt_f, n10, ↓reduceIte, zn_ib (show t < 10 by omega) (show 10 < 2 ^ 31 by decide), zr_gd, zn_cl (show t < 2 ^ 31 by omega), zr_nx, pi, decide_eq_false il, p1, ps, hs, l1, y1, r1, w1, r0, w0, zm_cmp_le]
        split <;> rfl
      · simp only [fn_Mod_choose, fn_Mod_choose_L97, ze_mThrower mma hn, ze_inN (nI (1 + N')) 1 15 1 15 rfl rfl, h1, h2, zr_b1, zr_b2, zt_t, zt_f, n10, ↓reduceIte, M1 Xa e96, M7 Xa e96, if_neg (fun z => il (c7.mp z)), zm_st e96 hW cc, hs, m1', zr_nx, ck Xb b96, a1, ck Xc d96, b1, zm_cmp_ge]
        split <;> rfl
