/-! parts of twelve -/
def zsu (p : Nat → Nat) : Nat → Nat
  | 0 => 0
  | n + 1 => zsu p n + p n
theorem zsu_ge (p : Nat → Nat) : ∀ n j, j < n → p j ≤ zsu p n := by
  intro n
  induction n with
  | zero => intro j h; omega
  | succ n ih =>
    intro j h
    show p j ≤ zsu p n + p n
    by_cases e : j = n
    · subst e; omega
    · have := ih j (by omega); omega
theorem zsu_two (q : Nat → Nat) (a b x y : Nat) : ∀ n, zsu (fun j => q j + (if j = a then x else 0) + (if j = b then y else 0)) n = zsu q n + (if a < n then x else 0) + (if b < n then y else 0) := by
  intro n
  induction n with
  | zero => rfl
  | succ n ih =>
    show zsu (fun j => q j + (if j = a then x else 0) + (if j = b then y else 0)) n + (q n + (if n = a then x else 0) + (if n = b then y else 0)) = zsu q n + q n + (if a < n + 1 then x else 0) + (if b < n + 1 then y else 0)
    rw [ih]
    have e1 : (if a < n + 1 then x else 0) = (if a < n then x else 0) + (if n = a then x else 0) := by
      repeat' split
      all_goals omega
    have e2 : (if b < n + 1 then y else 0) = (if b < n then y else 0) + (if n = b then y else 0) := by
      repeat' split
      all_goals omega
    rw [e1, e2]
    omega
def zP_add (g : Nat → Nat × Nat × Nat) (p : Nat → Nat) (c : Nat) (q : Nat → Nat) : Nat → Nat := fun j => q j + (if j = (g c).1 then p c * (g c).2.2 else 0) + (if j = (g c).2.1 then p c * (12 - (g c).2.2) else 0)
theorem zP_add0 {g : Nat → Nat × Nat × Nat} {p : Nat → Nat} {c : Nat} (h : p c = 0) (q : Nat → Nat) : zP_add g p c q = q := by
  funext j
  unfold zP_add
  rw [h, Nat.zero_mul, Nat.zero_mul]
  repeat' split
  all_goals omega
def zG_ok (g : Nat → Nat × Nat × Nat) : Prop := ∀ c, c < 24 → (g c).1 < 24 ∧ (g c).2.1 < 24 ∧ (g c).2.2 ≤ 12
theorem zsu_add {g : Nat → Nat × Nat × Nat} (hg : zG_ok g) (p : Nat → Nat) {c : Nat} (hc : c < 24) (q : Nat → Nat) : zsu (zP_add g p c q) 24 = zsu q 24 + 12 * p c := by
  obtain ⟨h1, h2, h3⟩ := hg c hc
  unfold zP_add
  rw [zsu_two, if_pos h1, if_pos h2, Nat.add_assoc, ← Nat.mul_add, show (g c).2.2 + (12 - (g c).2.2) = 12 by omega, Nat.mul_comm]
def zP_in (g : Nat → Nat × Nat × Nat) (p : Nat → Nat) : Nat → Nat → (Nat → Nat) → (Nat → Nat)
  | 0, _, q => q
  | d + 1, c, q => zP_in g p d (c + 1) (zP_add g p c q)
theorem zsu_in {g : Nat → Nat × Nat × Nat} (hg : zG_ok g) (p : Nat → Nat) : ∀ d c q, c + d ≤ 24 → zsu (zP_in g p d c q) 24 + 12 * zsu p c = zsu q 24 + 12 * zsu p (c + d) := by
  intro d
  induction d with
  | zero => intro c q _; rfl
  | succ d ih =>
    intro c q hc
    have i := ih (c + 1) (zP_add g p c q) (by omega)
    have s : zsu p (c + 1) = zsu p c + p c := rfl
    have a := zsu_add hg p (show c < 24 by omega) q
    rw [show c + (d + 1) = c + 1 + d by omega]
    show zsu (zP_in g p d (c + 1) (zP_add g p c q)) 24 + _ = _
    omega
def zP_st (g : Nat → Nat × Nat × Nat) (p : Nat → Nat) : Nat → Nat := zP_in g p 24 0 (fun _ => 0)
theorem zsu_st {g : Nat → Nat × Nat × Nat} (hg : zG_ok g) (p : Nat → Nat) : zsu (zP_st g p) 24 = 12 * zsu p 24 := by
  have i := zsu_in hg p 24 0 (fun _ => 0) (by omega)
  have z : zsu (fun _ => 0) 24 = 0 := rfl
  have z2 : zsu p 0 = 0 := rfl
  unfold zP_st
  rw [z, z2, show 0 + 24 = 24 from rfl] at i
  omega
def zP (G : Nat → Nat → Nat × Nat × Nat) : Nat → Nat → (Nat → Nat) → (Nat → Nat)
  | 0, _, p => p
  | d + 1, h, p => zP G d (h + 1) (zP_st (G h) p)
theorem zP_su {G : Nat → Nat → Nat × Nat × Nat} (hG : ∀ h, zG_ok (G h)) : ∀ d h p, zsu (zP G d h p) 24 = 12 ^ d * zsu p 24 := by
  intro d
  induction d with
  | zero => intro h p; show zsu p 24 = 12 ^ 0 * _; rw [Nat.pow_zero, Nat.one_mul]
  | succ d ih =>
    intro h p
    show zsu (zP G d (h + 1) (zP_st (G h) p)) 24 = _
    rw [ih, zsu_st (hG h), Nat.pow_succ, Nat.mul_assoc]
def zP_one (c : Nat) : Nat → Nat := fun j => if j = c then 1 else 0
theorem zsu_one {c : Nat} (hc : c < 24) : zsu (zP_one c) 24 = 1 := by
  have key : ∀ c : Fin 24, zsu (zP_one c.val) 24 = 1 := by decide +kernel
  exact key ⟨c, hc⟩
theorem z12 {n : Nat} (h : n ≤ 15) : 12 ^ n < 2 ^ 63 := by
  have := Nat.pow_le_pow_right (show 0 < 12 by omega) h
  have e : (12 : Nat) ^ 15 < 2 ^ 63 := by decide
  omega
theorem zS_go_ok {S : Nat → Int32} (h : zI_WF S) (ch : Int32) (hh : Nat) : zG_ok (zS_go S ch hh) := fun _ hc => zS_rw_b h hc
theorem zs_stl (Y : LX) (r j : Nat) (v : Int64) (a b : Nat) : zu_stl Y r j v a b = if a = r ∧ b = j then v else Y a b := by
  unfold zu_stl zu_upl
  by_cases h : a = r
  · subst h
    rw [if_pos rfl]
    by_cases h2 : b = j
    · subst h2; rw [if_pos ⟨rfl, rfl⟩, pk_uLs]
    · rw [if_neg (fun q => h2 q.2), pk_uLn h2]
  · rw [if_neg h, if_neg (fun q => h q.1)]
theorem ze_fillJ_L {r : Nat} (a : Int64) : ∀ (d i n : Nat) (Y : LX), i + d = 24 → d < n → ∃ Y', fn_Arr_fillJ_12_L6 n r a (nI i) 24 Y = some Y' ∧ (∀ j, i ≤ j → j < 24 → Y' r j = a) ∧ (∀ j, j < i → Y' r j = Y r j) ∧ ∀ b, b ≠ r → ∀ j, Y' b j = Y b j := by
  intro d
  induction d with
  | zero =>
    intro i n Y hi hn
    obtain ⟨m, rfl⟩ : ∃ m, n = m + 1 := ⟨n - 1, by omega⟩
    obtain rfl : i = 24 := by omega
    exact ⟨Y, rfl, fun j h1 h2 => absurd h2 (by omega), fun _ _ => rfl, fun _ _ _ => rfl⟩
  | succ d ih =>
    intro i n Y hi hn
    obtain ⟨m, rfl⟩ : ∃ m, n = m + 1 := ⟨n - 1, by omega⟩
    obtain ⟨Y', e, p1, p2, p3⟩ := ih (i + 1) m (zu_stl Y r i a) (by omega) (by omega)
    refine ⟨Y', ?_, ?_, ?_, ?_⟩
    · show fn_Arr_fillJ_12_B6 (fn_Arr_fillJ_12_L6 m) r a (nI i) 24 Y = _
      unfold fn_Arr_fillJ_12_B6
      rw [if_neg (show ¬ (24 : Int32) ≤ nI i from nI_ge (a := i) (b := 24) (by omega) (by omega))]
      simp only [zp_nx, zn_ib (show i < 24 by omega) (show 24 < 2 ^ 31 by decide), zp_gd, zn_cl (show i < 2 ^ 31 by omega), nI_1]
      exact e
    · intro j h1 h2
      by_cases q : j = i
      · subst q
        rw [p2 j (by omega), zs_stl, if_pos ⟨rfl, rfl⟩]
      · exact p1 j (by omega) h2
    · intro j h1
      rw [p2 j (by omega), zs_stl, if_neg (by omega)]
    · intro b hb j
      rw [p3 b hb j, zs_stl, if_neg (fun q => hb q.1)]
theorem ze_fillJ (r : Nat) (a : Int64) (Y : LX) : ∃ Y', fn_Arr_fillJ_12 r a Y = some Y' ∧ (∀ j, j < 24 → Y' r j = a) ∧ ∀ b, b ≠ r → ∀ j, Y' b j = Y b j := by
  obtain ⟨Y', e, p1, p2, p3⟩ := ze_fillJ_L (r := r) a 24 0 400 Y (by omega) (by omega)
  exact ⟨Y', e, fun j hj => p1 j (by omega) hj, p3⟩
/-- two additions to a row -/
theorem zP_two {g : Nat → Nat × Nat × Nat} {p q : Nat → Nat} {c r rp : Nat} {Y Y1 Y2 : LX} (hr : rp ≠ r) (h1 : (g c).1 < 24) (h2 : (g c).2.1 < 24) (h3 : (g c).2.2 ≤ 12) (hp : Y rp c = lN (p c)) (hq : ∀ j, j < 24 → Y r j = lN (q j)) {x y : Int64} (hx : x = lN (p c * (g c).2.2)) (hy : y = lN (p c * (12 - (g c).2.2))) (e1 : Y1 = zu_stl Y r (g c).1 (Y r (g c).1 + x)) (e2 : Y2 = zu_stl Y1 r (g c).2.1 (Y1 r (g c).2.1 + y)) : (∀ j, j < 24 → Y2 r j = lN (zP_add g p c q j)) ∧ ∀ b, b ≠ r → ∀ j, Y2 b j = Y b j := by
  have v1 : ∀ j, j < 24 → Y1 r j = lN (q j + (if j = (g c).1 then p c * (g c).2.2 else 0)) := by
    intro j hj
    rw [e1, zs_stl]
    by_cases w : j = (g c).1
    · rw [if_pos ⟨rfl, w⟩, if_pos w, hq _ h1, hx, lN_add, ← w]
    · rw [if_neg (fun z => w z.2), if_neg w, hq j hj, Nat.add_zero]
  refine ⟨fun j hj => ?_, fun b hb j => ?_⟩
  · rw [e2, zs_stl]
    unfold zP_add
    by_cases w : j = (g c).2.1
    · rw [if_pos ⟨rfl, w⟩, if_pos w, v1 _ h2, hy, lN_add, ← w]
    · rw [if_neg (fun z => w z.2), if_neg w, v1 j hj, Nat.add_zero]
  · rw [e2, zs_stl, if_neg (fun z => hb z.1), e1, zs_stl, if_neg (fun z => hb z.1)]
theorem zC_in {X : IX} {S : Nat → Int32} (hC : zC_laid X S) (h : zI_WF S) {hh : Nat} (hb : hh < 100) (ch N : Int32) (k18 : Int32 → Int32 → Int32 → LX → Option LX) {p : Nat → Nat} (hp : ∀ j, j < 24 → p j < 2 ^ 63) : ∀ (d c n : Nat) (q : Nat → Nat) (Y : LX), c + d = 24 → d < n → (∀ j, j < 24 → Y 6 j = lN (p j)) → (∀ j, j < 24 → Y 7 j = lN (q j)) → ∃ Y', fn_Chart_spread_L35 X k18 n N ch (nI hh) (nI c) Y = k18 N ch (nI (hh + 1)) Y' ∧ ∀ j, j < 24 → Y' 6 j = lN (zP_in (zS_go S ch hh) p d c q j) := by
  intro d
  induction d with
  | zero =>
    intro c n q Y hc hd y6 y7
    obtain ⟨m, rfl⟩ : ∃ m, n = m + 1 := ⟨n - 1, by omega⟩
    obtain rfl : c = 24 := by omega
    refine ⟨zu_upl Y 6 (va_cpy (Y 7) (Y 6) 0 0 24), ?_, fun j hj => ?_⟩
    · show fn_Chart_spread_B35 _ _ _ _ _ _ _ _ = _
      unfold fn_Chart_spread_B35
      rw [if_pos (by decide), zp_nx, zp_nx, nI_1]
    · unfold zu_upl
      rw [if_pos rfl, pk_cpy_in (by omega) (by omega), show 0 + (j - 0) = j by omega]
      exact y7 j hj
  | succ d ih =>
    intro c n q Y hc hd y6 y7
    obtain ⟨m, rfl⟩ : ∃ m, n = m + 1 := ⟨n - 1, by omega⟩
    have hc' : c < 24 := by omega
    have b := zS_rw_b h (far := zS_by S ch c) (ng := zg_night (zN S 0 + hh)) hc'
    have ixb := zS_ix_b (ng := zg_night (zN S 0 + hh)) (zS_by_lt S ch c) hc'
    obtain ⟨ix, hix⟩ : ∃ ix, ix = zS_ix (zg_night (zN S 0 + hh)) (zS_by S ch c) c := ⟨_, rfl⟩
    have rd := (hC.2.2.2 c hc').2 (zg_night (zN S 0 + hh)) (zS_by S ch c) (zS_by_lt S ch c)
    have ck := zC_chosen hC h hc' hb ch
    rw [← hix] at rd ixb ck
    have eg : zS_go S ch hh c = zS_rw S c (zg_night (zN S 0 + hh)) (zS_by S ch c) := rfl
    rw [← eg] at rd b
    show ∃ Y' : LX, fn_Chart_spread_B35 X k18 (fn_Chart_spread_L35 X k18 m) _ _ _ _ _ = _ ∧ ∀ j, j < 24 → Y' 6 j = lN (zP_in (zS_go S ch hh) p d (c + 1) (zP_add (zS_go S ch hh) p c q) j)
    unfold fn_Chart_spread_B35 fn_Chart_spread_L130
    rw [if_neg (show ¬ (24 : Int32) ≤ nI c from nI_ge (a := c) (b := 24) (by omega) (by omega)), zn_ib hc' (by decide), zp_gd, zn_cl (by omega), y6 c hc']
    have cz : (lg_cmp (lN (p c)) (0 : Int64) = 0) ↔ p c = 0 := (zm_cmp_eq _ _).trans (pk_lEQ (b := 0) (hp c hc') (by omega))
    by_cases w : p c = 0
    · rw [if_pos (cz.mpr w), zp_nx, nI_1, zP_add0 w]
      exact ih (c + 1) m q Y (by omega) (by omega) y6 y7
    · rw [if_neg (fun z => w (cz.mp z)), ck, zp_b1]
      have e12 : (12 : Int32) - nI (zS_go S ch hh c).2.2 = nI (12 - (zS_go S ch hh c).2.2) := pk_sub (a := 12) (by omega)
      obtain ⟨Y1, hY1⟩ : ∃ Y1 : LX, Y1 = zu_stl Y 7 (zS_go S ch hh c).1 (Y 7 (zS_go S ch hh c).1 + lN (p c) * (nI (zS_go S ch hh c).2.2).toInt64) := ⟨_, rfl⟩
      have y61 : Y1 6 c = lN (p c) := by rw [hY1, zs_stl, if_neg (by omega)]; exact y6 c hc'
      obtain ⟨Y2, hY2⟩ : ∃ Y2 : LX, Y2 = zu_stl Y1 7 (zS_go S ch hh c).2.1 (Y1 7 (zS_go S ch hh c).2.1 + lN (p c) * (nI (12 - (zS_go S ch hh c).2.2)).toInt64) := ⟨_, rfl⟩
      have two := zP_two (g := zS_go S ch hh) (p := p) (c := c) (r := 7) (rp := 6) (by decide) b.1 b.2.1 b.2.2 (y6 c hc') y7 (by rw [nI_l (by omega), lN_mul]) (by rw [nI_l (by omega), lN_mul]) hY1 hY2
      simp only [zn_ib ixb.1 (show 96 < 2 ^ 31 by decide), zp_gd, zn_cl (show ix < 2 ^ 31 by omega), rd.1, rd.2.1, rd.2.2, zn_ib b.1 (show 24 < 2 ^ 31 by decide), zn_ib b.2.1 (show 24 < 2 ^ 31 by decide), zn_ib hc' (show 24 < 2 ^ 31 by decide), zn_cl (show c < 2 ^ 31 by omega), zn_cl (show (zS_go S ch hh c).1 < 2 ^ 31 by omega), zn_cl (show (zS_go S ch hh c).2.1 < 2 ^ 31 by omega), zp_nx, ← hY1, y61, e12, ← hY2, nI_1]
      exact ih (c + 1) m (zP_add (zS_go S ch hh) p c q) Y2 (by omega) (by omega) (fun j hj => by rw [two.2 6 (by decide) j]; exact y6 j hj) two.1
theorem zC_sp_L {X : IX} {S : Nat → Int32} (hC : zC_laid X S) (h : zI_WF S) (ch : Int32) {N : Nat} (hN : N ≤ 15) : ∀ (d hh n : Nat) (p : Nat → Nat) (Y : LX), hh + d = N → d < n → zsu p 24 ≤ 12 ^ hh → (∀ j, j < 24 → Y 6 j = lN (p j)) → ∃ Y', fn_Chart_spread_L18 X n (nI N) ch (nI hh) Y = some Y' ∧ ∀ j, j < 24 → Y' 6 j = lN (zP (zS_go S ch) d hh p j) := by
  intro d
  induction d with
  | zero =>
    intro hh n p Y hc hd hs y6
    obtain ⟨m, rfl⟩ : ∃ m, n = m + 1 := ⟨n - 1, by omega⟩
    refine ⟨Y, ?_, y6⟩
    show fn_Chart_spread_B18 _ _ _ _ _ _ = _
    unfold fn_Chart_spread_B18
    rw [if_pos ((nI_leI (by omega) (by omega)).mpr (by omega))]
  | succ d ih =>
    intro hh n p Y hc hd hs y6
    obtain ⟨m, rfl⟩ : ∃ m, n = m + 1 := ⟨n - 1, by omega⟩
    obtain ⟨Ya, ea, fa1, fa2⟩ := ze_fillJ 7 0 Y
    have lt := z12 (show hh ≤ 15 by omega)
    obtain ⟨Yb, eb, fb⟩ := zC_in hC h (show hh < 100 by omega) ch (nI N) (fn_Chart_spread_L18 X m) (p := p) (fun j hj => by have := zsu_ge p 24 j hj; omega) 24 0 400 (fun _ => 0) Ya (by omega) (by omega) (fun j hj => by rw [fa2 6 (by decide) j]; exact y6 j hj) (fun j hj => fa1 j hj)
    have st := zsu_st (zS_go_ok h ch hh) p
    obtain ⟨Y', e', f'⟩ := ih (hh + 1) m (zP_st (zS_go S ch hh) p) Yb (by omega) (by omega) (by rw [st, Nat.pow_succ]; omega) fb
    refine ⟨Y', ?_, f'⟩
    show fn_Chart_spread_B18 X (fn_Chart_spread_L18 X m) _ _ _ _ = _
    unfold fn_Chart_spread_B18
    rw [if_neg (nI_ge (a := hh) (by omega) (by omega)), ea, zp_b1]
    have eb' : fn_Chart_spread_L35 X (fn_Chart_spread_L18 X m) 400 (nI N) ch (nI hh) (0 : Int32) Ya = _ := eb
    rw [eb']
    exact e'
/-- where a letter is -/
def zPc (S : Nat → Int32) (ch : Int32) (N c : Nat) : Nat → Nat := zP (zS_go S ch) N 0 (zP_one c)
theorem zPc_lt {S : Nat → Int32} (h : zI_WF S) (ch : Int32) {N c j : Nat} (hN : N ≤ 15) (hc : c < 24) (hj : j < 24) : zPc S ch N c j < 2 ^ 63 := by
  have a := zsu_ge (zPc S ch N c) 24 j hj
  have b : zsu (zPc S ch N c) 24 = _ := zP_su (zS_go_ok h ch) N 0 (zP_one c)
  rw [zsu_one hc, Nat.mul_one] at b
  have := z12 hN
  omega
theorem zC_spread {X : IX} {S : Nat → Int32} (hC : zC_laid X S) (h : zI_WF S) (ch : Int32) {N c : Nat} (hN : N ≤ 15) (hc : c < 24) (Y : LX) : ∃ Y', fn_Chart_spread X (nI c) (nI N) ch Y = some Y' ∧ ∀ j, j < 24 → Y' 6 j = lN (zPc S ch N c j) := by
  obtain ⟨Ya, ea, fa1, fa2⟩ := ze_fillJ 6 0 Y
  obtain ⟨Y', e', f'⟩ := zC_sp_L hC h ch hN N 0 400 (zP_one c) (zu_stl Ya 6 c 1) (by omega) (by omega) (by rw [zsu_one hc]; omega) (fun j hj => by
    rw [zs_stl]
    unfold zP_one
    by_cases w : j = c
    · rw [if_pos ⟨rfl, w⟩, if_pos w]; rfl
    · rw [if_neg (fun z => w z.2), if_neg w]; exact fa1 j hj)
  refine ⟨Y', ?_, f'⟩
  unfold fn_Chart_spread
  rw [ea, zp_b1, zn_ib hc (by decide), zp_gd, zp_nx, zn_cl (by omega)]
  exact e'
/-! the same in the reference -/
theorem zm_cp (k32 : Int32 → Int32 → IX → LX → Option (IX × LX)) (N : Int32) (hh : Nat) (X : IX) : ∀ (d c n : Nat) (Y : LX), c + d = 24 → d < n → ∃ Y', fn_Mod_findParts_L157 k32 n N (nI hh) (nI c) X Y = k32 N (nI (hh + 1)) X Y' ∧ (∀ j, c ≤ j → j < 24 → Y' 100 j = Y 101 j) ∧ (∀ j, j < c → Y' 100 j = Y 100 j) ∧ ∀ b, b ≠ 100 → ∀ j, Y' b j = Y b j := by
  intro d
  induction d with
  | zero =>
    intro c n Y hc hd
    obtain ⟨m, rfl⟩ : ∃ m, n = m + 1 := ⟨n - 1, by omega⟩
    obtain rfl : c = 24 := by omega
    refine ⟨Y, ?_, fun j h1 h2 => absurd h2 (by omega), fun _ _ => rfl, fun _ _ _ => rfl⟩
    show fn_Mod_findParts_B157 _ _ _ _ _ _ _ = _
    unfold fn_Mod_findParts_B157
    rw [if_pos (by decide), zp_nx, nI_1]
  | succ d ih =>
    intro c n Y hc hd
    obtain ⟨m, rfl⟩ : ∃ m, n = m + 1 := ⟨n - 1, by omega⟩
    obtain ⟨Y', e, p1, p2, p3⟩ := ih (c + 1) m (zu_stl Y 100 c (Y 101 c)) (by omega) (by omega)
    refine ⟨Y', ?_, ?_, ?_, ?_⟩
    · show fn_Mod_findParts_B157 k32 (fn_Mod_findParts_L157 k32 m) _ _ _ _ _ = _
      unfold fn_Mod_findParts_B157
      rw [if_neg (show ¬ (24 : Int32) ≤ nI c from nI_ge (a := c) (b := 24) (by omega) (by omega))]
      simp only [zp_nx, zn_ib (show c < 24 by omega) (show 24 < 2 ^ 31 by decide), zp_gd, zn_cl (show c < 2 ^ 31 by omega), nI_1]
      exact e
    · intro j h1 h2
      by_cases q : j = c
      · subst q
        rw [p2 j (by omega), zs_stl, if_pos ⟨rfl, rfl⟩]
      · rw [p1 j (by omega) h2, zs_stl, if_neg (by omega)]
    · intro j h1
      rw [p2 j (by omega), zs_stl, if_neg (by omega)]
    · intro b hb j
      rw [p3 b hb j, zs_stl, if_neg (fun q => hb q.1)]
theorem zm_in {S : Nat → Int32} (h : zI_WF S) {hh : Nat} (hb : hh < 100) (N : Int32) (k32 : Int32 → Int32 → IX → LX → Option (IX × LX)) {p : Nat → Nat} (hp : ∀ j, j < 24 → p j < 2 ^ 63) : ∀ (d c n : Nat) (q : Nat → Nat) (X : IX) (Y : LX), X 96 = S → c + d = 24 → d < n → (∀ j, j < 24 → Y 100 j = lN (p j)) → (∀ j, j < 24 → Y 101 j = lN (q j)) → ∃ X' Y', fn_Mod_findParts_L64 k32 n N (nI hh) (nI c) X Y = k32 N (nI (hh + 1)) X' Y' ∧ zV X X' ∧ ∀ j, j < 24 → Y' 100 j = lN (zP_in (zS_go S (zS_cs S) hh) p d c q j) := by
  intro d
  induction d with
  | zero =>
    intro c n q X Y e hc hd y6 y7
    obtain ⟨m, rfl⟩ : ∃ m, n = m + 1 := ⟨n - 1, by omega⟩
    obtain rfl : c = 24 := by omega
    obtain ⟨Y', e', p1, p2, p3⟩ := zm_cp k32 N hh X 24 0 400 Y (by omega) (by omega)
    refine ⟨X, Y', ?_, zV.rf X, fun j hj => by rw [p1 j (by omega) hj]; exact y7 j hj⟩
    show fn_Mod_findParts_B64 _ _ _ _ _ _ _ = _
    unfold fn_Mod_findParts_B64
    rw [if_pos (by decide)]
    exact e'
  | succ d ih =>
    intro c n q X Y e hc hd y6 y7
    obtain ⟨m, rfl⟩ : ∃ m, n = m + 1 := ⟨n - 1, by omega⟩
    have hc' : c < 24 := by omega
    have b := zS_rw_b h (far := zS_by S (zS_cs S) c) (ng := zg_night (zN S 0 + hh)) hc'
    have eg : zS_go S (zS_cs S) hh c = zS_rw S c (zg_night (zN S 0 + hh)) (zS_by S (zS_cs S) c) := rfl
    rw [← eg] at b
    show ∃ (X' : IX) (Y' : LX), fn_Mod_findParts_B64 k32 (fn_Mod_findParts_L64 k32 m) _ _ _ _ _ = _ ∧ _ ∧ ∀ j, j < 24 → Y' 100 j = lN (zP_in (zS_go S (zS_cs S) hh) p d (c + 1) (zP_add (zS_go S (zS_cs S) hh) p c q) j)
    unfold fn_Mod_findParts_B64 fn_Mod_findParts_L148
    rw [if_neg (show ¬ (24 : Int32) ≤ nI c from nI_ge (a := c) (b := 24) (by omega) (by omega)), zn_ib hc' (by decide), zp_gd, zn_cl (by omega), y6 c hc']
    have cz : (lg_cmp (lN (p c)) (0 : Int64) ≤ 0) ↔ p c = 0 := (zm_cmp_le _ _).trans ((pk_lLE (b := 0) (hp c hc') (by omega)).trans (by omega))
    by_cases w : p c = 0
    · rw [if_pos (cz.mpr w), zp_nx, nI_1, zP_add0 w]
      exact ih (c + 1) m q X Y e (by omega) (by omega) y6 y7
    · rw [if_neg (fun z => w (cz.mp z)), zp_nx, zm_clock e h hb]
      obtain ⟨X2, g1, g2, g3⟩ := zm_goes e h (c := c) (k := (zN S 0 + hh) % 24) hc' (Nat.mod_lt _ (by omega)) (zS_by_lt S (zS_cs S) c) (a3 := -1) (Or.inr ⟨rfl, zS_by_cs h⟩)
      rw [zg_night_mod, ← eg] at g2
      rw [g1, zp_b1]
      have e12 : (12 : Int32) - nI (zS_go S (zS_cs S) hh c).2.2 = nI (12 - (zS_go S (zS_cs S) hh c).2.2) := pk_sub (a := 12) (by omega)
      obtain ⟨Y1, hY1⟩ : ∃ Y1 : LX, Y1 = zu_stl Y 101 (zS_go S (zS_cs S) hh c).1 (Y 101 (zS_go S (zS_cs S) hh c).1 + (nI (zS_go S (zS_cs S) hh c).2.2).toInt64 * lN (p c)) := ⟨_, rfl⟩
      have y61 : Y1 100 c = lN (p c) := by rw [hY1, zs_stl, if_neg (by omega)]; exact y6 c hc'
      obtain ⟨Y2, hY2⟩ : ∃ Y2 : LX, Y2 = zu_stl Y1 101 (zS_go S (zS_cs S) hh c).2.1 (Y1 101 (zS_go S (zS_cs S) hh c).2.1 + (nI (12 - (zS_go S (zS_cs S) hh c).2.2)).toInt64 * lN (p c)) := ⟨_, rfl⟩
      have two := zP_two (g := zS_go S (zS_cs S) hh) (p := p) (c := c) (r := 101) (rp := 100) (by decide) b.1 b.2.1 b.2.2 (y6 c hc') y7 (by rw [nI_l (by omega), lN_mul, Nat.mul_comm]) (by rw [nI_l (by omega), lN_mul, Nat.mul_comm]) hY1 hY2
      obtain ⟨X', Y', q1, q2, q3⟩ := ih (c + 1) m (zP_add (zS_go S (zS_cs S) hh) p c q) X2 Y2 (by rw [g3.row (by decide)]; exact e) (by omega) (by omega) (fun j hj => by rw [two.2 100 (by decide) j]; exact y6 j hj) two.1
      refine ⟨X', Y', ?_, g3.tr q2, q3⟩
      rw [← q1]
      simp only [g2.1, g2.2.1, g2.2.2.1, zn_ib b.1 (show 24 < 2 ^ 31 by decide), zn_ib b.2.1 (show 24 < 2 ^ 31 by decide), zn_ib hc' (show 24 < 2 ^ 31 by decide), zp_gd, zn_cl (show c < 2 ^ 31 by omega), zn_cl (show (zS_go S (zS_cs S) hh c).1 < 2 ^ 31 by omega), zn_cl (show (zS_go S (zS_cs S) hh c).2.1 < 2 ^ 31 by omega), y6 c hc', zp_nx, ← hY1, y61, e12, ← hY2, nI_1]
theorem zm_clr {S : Nat → Int32} (h : zI_WF S) {hh : Nat} (hb : hh < 100) (N : Int32) (k32 : Int32 → Int32 → IX → LX → Option (IX × LX)) {p : Nat → Nat} (hp : ∀ j, j < 24 → p j < 2 ^ 63) : ∀ (d c n : Nat) (X : IX) (Y : LX), X 96 = S → c + d = 24 → d < n → (∀ j, j < 24 → Y 100 j = lN (p j)) → (∀ j, j < c → Y 101 j = 0) → ∃ X' Y', fn_Mod_findParts_L40 k32 n N (nI hh) (nI c) X Y = k32 N (nI (hh + 1)) X' Y' ∧ zV X X' ∧ ∀ j, j < 24 → Y' 100 j = lN (zP_st (zS_go S (zS_cs S) hh) p j) := by
  intro d
  induction d with
  | zero =>
    intro c n X Y e hc hd y6 y7
    obtain ⟨m, rfl⟩ : ∃ m, n = m + 1 := ⟨n - 1, by omega⟩
    obtain rfl : c = 24 := by omega
    obtain ⟨X', Y', e', p1, p2⟩ := zm_in h hb N k32 hp 24 0 400 (fun _ => 0) X Y e (by omega) (by omega) y6 (fun j hj => y7 j hj)
    refine ⟨X', Y', ?_, p1, p2⟩
    show fn_Mod_findParts_B40 _ _ _ _ _ _ _ = _
    unfold fn_Mod_findParts_B40
    rw [if_pos (by decide)]
    exact e'
  | succ d ih =>
    intro c n X Y e hc hd y6 y7
    obtain ⟨m, rfl⟩ : ∃ m, n = m + 1 := ⟨n - 1, by omega⟩
    obtain ⟨X', Y', e', p1, p2⟩ := ih (c + 1) m X (zu_stl Y 101 c 0) e (by omega) (by omega) (fun j hj => by rw [zs_stl, if_neg (by omega)]; exact y6 j hj) (fun j hj => by
      rw [zs_stl]
      by_cases w : j = c
      · rw [if_pos ⟨rfl, w⟩]
      · rw [if_neg (fun z => w z.2)]; exact y7 j (by omega))
    refine ⟨X', Y', ?_, p1, p2⟩
    show fn_Mod_findParts_B40 k32 (fn_Mod_findParts_L40 k32 m) _ _ _ _ _ = _
    unfold fn_Mod_findParts_B40
    rw [if_neg (show ¬ (24 : Int32) ≤ nI c from nI_ge (a := c) (b := 24) (by omega) (by omega))]
    simp only [zp_nx, zn_ib (show c < 24 by omega) (show 24 < 2 ^ 31 by decide), zp_gd, zn_cl (show c < 2 ^ 31 by omega), nI_1]
    exact e'
theorem zm_sp_L {S : Nat → Int32} (h : zI_WF S) {N : Nat} (hN : N ≤ 15) : ∀ (d hh n : Nat) (p : Nat → Nat) (X : IX) (Y : LX), X 96 = S → hh + d = N → d < n → zsu p 24 ≤ 12 ^ hh → (∀ j, j < 24 → Y 100 j = lN (p j)) → ∃ X' Y', fn_Mod_findParts_L32 n (nI N) (nI hh) X Y = some (X', Y') ∧ zV X X' ∧ ∀ j, j < 24 → Y' 100 j = lN (zP (zS_go S (zS_cs S)) d hh p j) := by
  intro d
  induction d with
  | zero =>
    intro hh n p X Y e hc hd hs y6
    obtain ⟨m, rfl⟩ : ∃ m, n = m + 1 := ⟨n - 1, by omega⟩
    refine ⟨X, Y, ?_, zV.rf X, y6⟩
    show fn_Mod_findParts_B32 _ _ _ _ _ = _
    unfold fn_Mod_findParts_B32
    rw [if_pos ((nI_leI (by omega) (by omega)).mpr (by omega))]
  | succ d ih =>
    intro hh n p X Y e hc hd hs y6
    obtain ⟨m, rfl⟩ : ∃ m, n = m + 1 := ⟨n - 1, by omega⟩
    have lt := z12 (show hh ≤ 15 by omega)
    obtain ⟨Xb, Yb, eb, vb, fb⟩ := zm_clr h (show hh < 100 by omega) (nI N) (fn_Mod_findParts_L32 m) (p := p) (fun j hj => by have := zsu_ge p 24 j hj; omega) 24 0 400 X Y e (by omega) (by omega) y6 (fun j hj => absurd hj (by omega))
    have st := zsu_st (zS_go_ok h (zS_cs S) hh) p
    obtain ⟨X', Y', e', v', f'⟩ := ih (hh + 1) m (zP_st (zS_go S (zS_cs S) hh) p) Xb Yb (by rw [vb.row (by decide)]; exact e) (by omega) (by omega) (by rw [st, Nat.pow_succ]; omega) fb
    refine ⟨X', Y', ?_, vb.tr v', f'⟩
    show fn_Mod_findParts_B32 (fn_Mod_findParts_L32 m) _ _ _ _ = _
    unfold fn_Mod_findParts_B32
    rw [if_neg (nI_ge (a := hh) (by omega) (by omega))]
    have eb' : fn_Mod_findParts_L40 (fn_Mod_findParts_L32 m) 400 (nI N) (nI hh) (0 : Int32) X Y = _ := eb
    rw [eb']
    exact e'
theorem zm_ini {S : Nat → Int32} (h : zI_WF S) {N c : Nat} (hN : N ≤ 15) (hc : c < 24) : ∀ (d i n : Nat) (X : IX) (Y : LX), X 96 = S → i + d = 24 → d < n → (∀ j, j < i → Y 100 j = lN (zP_one c j)) → ∃ X' Y', fn_Mod_findParts_L2 n (nI c) (nI N) (nI i) X Y = some (X', Y') ∧ zV X X' ∧ ∀ j, j < 24 → Y' 100 j = lN (zPc S (zS_cs S) N c j) := by
  intro d
  induction d with
  | zero =>
    intro i n X Y e hi hd y6
    obtain ⟨m, rfl⟩ : ∃ m, n = m + 1 := ⟨n - 1, by omega⟩
    obtain rfl : i = 24 := by omega
    obtain ⟨X', Y', e', v', f'⟩ := zm_sp_L h hN N 0 400 (zP_one c) X Y e (by omega) (by omega) (by rw [zsu_one hc]; omega) y6
    refine ⟨X', Y', ?_, v', f'⟩
    show fn_Mod_findParts_B2 _ _ _ _ _ _ = _
    unfold fn_Mod_findParts_B2
    rw [if_pos (by decide)]
    exact e'
  | succ d ih =>
    intro i n X Y e hi hd y6
    obtain ⟨m, rfl⟩ : ∃ m, n = m + 1 := ⟨n - 1, by omega⟩
    obtain ⟨X', Y', e', v', f'⟩ := ih (i + 1) m X (zu_stl Y 100 i (lN (zP_one c i))) e (by omega) (by omega) (fun j hj => by
      rw [zs_stl]
      by_cases w : j = i
      · rw [if_pos ⟨rfl, w⟩, w]
      · rw [if_neg (fun z => w z.2)]; exact y6 j (by omega))
    refine ⟨X', Y', ?_, v', f'⟩
    show fn_Mod_findParts_B2 (fn_Mod_findParts_L2 m) _ _ _ _ _ = _
    unfold fn_Mod_findParts_B2 fn_Mod_findParts_L23
    rw [if_neg (show ¬ (24 : Int32) ≤ nI i from nI_ge (a := i) (b := 24) (by omega) (by omega))]
    have c1 : nI i = nI c ↔ i = c := nI_eq (by omega) (by omega)
    simp only [c1, zp_nx, zn_ib (show i < 24 by omega) (show 24 < 2 ^ 31 by decide), zp_gd, zn_cl (show i < 2 ^ 31 by omega), nI_1]
    rw [← e']
    unfold zP_one
    by_cases w : i = c
    · rw [if_pos w, if_pos w]; rfl
    · rw [if_neg w, if_neg w]; rfl
theorem zm_find {X : IX} {S : Nat → Int32} (e : X 96 = S) (h : zI_WF S) {N c : Nat} (hN : N ≤ 15) (hc : c < 24) (Y : LX) : ∃ X' Y', fn_Mod_findParts (nI c) (nI N) X Y = some (X', Y') ∧ zV X X' ∧ ∀ j, j < 24 → Y' 100 j = lN (zPc S (zS_cs S) N c j) := zm_ini h hN hc 24 0 400 X Y e (by omega) (by omega) (fun j hj => absurd hj (by omega))
/-- parts at home -/
def zPh (S : Nat → Int32) (ch : Int32) (N c : Nat) : Nat := zPc S ch N c (zN S 3)
theorem zPh_lt {S : Nat → Int32} (h : zI_WF S) (ch : Int32) {N c : Nat} (hN : N ≤ 15) (hc : c < 24) : zPh S ch N c < 2 ^ 63 := zPc_lt h ch hN hc (by have := (zW_3 h).2; omega)
theorem zC_home {X : IX} {S : Nat → Int32} {o r : Nat} (hr : r = 20 + o) (hL : zI_LI X o S) (h : zI_WF S) {N c : Nat} (hN : N ≤ 15) (hc : c < 24) (Y : LX) : ∃ X' Y', fn_Post_homeParts r (nI c) (nI N) X Y = some (lN (zPh S (zS_cs S) N c), X', Y') ∧ ∀ a, (a < 1 ∨ 5 < a) → X' a = X a := by
  have w3 := zW_3 h
  obtain ⟨Xa, l1, l2, l3⟩ := zC_lay hr hL h
  obtain ⟨Ya, y1, y2⟩ := zC_spread l2 h (zS_cs S) hN hc Y
  have La : zI_LI Xa o S := zI_LI.cg (fun a ha => l3 a (by omega)) hL
  have h6 : Xa r 6 = nI (zN S 3) := by rw [(zL_h hr La).2.2.2.1]; exact w3.1
  refine ⟨Xa, Ya, ?_, l3⟩
  unfold fn_Post_homeParts
  rw [l1, zp_b1, l2.1, y1, zp_b1, h6, zn_ib (show zN S 3 < 24 by omega) (by decide), zp_gd, zn_cl (by omega), y2 _ (by omega)]
  rfl
theorem zm_home {X : IX} {S : Nat → Int32} (e : X 96 = S) (h : zI_WF S) {N c : Nat} (hN : N ≤ 15) (hc : c < 24) (Y : LX) : ∃ X' Y', fn_Mod_homeParts (nI c) (nI N) X Y = some (lN (zPh S (zS_cs S) N c), X', Y') ∧ zV X X' := by
  have w3 := zW_3 h
  obtain ⟨X', Y', e1, v1, f1⟩ := zm_find e h hN hc Y
  have h3 : X' 96 3 = nI (zN S 3) := by rw [v1.row (by decide), e]; exact w3.1
  refine ⟨X', Y', ?_, v1⟩
  unfold fn_Mod_homeParts
  rw [e1, zp_b2, h3, zn_ib (show zN S 3 < 24 by omega) (by decide), zp_gd, zn_cl (by omega), f1 _ (by omega)]
  rfl
