/-! odds -/
theorem st_odds {X : IX} {Y : LX} (hI : zI_INV X) (a1 : Int32) (a2 : Int32) (a3 : Int32) : ∃ (v : Int64) (X1 : IX) (Y1 : LX) (X2 : IX) (Y2 : LX), fn_Post_odds a1 a2 a3 X Y = some (v, X1, Y1) ∧ fn_Mod_odds a1 a2 a3 X1 Y1 = some (v, X2, Y2) ∧ zI_INV X2 := by
  have n10 : ((1 : Int32) = 0) = False := by decide
  obtain ⟨X1, X2, e1, e2, e3, e4⟩ := zI_both2 hI (f := -1000001) 0 (by decide) (by decide)
  rcases (Bool.eq_false_or_eq_true (zw 0 a1 23 && zw 0 a2 15 && zw 0 a3 23)).symm with hg | hg
  · refine ⟨(-1000001 : Int32).toInt64, X1, Y, X2, Y, ?_, ?_, e3⟩
    · cases h1 : zw 0 a1 23 <;> cases h2 : zw 0 a2 15 <;> cases h3 : zw 0 a3 23 <;> first
        | exact absurd hg (by rw [h1, h2, h3]; decide)
        | simp only [fn_Post_odds, fn_Post_odds_L24, ze_isCell, ze_isWithin, h1, h2, h3, zp_b1, zp_b2, zp_nx, zt_f, zt_t, e1, n10, Bool.and_true, Bool.and_false, Bool.true_and, Bool.false_and, ↓reduceIte]
    · cases h1 : zw 0 a1 23 <;> cases h2 : zw 0 a2 15 <;> cases h3 : zw 0 a3 23 <;> first
        | exact absurd hg (by rw [h1, h2, h3]; decide)
        | simp only [fn_Mod_odds, fn_Mod_odds_L17, ze_odds, ze_mCell, h1, h2, h3, zp_b1, zp_b2, zp_nx, zt_f, zt_t, e2, n10, Bool.and_true, Bool.and_false, Bool.true_and, Bool.false_and, ↓reduceIte]
  simp only [Bool.and_eq_true] at hg
  obtain ⟨⟨h1, h2⟩, h3⟩ := hg
  obtain ⟨c, hc, rfl⟩ := zw_n (m := 23) (by decide) h1
  obtain ⟨N, hN, rfl⟩ := zw_n (m := 15) (by decide) h2
  have hW := hI.1.2
  obtain ⟨j, hj, rfl⟩ := zw_n (m := 23) (by decide) h3
  obtain ⟨Xa, l1, l2, l3⟩ := zC_lay rfl hI.1.1 hW
  obtain ⟨Ya, y1, y2⟩ := zC_spread l2 hW (zS_cs (X 96)) (N := N) (c := c) (by omega) (by omega) Y
  have hIa := hI.keep (zI_keep.lay l3)
  have e96 : Xa 96 = X 96 := l3 96 (by omega)
  have La : zI_LI Xa 0 (X 96) := zI_LI.cg (fun a ha => l3 a (by omega)) hI.1.1
  obtain ⟨Xb, Yb, m1, m2, m3⟩ := zm_find e96 hW (N := N) (c := c) (by omega) (by omega) Ya
  refine ⟨lN (zPc (X 96) (zS_cs (X 96)) N c j), Xa, Ya, Xb, Yb, ?_, ?_, hIa.keep m2.keep⟩
  · simp only [fn_Post_odds, ze_isCell, ze_isWithin, h1, h2, h3, zp_b1, zt_t, n10, ↓reduceIte, l1, l2.1, y1, zn_ib (show j < 24 by omega) (show 24 < 2 ^ 31 by decide), zp_gd, zn_cl (show j < 2 ^ 31 by omega), y2 j (by omega)]
  · simp only [fn_Mod_odds, ze_odds, ze_mCell, h1, h2, h3, Bool.and_true, zp_b1, zp_b2, zt_t, n10, ↓reduceIte, m1, zn_ib (show j < 24 by omega) (show 24 < 2 ^ 31 by decide), zp_gd, zn_cl (show j < 2 ^ 31 by omega), m3 j (by omega)]
/-! what is lost -/
def zS_ls (S : Nat → Int32) (f : Nat → Int64) : Nat → Nat → Int64 → Int64
  | 0, _, a => a
  | d + 1, c, a => zS_ls S f d (c + 1) (if c ≠ zN S 3 ∧ zN S (6 + c) = 1 then a + f c else a)
theorem zl_lost_P {X : IX} {S : Nat → Int32} (hL : zI_LI X 0 S) (h : zI_WF S) {Y : LX} {f : Nat → Int64} (hf : ∀ j, j < 24 → Y 6 j = f j) : ∀ (d c n : Nat) (a : Int64), c + d = 24 → d < n → fn_Post_lost_L57 n a (nI c) X Y = some (zS_ls S f d c a, X, Y) := by
  intro d
  induction d with
  | zero =>
    intro c n a hc hd
    obtain ⟨m, rfl⟩ : ∃ m, n = m + 1 := ⟨n - 1, by omega⟩
    obtain rfl : c = 24 := by omega
    rfl
  | succ d ih =>
    intro c n a hc hd
    obtain ⟨m, rfl⟩ : ∃ m, n = m + 1 := ⟨n - 1, by omega⟩
    show fn_Post_lost_B57 (fn_Post_lost_L57 m) _ _ _ _ = some (zS_ls S f d (c + 1) _, X, Y)
    unfold fn_Post_lost_B57 fn_Post_lost_L90
    rw [if_neg (show ¬ (24 : Int32) ≤ nI c from nI_ge (a := c) (b := 24) (by omega) (by omega)), ze_ps rfl hL h (by omega), zp_b1]
    have c1 : nI (zS_ps S c) = (1 : Int32) ↔ (c ≠ zN S 3 ∧ zN S (6 + c) = 1) := by
      unfold zS_ps
      by_cases q1 : c = zN S 3
      · rw [if_pos q1]
        exact ⟨fun q => absurd q (by decide), fun q => absurd q1 q.1⟩
      · rw [if_neg q1]
        by_cases q2 : zN S (6 + c) = 1
        · rw [if_pos q2]
          exact ⟨fun _ => ⟨q1, q2⟩, fun _ => rfl⟩
        · rw [if_neg q2]
          exact ⟨fun q => absurd q (by decide), fun q => absurd q.2 q2⟩
    simp only [c1, zn_ib (show c < 24 by omega) (show 24 < 2 ^ 31 by decide), zp_gd, zn_cl (show c < 2 ^ 31 by omega), hf c (by omega), zp_nx, nI_1, ih (c + 1) m _ (by omega) (by omega)]
    split <;> rfl
theorem zl_lost_M {X : IX} {S : Nat → Int32} (e : X 96 = S) (h : zI_WF S) {Y : LX} {f : Nat → Int64} (hf : ∀ j, j < 24 → Y 100 j = f j) : ∀ (d c n : Nat) (a : Int64), c + d = 24 → d < n → fn_Mod_lost_L29 n a (nI c) X Y = some (zS_ls S f d c a, X, Y) := by
  have w3 := zW_3 h
  intro d
  induction d with
  | zero =>
    intro c n a hc hd
    obtain ⟨m, rfl⟩ : ∃ m, n = m + 1 := ⟨n - 1, by omega⟩
    obtain rfl : c = 24 := by omega
    rfl
  | succ d ih =>
    intro c n a hc hd
    obtain ⟨m, rfl⟩ : ∃ m, n = m + 1 := ⟨n - 1, by omega⟩
    have w6 := zW_6 h (show c < 24 by omega)
    have e6 : (6 : Int32) + nI c = nI (6 + c) := nI_add 6 c
    have c1 : nI (zN S (6 + c)) = (1 : Int32) ↔ zN S (6 + c) = 1 := nI_eq (b := 1) (by omega) (by omega)
    have c2 : nI c = nI (zN S 3) ↔ c = zN S 3 := nI_eq (by omega) (by omega)
    show fn_Mod_lost_B29 (fn_Mod_lost_L29 m) _ _ _ _ = some (zS_ls S f d (c + 1) _, X, Y)
    unfold fn_Mod_lost_B29 fn_Mod_lost_L72 fn_Mod_lost_L73
    rw [if_neg (show ¬ (24 : Int32) ≤ nI c from nI_ge (a := c) (b := 24) (by omega) (by omega)), e6, zn_ib (show 6 + c < 142 by omega) (by decide), zp_gd, zn_cl (by omega), e, w6.1, w3.1]
    simp only [c1, c2, zn_ib (show c < 24 by omega) (show 24 < 2 ^ 31 by decide), zp_gd, zn_cl (show c < 2 ^ 31 by omega), hf c (by omega), zp_nx, nI_1, ih (c + 1) m _ (by omega) (by omega), Int64.add_zero]
    by_cases q1 : zN S (6 + c) = 1
    · rw [if_pos q1]
      by_cases q2 : c = zN S 3
      · rw [if_pos q2, if_neg (fun q => q.1 q2)]
      · rw [if_neg q2, if_pos ⟨q2, q1⟩]
    · rw [if_neg q1, if_neg (fun q => q1 q.2)]
theorem zl_lost_P0 {X : IX} {S : Nat → Int32} (hL : zI_LI X 0 S) (h : zI_WF S) {Y : LX} {f : Nat → Int64} (hf : ∀ j, j < 24 → Y 6 j = f j) : fn_Post_lost_L57 400 (0 : Int64) (0 : Int32) X Y = some (zS_ls S f 24 0 0, X, Y) := by
  have q := zl_lost_P hL h hf 24 0 400 0 (by omega) (by omega)
  rw [nI_0] at q
  exact q
theorem zl_lost_M0 {X : IX} {S : Nat → Int32} (e : X 96 = S) (h : zI_WF S) {Y : LX} {f : Nat → Int64} (hf : ∀ j, j < 24 → Y 100 j = f j) : fn_Mod_lost_L29 400 (0 : Int64) (0 : Int32) X Y = some (zS_ls S f 24 0 0, X, Y) := by
  have q := zl_lost_M e h hf 24 0 400 0 (by omega) (by omega)
  rw [nI_0] at q
  exact q
theorem zl_lost_PG {a1 a2 : Int32} {X : IX} {Y : LX} (hg : (zw 0 a1 23 && zw 0 a2 15) = false) : fn_Post_lost a1 a2 X Y = fn_Post_lost_L17 X Y := by
  unfold fn_Post_lost
  rw [ze_isCell, zp_b1, ze_isWithin, zp_b1]
  cases h1 : zw 0 a1 23 with
  | false => rw [zt_f, if_pos rfl]
  | true =>
    rw [h1, Bool.true_and] at hg
    rw [hg, zt_t, if_neg (by decide), zt_f, if_pos rfl]
theorem zl_lost_PT {a1 a2 : Int32} {X : IX} {Y : LX} (h1 : zw 0 a1 23 = true) (h2 : zw 0 a2 15 = true) : fn_Post_lost a1 a2 X Y = zu_b1 (fn_Chart_lay 20 X) fun X7 => zu_b1 (fn_Chart_spread X7 a1 a2 (X7 1 6) Y) fun Y9 => fn_Post_lost_L57 400 (0 : Int64) (0 : Int32) X7 Y9 := by
  unfold fn_Post_lost
  rw [ze_isCell, zp_b1, ze_isWithin, zp_b1, h1, h2, zt_t, if_neg (by decide), if_neg (by decide)]
theorem zl_lost_MG {a1 a2 : Int32} {X : IX} {Y : LX} (hg : (zw 0 a1 23 && zw 0 a2 15) = false) : fn_Mod_lost a1 a2 X Y = zu_b2 (fn_Mod_finds (-1000001 : Int32) X) fun v7 X8 => some (v7.toInt64, X8, Y) := by
  unfold fn_Mod_lost
  rw [ze_odds, zp_b1, hg, zt_f, if_pos rfl]
theorem zl_lost_MT {a1 a2 : Int32} {X : IX} {Y : LX} (h1 : zw 0 a1 23 = true) (h2 : zw 0 a2 15 = true) : fn_Mod_lost a1 a2 X Y = zu_b2 (fn_Mod_findParts a1 a2 X Y) fun X4 Y5 => fn_Mod_lost_L29 400 (0 : Int64) (0 : Int32) X4 Y5 := by
  unfold fn_Mod_lost
  rw [ze_odds, zp_b1, h1, h2, Bool.true_and, zt_t, if_neg (by decide)]
theorem st_lost {X : IX} {Y : LX} (hI : zI_INV X) (a1 : Int32) (a2 : Int32) : ∃ (v : Int64) (X1 : IX) (Y1 : LX) (X2 : IX) (Y2 : LX), fn_Post_lost a1 a2 X Y = some (v, X1, Y1) ∧ fn_Mod_lost a1 a2 X1 Y1 = some (v, X2, Y2) ∧ zI_INV X2 := by
  have n10 : ((1 : Int32) = 0) = False := by decide
  obtain ⟨X1, X2, e1, e2, e3, e4⟩ := zI_both2 hI (f := -1000001) 0 (by decide) (by decide)
  rcases (Bool.eq_false_or_eq_true (zw 0 a1 23 && zw 0 a2 15)).symm with hg | hg
  · refine ⟨(-1000001 : Int32).toInt64, X1, Y, X2, Y, ?_, ?_, e3⟩
    · rw [zl_lost_PG hg]
      unfold fn_Post_lost_L17
      rw [e1, zp_b2]
    · rw [zl_lost_MG hg, e2, zp_b2]
  simp only [Bool.and_eq_true] at hg
  obtain ⟨h1, h2⟩ := hg
  obtain ⟨c, hc, rfl⟩ := zw_n (m := 23) (by decide) h1
  obtain ⟨N, hN, rfl⟩ := zw_n (m := 15) (by decide) h2
  have hW := hI.1.2
  obtain ⟨Xa, l1, l2, l3⟩ := zC_lay rfl hI.1.1 hW
  obtain ⟨Ya, y1, y2⟩ := zC_spread l2 hW (zS_cs (X 96)) (N := N) (c := c) (by omega) (by omega) Y
  have hIa := hI.keep (zI_keep.lay l3)
  have e96 : Xa 96 = X 96 := l3 96 (by omega)
  have La : zI_LI Xa 0 (X 96) := zI_LI.cg (fun a ha => l3 a (by omega)) hI.1.1
  obtain ⟨Xb, Yb, m1, m2, m3⟩ := zm_find e96 hW (N := N) (c := c) (by omega) (by omega) Ya
  obtain ⟨f, hf⟩ : ∃ f : Nat → Int64, f = fun j => lN (zPc (X 96) (zS_cs (X 96)) N c j) := ⟨_, rfl⟩
  have y2' : ∀ j, j < 24 → Ya 6 j = f j := fun j hj => by rw [hf]; exact y2 j hj
  have m3' : ∀ j, j < 24 → Yb 100 j = f j := fun j hj => by rw [hf]; exact m3 j hj
  refine ⟨zS_ls (X 96) f 24 0 0, Xa, Ya, Xb, Yb, ?_, ?_, hIa.keep m2.keep⟩
  · rw [zl_lost_PT h1 h2, l1, zp_b1, l2.1, y1, zp_b1, zl_lost_P0 La hW y2']
  · rw [zl_lost_MT h1 h2, m1, zp_b2, zl_lost_M0 (show Xb 96 = X 96 by rw [m2.row (by decide)]; exact e96) hW m3']
/-! the likeliest cell -/
def zS_lk (f : Nat → Int64) : Nat → Nat → Nat → Nat
  | 0, _, b => b
  | d + 1, c, b => zS_lk f d (c + 1) (if f c ≤ f b then b else c)
theorem zl_lk_P (X : IX) {Y : LX} {f : Nat → Int64} (hf : ∀ j, j < 24 → Y 6 j = f j) : ∀ (d c n b : Nat), c + d = 24 → d < n → b < 24 → fn_Post_likeliest_L56 n (nI b) (nI c) X Y = some (nI (zS_lk f d c b), X, Y) := by
  intro d
  induction d with
  | zero =>
    intro c n b hc hd hb
    obtain ⟨m, rfl⟩ : ∃ m, n = m + 1 := ⟨n - 1, by omega⟩
    obtain rfl : c = 24 := by omega
    rfl
  | succ d ih =>
    intro c n b hc hd hb
    obtain ⟨m, rfl⟩ : ∃ m, n = m + 1 := ⟨n - 1, by omega⟩
    show fn_Post_likeliest_B56 (fn_Post_likeliest_L56 m) _ _ _ _ = some (nI (zS_lk f d (c + 1) _), X, Y)
    unfold fn_Post_likeliest_B56 fn_Post_likeliest_L89
    rw [if_neg (show ¬ (24 : Int32) ≤ nI c from nI_ge (a := c) (b := 24) (by omega) (by omega)), zn_ib (show c < 24 by omega) (by decide), zp_gd, zn_ib hb (by decide), zp_gd, zn_cl (by omega), zn_cl (by omega), hf c (by omega), hf b hb]
    simp only [zm_cmp_le, zp_nx, nI_1]
    split
    · exact ih (c + 1) m b (by omega) (by omega) hb
    · exact ih (c + 1) m c (by omega) (by omega) (by omega)
theorem zl_lk_M (X : IX) {Y : LX} {f : Nat → Int64} (hf : ∀ j, j < 24 → Y 100 j = f j) : ∀ (d c n b : Nat), c + d = 24 → d < n → b < 24 → fn_Mod_likeliest_L28 n (nI b) (nI c) X Y = some (nI (zS_lk f d c b), X, Y) := by
  intro d
  induction d with
  | zero =>
    intro c n b hc hd hb
    obtain ⟨m, rfl⟩ : ∃ m, n = m + 1 := ⟨n - 1, by omega⟩
    obtain rfl : c = 24 := by omega
    rfl
  | succ d ih =>
    intro c n b hc hd hb
    obtain ⟨m, rfl⟩ : ∃ m, n = m + 1 := ⟨n - 1, by omega⟩
    show fn_Mod_likeliest_B28 (fn_Mod_likeliest_L28 m) _ _ _ _ = some (nI (zS_lk f d (c + 1) _), X, Y)
    unfold fn_Mod_likeliest_B28 fn_Mod_likeliest_L58
    rw [if_neg (show ¬ (24 : Int32) ≤ nI c from nI_ge (a := c) (b := 24) (by omega) (by omega)), zn_ib (show c < 24 by omega) (by decide), zp_gd, zn_ib hb (by decide), zp_gd, zn_cl (by omega), zn_cl (by omega), hf c (by omega), hf b hb]
    simp only [zm_cmp_le, zp_nx, nI_1]
    split
    · exact ih (c + 1) m b (by omega) (by omega) hb
    · exact ih (c + 1) m c (by omega) (by omega) (by omega)
theorem st_likeliest {X : IX} {Y : LX} (hI : zI_INV X) (a1 : Int32) (a2 : Int32) : ∃ (v : Int32) (X1 : IX) (Y1 : LX) (X2 : IX) (Y2 : LX), fn_Post_likeliest a1 a2 X Y = some (v, X1, Y1) ∧ fn_Mod_likeliest a1 a2 X1 Y1 = some (v, X2, Y2) ∧ zI_INV X2 := by
  have n10 : ((1 : Int32) = 0) = False := by decide
  obtain ⟨X1, X2, e1, e2, e3, e4⟩ := zI_both2 hI (f := -1000001) 0 (by decide) (by decide)
  rcases (Bool.eq_false_or_eq_true (zw 0 a1 23 && zw 0 a2 15)).symm with hg | hg
  · refine ⟨-1000001, X1, Y, X2, Y, ?_, ?_, e3⟩
    · cases h1 : zw 0 a1 23 <;> cases h2 : zw 0 a2 15 <;> first
        | exact absurd hg (by rw [h1, h2]; decide)
        | simp only [fn_Post_likeliest, fn_Post_likeliest_L17, ze_isCell, ze_isWithin, h1, h2, zp_b1, zp_b2, zp_nx, zt_f, zt_t, e1, n10, Bool.and_true, Bool.and_false, Bool.true_and, Bool.false_and, ↓reduceIte]
    · cases h1 : zw 0 a1 23 <;> cases h2 : zw 0 a2 15 <;> first
        | exact absurd hg (by rw [h1, h2]; decide)
        | simp only [fn_Mod_likeliest, ze_odds, h1, h2, zp_b1, zp_b2, zp_nx, zt_f, zt_t, e2, n10, Bool.and_true, Bool.and_false, Bool.true_and, Bool.false_and, ↓reduceIte]
  simp only [Bool.and_eq_true] at hg
  obtain ⟨h1, h2⟩ := hg
  obtain ⟨c, hc, rfl⟩ := zw_n (m := 23) (by decide) h1
  obtain ⟨N, hN, rfl⟩ := zw_n (m := 15) (by decide) h2
  have hW := hI.1.2
  obtain ⟨Xa, l1, l2, l3⟩ := zC_lay rfl hI.1.1 hW
  obtain ⟨Ya, y1, y2⟩ := zC_spread l2 hW (zS_cs (X 96)) (N := N) (c := c) (by omega) (by omega) Y
  have hIa := hI.keep (zI_keep.lay l3)
  have e96 : Xa 96 = X 96 := l3 96 (by omega)
  have La : zI_LI Xa 0 (X 96) := zI_LI.cg (fun a ha => l3 a (by omega)) hI.1.1
  obtain ⟨Xb, Yb, m1, m2, m3⟩ := zm_find e96 hW (N := N) (c := c) (by omega) (by omega) Ya
  obtain ⟨f, hf⟩ : ∃ f : Nat → Int64, f = fun j => lN (zPc (X 96) (zS_cs (X 96)) N c j) := ⟨_, rfl⟩
  have y2' : ∀ j, j < 24 → Ya 6 j = f j := fun j hj => by rw [hf]; exact y2 j hj
  have m3' : ∀ j, j < 24 → Yb 100 j = f j := fun j hj => by rw [hf]; exact m3 j hj
  refine ⟨nI (zS_lk f 23 1 0), Xa, Ya, Xb, Yb, ?_, ?_, hIa.keep m2.keep⟩
  · simp only [fn_Post_likeliest, ze_isCell, ze_isWithin, h1, h2, zp_b1, zt_t, n10, ↓reduceIte, l1, l2.1, y1]
    exact zl_lk_P Xa y2' 23 1 400 0 (by omega) (by omega) (by omega)
  · simp only [fn_Mod_likeliest, ze_odds, h1, h2, Bool.and_true, zp_b1, zp_b2, zt_t, n10, ↓reduceIte, m1]
    exact zl_lk_M Xb m3' 23 1 400 0 (by omega) (by omega) (by omega)
/-! copies -/
def zS_all : Nat → Int64 → Int64
  | 0, a => a
  | d + 1, a => zS_all d (a * 12)
theorem zm_all_L {N : Nat} (hN : N ≤ 15) : ∀ (d i n : Nat) (a : Int64), i + d = N → d < n → fn_Mod_all_L4 n (nI N) a (nI i) = some (zS_all d a) := by
  intro d
  induction d with
  | zero =>
    intro i n a hc hd
    obtain ⟨m, rfl⟩ : ∃ m, n = m + 1 := ⟨n - 1, by omega⟩
    show fn_Mod_all_B4 _ _ _ _ = _
    unfold fn_Mod_all_B4
    rw [if_pos ((nI_leI (by omega) (by omega)).mpr (by omega))]
    rfl
  | succ d ih =>
    intro i n a hc hd
    obtain ⟨m, rfl⟩ : ∃ m, n = m + 1 := ⟨n - 1, by omega⟩
    show fn_Mod_all_B4 (fn_Mod_all_L4 m) _ _ _ = _
    unfold fn_Mod_all_B4
    rw [if_neg (nI_ge (a := i) (by omega) (by omega)), zp_nx, zp_nx, nI_1]
    exact ih (i + 1) m _ (by omega) (by omega)
theorem zl_copies_P {X : IX} {Y : LX} {N c : Nat} (hN : N ≤ 15) : ∀ (d i n : Nat) (a : Int64), i + d = N → d < n → fn_Post_copies_L30 n (nI c) (nI N) a (nI i) X Y = zu_b3 (fn_Post_homeParts 20 (nI c) (nI N) X Y) fun v X' Y' => some ((zS_all d a * zS_all d a) - ((zS_all d a - v) * (zS_all d a - v)), X', Y') := by
  intro d
  induction d with
  | zero =>
    intro i n a hc hd
    obtain ⟨m, rfl⟩ : ∃ m, n = m + 1 := ⟨n - 1, by omega⟩
    show fn_Post_copies_B30 _ _ _ _ _ _ _ = _
    unfold fn_Post_copies_B30
    rw [if_pos ((nI_leI (by omega) (by omega)).mpr (by omega))]
    rfl
  | succ d ih =>
    intro i n a hc hd
    obtain ⟨m, rfl⟩ : ∃ m, n = m + 1 := ⟨n - 1, by omega⟩
    show fn_Post_copies_B30 (fn_Post_copies_L30 m) _ _ _ _ _ _ = _
    unfold fn_Post_copies_B30
    rw [if_neg (nI_ge (a := i) (by omega) (by omega)), zp_nx, zp_nx, nI_1]
    exact ih (i + 1) m _ (by omega) (by omega)
theorem st_copies {X : IX} {Y : LX} (hI : zI_INV X) (a1 : Int32) (a2 : Int32) : ∃ (v : Int64) (X1 : IX) (Y1 : LX) (X2 : IX) (Y2 : LX), fn_Post_copies a1 a2 X Y = some (v, X1, Y1) ∧ fn_Mod_copies a1 a2 X1 Y1 = some (v, X2, Y2) ∧ zI_INV X2 := by
  have n10 : ((1 : Int32) = 0) = False := by decide
  obtain ⟨X1, X2, e1, e2, e3, e4⟩ := zI_both2 hI (f := -1000001) 0 (by decide) (by decide)
  rcases (Bool.eq_false_or_eq_true (zw 0 a1 23 && zw 0 a2 7)).symm with hg | hg
  · refine ⟨(-1000001 : Int32).toInt64, X1, Y, X2, Y, ?_, ?_, e3⟩
    · cases h1 : zw 0 a1 23 <;> cases h2 : zw 0 a2 7 <;> first
        | exact absurd hg (by rw [h1, h2]; decide)
        | simp only [fn_Post_copies, fn_Post_copies_L17, ze_isCell, ze_isWithin, h1, h2, zp_b1, zp_b2, zp_nx, zt_f, zt_t, e1, n10, Bool.and_true, Bool.and_false, Bool.true_and, Bool.false_and, ↓reduceIte]
    · cases h1 : zw 0 a1 23 <;> cases h2 : zw 0 a2 7 <;> first
        | exact absurd hg (by rw [h1, h2]; decide)
        | simp only [fn_Mod_copies, ze_odds, h1, h2, zp_b1, zp_b2, zp_nx, zt_f, zt_t, e2, n10, Bool.and_true, Bool.and_false, Bool.true_and, Bool.false_and, ↓reduceIte]
  simp only [Bool.and_eq_true] at hg
  obtain ⟨h1, h2⟩ := hg
  obtain ⟨c, hc, rfl⟩ := zw_n (m := 23) (by decide) h1
  obtain ⟨N, hN, rfl⟩ := zw_n (m := 7) (by decide) h2
  have hW := hI.1.2
  obtain ⟨Xa, Ya, y1, l3⟩ := zC_home rfl hI.1.1 hW (N := N) (c := c) (by omega) (by omega) Y
  have hIa := hI.keep (zI_keep.lay l3)
  have e96 : Xa 96 = X 96 := l3 96 (by omega)
  obtain ⟨Xb, Yb, m1, m2⟩ := zm_home e96 hW (N := N) (c := c) (by omega) (by omega) Ya
  have al : fn_Mod_all (nI N) = some (zS_all N 1) := zm_all_L (show N ≤ 15 by omega) N 0 400 1 (by omega) (by omega)
  refine ⟨(zS_all N 1 * zS_all N 1) - ((zS_all N 1 - lN (zPh (X 96) (zS_cs (X 96)) N c)) * (zS_all N 1 - lN (zPh (X 96) (zS_cs (X 96)) N c))), Xa, Ya, Xb, Yb, ?_, ?_, hIa.keep m2.keep⟩
  · simp only [fn_Post_copies, ze_isCell, ze_isWithin, h1, h2, zp_b1, zt_t, n10, ↓reduceIte]
    have q : fn_Post_copies_L30 400 (nI c) (nI N) 1 (0 : Int32) X Y = _ := zl_copies_P (show N ≤ 15 by omega) N 0 400 1 (by omega) (by omega)
    rw [q, y1, zp_b3]
  · simp only [fn_Mod_copies, ze_odds, h1, h2, Bool.and_true, zp_b1, zp_b3, zt_t, n10, ↓reduceIte, al, m1, zp_nx]
