theorem ze_isThrow (a b : Int32) : fn_Post_isThrow a b = some (zt (zw 0 a 1 && zw 0 b 23)) := by
  unfold fn_Post_isThrow fn_Post_isThrow_L23 fn_Post_isThrow_L24
  rw [ze_isWithin, ze_isWithin, zp_b1, zp_b1]
  cases zw 0 a 1 <;> cases zw 0 b 23 <;> rfl
theorem ze_mThrow {X : IX} {n : Nat} (h : X 96 1 = nI n) (hn : n ≤ 10) (a b c : Int32) : fn_Mod_isThrow X a b c = some (zt (zh n a && zw 0 b 1 && zw 0 c 23)) := by
  unfold fn_Mod_isThrow fn_Mod_isThrow_L34 fn_Mod_isThrow_L35
  rw [ze_mThrower h hn, ze_inN b 0 1 0 1 rfl rfl, ze_inN c 0 23 0 23 rfl rfl, zp_b1, zp_b1, zp_b1]
  cases zh n a <;> cases zw 0 b 1 <;> cases zw 0 c 23 <;> rfl
theorem st_told {X : IX} {Y : LX} (hI : zI_INV X) (a1 : Int32) (a2 : Int32) (a3 : Int32) (a4 : Int32) : ∃ (v : Int32) (X1 : IX) (X2 : IX), fn_Post_told a1 a2 a3 a4 X = some (v, X1) ∧ fn_Mod_told a1 a2 a3 a4 X1 = some (v, X2) ∧ zI_INV X2 := by
  have n10 : ((1 : Int32) = 0) = False := by decide
  obtain ⟨X1, X2, e1, e2, e3, e4⟩ := zI_both2 hI (f := -1000001) 0 (by decide) (by decide)
  obtain ⟨n1, hn⟩ := zI_1 hI
  obtain ⟨n, en⟩ : ∃ n, n = zN (X 96) 1 := ⟨_, rfl⟩
  rw [← en] at n1 hn
  have t1 : X 20 4 = nI n := by rw [(zL_h rfl hI.1.1).2.1, n1]
  have m1 : X1 96 1 = nI n := by rw [e4 96 (by decide), n1]
  rcases (Bool.eq_false_or_eq_true (zh n a1 && zw 0 a2 1 && zw 0 a3 1 && zw 0 a4 23)).symm with hg | hg
  · refine ⟨-1000001, X1, X2, ?_, ?_, e3⟩
    · cases h1 : zh n a1 <;> cases h2 : zw 0 a2 1 <;> cases h3 : zw 0 a3 1 <;> cases h4 : zw 0 a4 23 <;> first
        | exact absurd hg (by rw [h1, h2, h3, h4]; decide)
        | simp only [fn_Post_told, fn_Post_told_L26, ze_isThrower t1 hn, ze_isWithin, ze_isThrow, h1, h2, h3, h4, zp_b1, zp_b2, zp_nx, zt_f, zt_t, e1, n10, Bool.and_true, Bool.and_false, Bool.true_and, Bool.false_and, ↓reduceIte]
    · cases h1 : zh n a1 <;> cases h2 : zw 0 a2 1 <;> cases h3 : zw 0 a3 1 <;> cases h4 : zw 0 a4 23 <;> first
        | exact absurd hg (by rw [h1, h2, h3, h4]; decide)
        | simp only [fn_Mod_told, fn_Mod_told_L21, ze_mThrow m1 hn, ze_inN a2 0 1 0 1 rfl rfl, h1, h2, h3, h4, zp_b1, zp_b2, zp_nx, zt_f, zt_t, e2, n10, Bool.and_true, Bool.and_false, Bool.true_and, Bool.false_and, ↓reduceIte]
  simp only [Bool.and_eq_true] at hg
  obtain ⟨⟨⟨h1, h2⟩, h3⟩, h4⟩ := hg
  obtain ⟨t, ht, rfl⟩ := zh_t (by omega) h1
  obtain ⟨w, hw, rfl⟩ := zw_n (m := 1) (by decide) h2
  obtain ⟨f, hf, rfl⟩ := zw_n (m := 1) (by decide) h3
  obtain ⟨c, hc, rfl⟩ := zw_n (m := 23) (by decide) h4
  have hW := hI.1.2
  have ht' : t < zN (X 96) 1 := by omega
  have ib : zu_ib (nI t) 10 = true := zn_ib (by omega) (by decide)
  have p1 := ze_reach rfl hI.1.1 hW (ng := zg_night c) ht' (show f < 2 by omega)
  have p2 := ze_sure rfl hI.1.1 hW (ng := zg_night c) ht' (show f < 2 by omega)
  have q1 := zm_reach (X := X) rfl hW ht' (show f < 2 by omega) (show c < 24 by omega)
  have q2 := zm_sure (X := X) rfl hW ht' (show f < 2 by omega) (show c < 24 by omega)
  rcases (show w = 0 ∨ w = 1 by omega) with rfl | rfl
  · refine ⟨nI (zR_each (X 96) t f (zg_night c)), X, X, ?_, ?_, hI⟩
    · simp only [fn_Post_told, fn_Post_told_L73, ze_isThrower t1 hn, ze_isWithin, ze_isThrow, h1, h2, h3, h4, Bool.and_true, zp_b1, zt_t, n10, ↓reduceIte, ib, zp_gd, if_pos (show nI 0 = (0 : Int32) from rfl), ze_night (show c < 2 ^ 31 by omega), zn_cl (show t < 2 ^ 31 by omega), p1, zp_nx]
    · simp only [fn_Mod_told, fn_Mod_told_L51, ze_mThrow n1 hn, ze_inN (nI 0) 0 1 0 1 rfl rfl, h1, h2, h3, h4, Bool.and_true, zp_b1, zt_t, n10, ↓reduceIte, if_pos (show nI 0 = (0 : Int32) from rfl), q1]
  · refine ⟨nI (zR_sure (X 96) t f (zg_night c)), X, X, ?_, ?_, hI⟩
    · simp only [fn_Post_told, fn_Post_told_L73, ze_isThrower t1 hn, ze_isWithin, ze_isThrow, h1, h2, h3, h4, Bool.and_true, zp_b1, zt_t, n10, ↓reduceIte, ib, zp_gd, if_neg (show ¬ (nI 1 = (0 : Int32)) by decide), ze_night (show c < 2 ^ 31 by omega), zn_cl (show t < 2 ^ 31 by omega), p2, zp_nx]
    · simp only [fn_Mod_told, fn_Mod_told_L51, ze_mThrow n1 hn, ze_inN (nI 1) 0 1 0 1 rfl rfl, h1, h2, h3, h4, Bool.and_true, zp_b1, zt_t, n10, ↓reduceIte, if_neg (show ¬ (nI 1 = (0 : Int32)) by decide), q2]
theorem st_falls {X : IX} {Y : LX} (hI : zI_INV X) (a1 : Int32) (a2 : Int32) (a3 : Int32) (a4 : Int32) : ∃ (v : Int32) (X1 : IX) (X2 : IX), fn_Post_falls a1 a2 a3 a4 X = some (v, X1) ∧ fn_Mod_falls a1 a2 a3 a4 X1 = some (v, X2) ∧ zI_INV X2 := by
  have n10 : ((1 : Int32) = 0) = False := by decide
  obtain ⟨X1, X2, e1, e2, e3, e4⟩ := zI_both2 hI (f := -1000001) 0 (by decide) (by decide)
  obtain ⟨n1, hn⟩ := zI_1 hI
  obtain ⟨n, en⟩ : ∃ n, n = zN (X 96) 1 := ⟨_, rfl⟩
  rw [← en] at n1 hn
  have t1 : X 20 4 = nI n := by rw [(zL_h rfl hI.1.1).2.1, n1]
  have m1 : X1 96 1 = nI n := by rw [e4 96 (by decide), n1]
  rcases (Bool.eq_false_or_eq_true (zh n a1 && zw 0 a2 1 && zw 0 a3 23)).symm with hg | hg
  · refine ⟨-1000001, X1, X2, ?_, ?_, e3⟩
    · cases h1 : zh n a1 <;> cases h2 : zw 0 a2 1 <;> cases h3 : zw 0 a3 23 <;> first
        | exact absurd hg (by rw [h1, h2, h3]; decide)
        | simp only [fn_Post_falls, fn_Post_falls_L16, ze_isThrower t1 hn, ze_isThrow, h1, h2, h3, zp_b1, zp_b2, zp_nx, zt_f, zt_t, e1, n10, Bool.and_true, Bool.and_false, Bool.true_and, Bool.false_and, ↓reduceIte]
    · cases h1 : zh n a1 <;> cases h2 : zw 0 a2 1 <;> cases h3 : zw 0 a3 23 <;> first
        | exact absurd hg (by rw [h1, h2, h3]; decide)
        | simp only [fn_Mod_falls, fn_Mod_falls_L28, ze_mThrow m1 hn, h1, h2, h3, zp_b1, zp_b2, zp_nx, zt_f, zt_t, e2, n10, Bool.and_true, Bool.and_false, Bool.true_and, Bool.false_and, ↓reduceIte]
  simp only [Bool.and_eq_true] at hg
  obtain ⟨⟨h1, h2⟩, h3⟩ := hg
  obtain ⟨t, ht, rfl⟩ := zh_t (by omega) h1
  obtain ⟨f, hf, rfl⟩ := zw_n (m := 1) (by decide) h2
  obtain ⟨c, hc, rfl⟩ := zw_n (m := 23) (by decide) h3
  have hW := hI.1.2
  have ht' : t < zN (X 96) 1 := by omega
  have ib : zu_ib (nI t) 10 = true := zn_ib (by omega) (by decide)
  have p1 := ze_told rfl hI.1.1 hW (ng := zg_night c) ht' (show f < 2 by omega)
  have p2 := ze_short rfl hI.1.1 hW (ng := zg_night c) ht' (show f < 2 by omega)
  by_cases hz : a4 = 0
  · have q1 := zm_landing (X := X) rfl hW false ht' (show f < 2 by omega) (show c < 24 by omega) (a4 := a4) (by simp [hz])
    refine ⟨nI (zR_told (X 96) t f (zg_night c)), X, X, ?_, ?_, hI⟩
    · simp only [fn_Post_falls, fn_Post_falls_L62, ze_isThrower t1 hn, ze_isThrow, h1, h2, h3, Bool.and_true, zp_b1, zt_t, n10, ↓reduceIte, ib, zp_gd, if_pos hz, ze_night (show c < 2 ^ 31 by omega), zn_cl (show t < 2 ^ 31 by omega), p1, zp_nx]
    · simp only [fn_Mod_falls, fn_Mod_falls_L28, ze_mThrow n1 hn, h1, h2, h3, Bool.and_true, zp_b1, zt_t, n10, ↓reduceIte, q1]
      rfl
  · have q1 := zm_landing (X := X) rfl hW true ht' (show f < 2 by omega) (show c < 24 by omega) (a4 := a4) (by simp [hz])
    refine ⟨nI (zR_short (X 96) t f (zg_night c)), X, X, ?_, ?_, hI⟩
    · simp only [fn_Post_falls, fn_Post_falls_L62, ze_isThrower t1 hn, ze_isThrow, h1, h2, h3, Bool.and_true, zp_b1, zt_t, n10, ↓reduceIte, ib, zp_gd, if_neg hz, ze_night (show c < 2 ^ 31 by omega), zn_cl (show t < 2 ^ 31 by omega), p2, zp_nx]
    · simp only [fn_Mod_falls, fn_Mod_falls_L28, ze_mThrow n1 hn, h1, h2, h3, Bool.and_true, zp_b1, zt_t, n10, ↓reduceIte, q1]
/-! whose stone -/
def zR_hit (S : Nat → Int32) (c t far : Nat) (ng : Bool) : Bool := (decide (0 < zR_sure S t far ng) && decide (zR_told S t far ng = c)) || (decide (zR_sure S t far ng < 12) && decide (zR_short S t far ng = c))
theorem zc_hit {X : IX} {S : Nat → Int32} {o r : Nat} (hr : r = 20 + o) (hL : zI_LI X o S) (h : zI_WF S) {t far c : Nat} {ng : Bool} (ht : t < zN S 1) (hf : far < 2) (hc : c < 24) (k : Nat → Int32 → Int32 → Int32 → Option Int32) : fn_Thr_canHit_B2 X k (zu_th (r + 6) t) (nI c) (zt ng) (nI far) = if zR_hit S c t far ng = true then some 1 else k (zu_th (r + 6) t) (nI c) (zt ng) (nI (far + 1)) := by
  have b1 := zR_sure_le h (far := far) (ng := ng) ht
  have b2 := zR_told_le h (far := far) (ng := ng) ht
  have b3 := zR_short_le h (far := far) (ng := ng) ht
  unfold fn_Thr_canHit_B2 fn_Thr_canHit_L30 fn_Thr_canHit_L47 fn_Thr_canHit_L49
  rw [ze_sure hr hL h ht hf, ze_told hr hL h ht hf, ze_short hr hL h ht hf, if_neg (show ¬ (1 : Int32) < nI far from nI_nlt (a := 1) (b := far) (by omega) (by omega))]
  simp only [zp_nx, nI_1]
  have c1 : (nI (zR_sure S t far ng) ≤ (0 : Int32)) ↔ ¬ 0 < zR_sure S t far ng := (nI_leI (b := 0) (by omega) (by omega)).trans (by omega)
  have c2 : ((12 : Int32) ≤ nI (zR_sure S t far ng)) ↔ ¬ zR_sure S t far ng < 12 := (nI_leI (a := 12) (by omega) (by omega)).trans (by omega)
  have c3 : (nI (zR_told S t far ng) = nI c) ↔ zR_told S t far ng = c := nI_eq (by omega) (by omega)
  have c4 : (nI (zR_short S t far ng) = nI c) ↔ zR_short S t far ng = c := nI_eq (by omega) (by omega)
  simp only [c1, c2, c3, c4]
  unfold zR_hit
  by_cases d1 : 0 < zR_sure S t far ng <;> by_cases d2 : zR_sure S t far ng < 12 <;> by_cases d3 : zR_told S t far ng = c <;> by_cases d4 : zR_short S t far ng = c <;> simp [d1, d2, d3, d4]
theorem zc_canHit {X : IX} {S : Nat → Int32} {o r : Nat} (hr : r = 20 + o) (hL : zI_LI X o S) (h : zI_WF S) {t c : Nat} {ng : Bool} (ht : t < zN S 1) (hc : c < 24) : fn_Thr_canHit X (zu_th (r + 6) t) (nI c) (zt ng) = some (zt (zR_hit S c t 0 ng || zR_hit S c t 1 ng)) := by
  show fn_Thr_canHit_B2 X (fn_Thr_canHit_L2 X 399) (zu_th (r + 6) t) (nI c) (zt ng) (nI 0) = _
  rw [zc_hit hr hL h ht (by omega) hc]
  cases zR_hit S c t 0 ng with
  | true => rfl
  | false =>
    show fn_Thr_canHit_B2 X (fn_Thr_canHit_L2 X 398) (zu_th (r + 6) t) (nI c) (zt ng) (nI 1) = _
    rw [zc_hit hr hL h ht (by omega) hc]
    cases zR_hit S c t 1 ng with
    | true => rfl
    | false => rfl
def zwh (S : Nat → Int32) (c : Nat) (ng : Bool) : Nat → Nat → Int32 → Int32
  | 0, _, a => a
  | d + 1, t, a => zwh S c ng d (t + 1) (if (zR_hit S c t 0 ng || zR_hit S c t 1 ng) = true then a ||| ((1 : Int32) <<< (nI t &&& 31)) else a)
theorem zwh_P {X : IX} (hI : zI_INV X) {c k : Nat} (hc : c < 24) (hk : k < 24) : ∀ (d t n : Nat) (a : Int32), t + d = zN (X 96) 1 → d < n → fn_Post_whose_L29 n (nI c) (nI k) a (nI t) X = some (zwh (X 96) c (zg_night k) d t a, X) := by
  have hW := hI.1.2
  obtain ⟨n1, hn⟩ := zI_1 hI
  have t1 : X 20 4 = nI (zN (X 96) 1) := by rw [(zL_h rfl hI.1.1).2.1]; exact n1
  intro d
  induction d with
  | zero =>
    intro t n a ht hd
    obtain ⟨m, rfl⟩ : ∃ m, n = m + 1 := ⟨n - 1, by omega⟩
    show fn_Post_whose_B29 _ _ _ _ _ _ = _
    unfold fn_Post_whose_B29
    rw [t1, if_pos ((nI_leI (by omega) (by omega)).mpr (by omega))]
    rfl
  | succ d ih =>
    intro t n a ht hd
    obtain ⟨m, rfl⟩ : ∃ m, n = m + 1 := ⟨n - 1, by omega⟩
    show fn_Post_whose_B29 (fn_Post_whose_L29 m) _ _ _ _ _ = _
    unfold fn_Post_whose_B29 fn_Post_whose_L69
    have hit := zc_canHit rfl hI.1.1 hW (t := t) (ng := zg_night k) (by omega) hc
    rw [t1, if_neg (nI_ge (a := t) (by omega) (by omega))]
    simp only [zn_ib (show t < 10 by omega) (by decide), zp_gd, ze_night (show k < 2 ^ 31 by omega), zp_b1, zn_cl (show t < 2 ^ 31 by omega), hit, zp_nx, nI_1, zt_0]
    rw [ih (t + 1) m _ (by omega) (by omega), ih (t + 1) m _ (by omega) (by omega)]
    show _ = some (zwh _ _ _ d (t + 1) _, X)
    cases (zR_hit (X 96) c t 0 (zg_night k) || zR_hit (X 96) c t 1 (zg_night k)) <;> rfl
theorem zwh_M2 {X : IX} {S : Nat → Int32} (e : X 96 = S) (h : zI_WF S) {c k t far : Nat} (hc : c < 24) (hk : k < 24) (ht : t < zN S 1) (hf : far < 2) (k31 : Int32 → Int32 → Int32 → Int32 → IX → Option (Int32 × IX)) (k45 : Int32 → Int32 → Int32 → Int32 → Int32 → IX → Option (Int32 × IX)) (a : Int32) : fn_Mod_whose_B45 k31 k45 (nI c) (nI k) a (nI t) (nI far) X = k45 (nI c) (nI k) (if zR_hit S c t far (zg_night k) = true then a ||| ((1 : Int32) <<< (nI t &&& 31)) else a) (nI t) (nI (far + 1)) X := by
  have b1 := zR_sure_le h (far := far) (ng := zg_night k) ht
  have b2 := zR_told_le h (far := far) (ng := zg_night k) ht
  have b3 := zR_short_le h (far := far) (ng := zg_night k) ht
  have q1 := zm_landing e h false ht hf hk (a4 := 0) (by decide)
  have q2 := zm_landing e h true ht hf hk (a4 := 1) (by decide)
  unfold fn_Mod_whose_B45 fn_Mod_whose_L81 fn_Mod_whose_L82 fn_Mod_whose_L117 fn_Mod_whose_L121 fn_Mod_whose_L122 fn_Mod_whose_L138
  have n10 : ((1 : Int32) = 0) = False := by decide
  simp only [zm_sure e h ht hf hk, q1, q2, zp_b1, zp_nx, nI_1, n10, ↓reduceIte, if_neg (show ¬ (2 : Int32) ≤ nI far from nI_ge (a := far) (b := 2) (by omega) (by omega)), Int32.or_zero, Bool.false_eq_true]
  have c1 : (nI (zR_sure S t far (zg_night k)) ≤ (0 : Int32)) ↔ ¬ 0 < zR_sure S t far (zg_night k) := (nI_leI (b := 0) (by omega) (by omega)).trans (by omega)
  have c2 : ((12 : Int32) ≤ nI (zR_sure S t far (zg_night k))) ↔ ¬ zR_sure S t far (zg_night k) < 12 := (nI_leI (a := 12) (by omega) (by omega)).trans (by omega)
  have c3 : (nI (zR_told S t far (zg_night k)) = nI c) ↔ zR_told S t far (zg_night k) = c := nI_eq (by omega) (by omega)
  have c4 : (nI (zR_short S t far (zg_night k)) = nI c) ↔ zR_short S t far (zg_night k) = c := nI_eq (by omega) (by omega)
  simp only [c1, c2, c3, c4]
  unfold zR_hit
  by_cases d1 : 0 < zR_sure S t far (zg_night k) <;> by_cases d2 : zR_sure S t far (zg_night k) < 12 <;> by_cases d3 : zR_told S t far (zg_night k) = c <;> by_cases d4 : zR_short S t far (zg_night k) = c <;> simp [d1, d2, d3, d4]
theorem zwh_M {X : IX} {S : Nat → Int32} (e : X 96 = S) (h : zI_WF S) {c k : Nat} (hc : c < 24) (hk : k < 24) : ∀ (d t n : Nat) (a : Int32), t + d = zN S 1 → d < n → fn_Mod_whose_L31 n (nI c) (nI k) a (nI t) X = some (zwh S c (zg_night k) d t a, X) := by
  have n1 := h.2.1.n (by omega)
  have hn : zN S 1 ≤ 10 := n1.2
  have t1 : X 96 1 = nI (zN S 1) := by rw [e]; exact n1.1
  intro d
  induction d with
  | zero =>
    intro t n a ht hd
    obtain ⟨m, rfl⟩ : ∃ m, n = m + 1 := ⟨n - 1, by omega⟩
    show fn_Mod_whose_B31 _ _ _ _ _ _ = _
    unfold fn_Mod_whose_B31
    rw [t1, if_pos ((nI_leI (by omega) (by omega)).mpr (by omega))]
    rfl
  | succ d ih =>
    intro t n a ht hd
    obtain ⟨m, rfl⟩ : ∃ m, n = m + 1 := ⟨n - 1, by omega⟩
    show fn_Mod_whose_B31 (fn_Mod_whose_L31 m) _ _ _ _ _ = _
    unfold fn_Mod_whose_B31
    rw [t1, if_neg (nI_ge (a := t) (by omega) (by omega))]
    show fn_Mod_whose_B45 _ (fn_Mod_whose_L45 (fn_Mod_whose_L31 m) 399) (nI c) (nI k) a (nI t) (nI 0) X = _
    rw [zwh_M2 e h hc hk (by omega) (by omega)]
    show fn_Mod_whose_B45 _ (fn_Mod_whose_L45 (fn_Mod_whose_L31 m) 398) (nI c) (nI k) _ (nI t) (nI 1) X = _
    rw [zwh_M2 e h hc hk (by omega) (by omega)]
    show fn_Mod_whose_B45 _ (fn_Mod_whose_L45 (fn_Mod_whose_L31 m) 397) (nI c) (nI k) _ (nI t) (nI 2) X = _
    unfold fn_Mod_whose_B45
    rw [if_pos (show (2 : Int32) ≤ nI 2 by decide), zp_nx, nI_1, ih (t + 1) m _ (by omega) (by omega)]
    show _ = some (zwh _ _ _ d (t + 1) _, X)
    cases zR_hit S c t 0 (zg_night k) <;> cases zR_hit S c t 1 (zg_night k) <;> simp [Int32.or_assoc, Int32.or_self]
theorem st_whose {X : IX} {Y : LX} (hI : zI_INV X) (a1 : Int32) (a2 : Int32) : ∃ (v : Int32) (X1 : IX) (X2 : IX), fn_Post_whose a1 a2 X = some (v, X1) ∧ fn_Mod_whose a1 a2 X1 = some (v, X2) ∧ zI_INV X2 := by
  have n10 : ((1 : Int32) = 0) = False := by decide
  obtain ⟨X1, X2, e1, e2, e3, e4⟩ := zI_both2 hI (f := -1000001) 0 (by decide) (by decide)
  rcases (Bool.eq_false_or_eq_true (zw 0 a1 23 && zw 0 a2 23)).symm with hg | hg
  · refine ⟨-1000001, X1, X2, ?_, ?_, e3⟩
    · cases h1 : zw 0 a1 23 <;> cases h2 : zw 0 a2 23 <;> first
        | exact absurd hg (by rw [h1, h2]; decide)
        | simp only [fn_Post_whose, fn_Post_whose_L17, ze_isCell, ze_isWithin, h1, h2, zp_b1, zp_b2, zp_nx, zt_f, zt_t, e1, n10, Bool.and_true, Bool.and_false, Bool.true_and, Bool.false_and, ↓reduceIte]
    · cases h1 : zw 0 a1 23 <;> cases h2 : zw 0 a2 23 <;> first
        | exact absurd hg (by rw [h1, h2]; decide)
        | simp only [fn_Mod_whose, fn_Mod_whose_L19, ze_mCell, ze_inN a2 0 23 0 23 rfl rfl, h1, h2, zp_b1, zp_b2, zp_nx, zt_f, zt_t, e2, n10, Bool.and_true, Bool.and_false, Bool.true_and, Bool.false_and, ↓reduceIte]
  simp only [Bool.and_eq_true] at hg
  obtain ⟨h1, h2⟩ := hg
  obtain ⟨c, hc, rfl⟩ := zw_n (m := 23) (by decide) h1
  obtain ⟨k, hk, rfl⟩ := zw_n (m := 23) (by decide) h2
  have hn := (zI_1 hI).2
  refine ⟨zwh (X 96) c (zg_night k) (zN (X 96) 1) 0 0, X, X, ?_, ?_, hI⟩
  · simp only [fn_Post_whose, ze_isCell, ze_isWithin, h1, h2, zp_b1, zt_t, n10, ↓reduceIte]
    exact zwh_P hI (by omega) (by omega) _ 0 400 0 (by omega) (by omega)
  · simp only [fn_Mod_whose, ze_mCell, ze_inN (nI k) 0 23 0 23 rfl rfl, h1, h2, zp_b1, zt_t, n10, ↓reduceIte]
    exact zwh_M rfl hI.1.2 (by omega) (by omega) _ 0 400 0 (by omega) (by omega)
