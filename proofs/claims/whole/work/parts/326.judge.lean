theorem zS_af_1 {W : Nat → Int32} {v : Nat} (hv : v < 24) : ∀ (d c : Nat) (a : Int32), c + d = 24 → zS_af W ((1 : Int32) <<< (nI v &&& 31)) d c a = if c ≤ v then a ||| W v else a := by
  intro d
  induction d with
  | zero =>
    intro c a hc
    rw [if_neg (by omega)]
    rfl
  | succ d ih =>
    intro c a hc
    show zS_af W _ d (c + 1) _ = _
    rw [ih (c + 1) _ (by omega), zbt_1 hv (by omega)]
    by_cases e : v = c
    · subst e
      rw [if_neg (by omega), decide_eq_true rfl, if_pos rfl, if_pos (Nat.le_refl v)]
    · rw [decide_eq_false e, if_neg (show ¬ false = true by decide)]
      by_cases q : c ≤ v
      · rw [if_pos q, if_pos (by omega)]
      · rw [if_neg q, if_neg (by omega)]
theorem zS_step_1 {W : Nat → Int32} {v : Nat} (hv : v < 24) : zS_step W ((1 : Int32) <<< (nI v &&& 31)) = W v := by
  unfold zS_step
  rw [zS_af_1 hv 24 0 0 (by omega), if_pos (Nat.zero_le v), Int32.zero_or]
def zS_rg (num : Nat → Int32) (s : Int32) (i : Nat) : Bool := zw 0 (num i) 23 && zbt s (num i).toNatClampNeg
def zS_rc (S : Nat → Int32) (num : Nat → Int32) : Nat → Nat → Int32 → Nat
  | 0, i, _ => i
  | d + 1, i, s => if zS_rg num s i = true then zS_rc S num d (i + 1) (zS_W S i (num i).toNatClampNeg) else i
theorem zS_rc_le {S num : Nat → Int32} : ∀ (d i : Nat) (s : Int32), zS_rc S num d i s ≤ i + d := by
  intro d
  induction d with
  | zero => intro i s; exact Nat.le_refl _
  | succ d ih =>
    intro i s
    show (if zS_rg num s i = true then _ else _) ≤ _
    split
    · have := ih (i + 1) (zS_W S i (num i).toNatClampNeg); omega
    · omega
theorem zC_rc_L {X : IX} {S : Nat → Int32} (hC : zC_laid X S) (h : zI_WF S) {r N : Nat} (hN : N ≤ 40) (hr : X r 2 = nI N) : ∀ (d i n : Nat) (s : Int32), i + d = N → d < n → fn_Post_rightCells_L7 X n r s (nI i) = some (nI (zS_rc S (X (r + 4)) d i s)) := by
  intro d
  induction d with
  | zero =>
    intro i n s hi hd
    obtain ⟨m, rfl⟩ : ∃ m, n = m + 1 := ⟨n - 1, by omega⟩
    obtain rfl : i = N := by omega
    show fn_Post_rightCells_B7 _ _ _ _ _ = _
    unfold fn_Post_rightCells_B7
    rw [hr, if_pos ((nI_leI (by omega) (by omega)).mpr (by omega))]
    rfl
  | succ d ih =>
    intro i n s hi hd
    obtain ⟨m, rfl⟩ : ∃ m, n = m + 1 := ⟨n - 1, by omega⟩
    show fn_Post_rightCells_B7 X (fn_Post_rightCells_L7 X m) _ _ _ = some (nI (if zS_rg (X (r + 4)) s i = true then zS_rc S (X (r + 4)) d (i + 1) _ else i))
    unfold fn_Post_rightCells_B7 fn_Post_rightCells_L42 zS_rg
    rw [hr, if_neg (nI_ge (a := i) (by omega) (by omega)), zn_ib (show i < 40 by omega) (by decide), zp_gd, zn_cl (by omega), zp_nx, ze_isCell, zp_b1]
    cases hw : zw 0 (X (r + 4) i) 23 with
    | false => rfl
    | true =>
      obtain ⟨v, hv, ev⟩ := zw_n (m := 23) (by decide) hw
      rw [ev, zn_cl (by omega), zbt_val s (by omega), zC_after hC h (by omega), zp_b1, zS_step_1 (by omega), zp_nx, nI_1, ih (i + 1) m _ (by omega) (by omega)]
      cases zbt s v <;> rfl
theorem zm_rc_L {S num : Nat → Int32} (h : zI_WF S) {q N : Nat} (hq : q < 4) (hN : N ≤ 40) : ∀ (d i n : Nat) (s : Int32) (X : IX), X 96 = S → X 106 q = nI N → (∀ j, j < 40 → X 107 (40 * q + j) = num j) → i + d = N → d < n → ∃ X', fn_Mod_judge_L47 n (nI q) s (nI i) X = some (if zS_rc S num d i s = N then 0 else 1 + nI (zS_rc S num d i s), X') ∧ zV X X' := by
  have out : ∀ (X : IX) (r : Nat), r ≤ N → X 106 q = nI N → fn_Mod_judge_L127 (nI q) (nI r) X = some (if r = N then 0 else 1 + nI r, X) := by
    intro X r hr e
    unfold fn_Mod_judge_L127 fn_Mod_judge_L146
    rw [zn_ib hq (by decide), zp_gd, zn_cl (by omega), e]
    have c1 : nI r = nI N ↔ r = N := nI_eq (by omega) (by omega)
    simp only [c1]
    split <;> rfl
  intro d
  induction d with
  | zero =>
    intro i n s X e1 e2 e3 hi hd
    obtain ⟨m, rfl⟩ : ∃ m, n = m + 1 := ⟨n - 1, by omega⟩
    obtain rfl : i = N := by omega
    refine ⟨X, ?_, zV.rf X⟩
    show fn_Mod_judge_B47 _ _ _ _ _ = _
    unfold fn_Mod_judge_B47
    rw [zn_ib hq (by decide), zp_gd, zn_cl (by omega), e2, if_pos ((nI_leI (by omega) (by omega)).mpr (by omega))]
    exact out X i (Nat.le_refl i) e2
  | succ d ih =>
    intro i n s X e1 e2 e3 hi hd
    obtain ⟨m, rfl⟩ : ∃ m, n = m + 1 := ⟨n - 1, by omega⟩
    have e40 : ((40 : Int32) * nI q) + nI i = nI (40 * q + i) := by rw [show (40 : Int32) = nI 40 from rfl, pk_mul, nI_add]
    have o := out X i (by omega) e2
    show ∃ X', fn_Mod_judge_B47 (fn_Mod_judge_L47 m) _ _ _ _ = some (if (if zS_rg num s i = true then zS_rc S num d (i + 1) _ else i) = N then 0 else 1 + nI (if zS_rg num s i = true then zS_rc S num d (i + 1) _ else i), X') ∧ _
    unfold fn_Mod_judge_B47 zS_rg
    simp only [zn_ib hq (show 4 < 2 ^ 31 by decide), zp_gd, zn_cl (show q < 2 ^ 31 by omega), e2, if_neg (nI_ge (a := i) (b := N) (by omega) (by omega)), e40, zn_ib (show 40 * q + i < 160 by omega) (show 160 < 2 ^ 31 by decide), zn_cl (show 40 * q + i < 2 ^ 31 by omega), e3 i (by omega), ze_mCell, zp_b1]
    cases hw : zw 0 (num i) 23 with
    | false =>
      rw [zt_f, if_pos rfl, o]
      exact ⟨X, rfl, zV.rf X⟩
    | true =>
      obtain ⟨v, hv, ev⟩ := zw_n (m := 23) (by decide) hw
      rw [zt_t, if_neg (by decide), ev, zbt_has s (by omega), zp_b1, zn_cl (by omega)]
      cases zbt s v with
      | false =>
        rw [zt_f, if_pos rfl, o]
        exact ⟨X, rfl, zV.rf X⟩
      | true =>
        rw [zt_t, if_neg (by decide), zp_nx, zm_clock e1 h (by omega)]
        obtain ⟨X2, w1, w2⟩ := zm_ways e1 h (c := v) (k := (zN S 0 + i) % 24) (by omega) (Nat.mod_lt _ (by omega)) (zS_by_lt S (zS_cs S) v) (a3 := -1) (Or.inr ⟨rfl, zS_by_cs h⟩)
        rw [zg_night_mod] at w1
        rw [w1, zp_b2, zp_nx, nI_1]
        obtain ⟨X', q1, q2⟩ := ih (i + 1) m (zS_W S i v) X2 (by rw [w2.row (by decide)]; exact e1) (by rw [w2.row (by decide)]; exact e2) (fun j hj => by rw [w2.row (by decide)]; exact e3 j hj) (by omega) (by omega)
        exact ⟨X', q1, w2.tr q2⟩
theorem st_judge {X : IX} {Y : LX} (hI : zI_INV X) (a1 : Int32) (a2 : Int32) : ∃ (v : Int32) (X1 : IX) (X2 : IX), fn_Post_judge a1 a2 X = some (v, X1) ∧ fn_Mod_judge a1 a2 X1 = some (v, X2) ∧ zI_INV X2 := by
  obtain ⟨X1, X2, e1, e2, e3, e4⟩ := zI_both2 hI (f := -1000001) 0 (by decide) (by decide)
  obtain ⟨X1s, X2s, s1, s2, s3, s4⟩ := zI_both2 hI (f := -1000006) 5 (by decide) (by decide)
  have n10 : ((1 : Int32) = 0) = False := by decide
  have nb : ((-1000001 : Int32) = 0) = False := by decide
  have nm : ((-1000006 : Int32) = 0) = False := by decide
  obtain ⟨n1, hn⟩ := zI_2 hI
  obtain ⟨n, en⟩ : ∃ n, n = zN (X 96) 2 := ⟨_, rfl⟩
  rw [← en] at n1 hn
  have t1 : X 20 5 = nI n := by rw [(zL_h rfl hI.1.1).2.2.1, n1]
  have m1 : X1 96 2 = nI n := by rw [e4 96 (by decide), n1]
  cases hq : zw 0 a1 3 with
  | false =>
    refine ⟨-1000001, X1, X2, ?_, ?_, e3⟩
    · simp only [fn_Post_judge, ze_isSheet, hq, zp_b1, zp_b2, zt_f, e1, ↓reduceIte]
    · simp only [fn_Mod_judge, ze_wrongF X1 hq, zp_b1, zp_b2, e2, nb, ↓reduceIte]
  | true =>
    obtain ⟨q, hq1, rfl⟩ := zw_n (m := 3) (by decide) hq
    obtain ⟨g1, g2, g3, g4, g5⟩ := hI.2.2.2.2 q (by omega)
    by_cases hz : X (12 + q) 1 = 0
    · refine ⟨-1000006, X1s, X2s, ?_, ?_, s3⟩
      · simp only [fn_Post_judge, ze_isSheet, hq, zp_b1, zp_b2, zt_t, s1, n10, ↓reduceIte, zn_ib (show q < 4 by omega) (by decide), zp_gd, zn_cl (show q < 2 ^ 31 by omega), ze_missing, decide_eq_true hz]
      · have hz2 : X1s 105 q = 0 := by rw [s4 105 (by decide), g1, hz]
        simp only [fn_Mod_judge, ze_wrong X1s (show q < 4 by omega), if_pos hz2, zp_b1, zp_b2, s2, nm, ↓reduceIte]
    · cases hl : zh n a2 with
      | false =>
        refine ⟨-1000001, X1, X2, ?_, ?_, e3⟩
        · simp only [fn_Post_judge, ze_isSheet, hq, zp_b1, zp_b2, zt_t, zt_f, e1, n10, ↓reduceIte, zn_ib (show q < 4 by omega) (by decide), zp_gd, zn_cl (show q < 2 ^ 31 by omega), ze_missing, decide_eq_false hz, ze_isLetter t1 hn, hl]
        · have hz2 : ¬ X1 105 q = 0 := by rw [e4 105 (by decide), g1]; exact hz
          simp only [fn_Mod_judge, ze_wrong X1 (show q < 4 by omega), if_neg hz2, zp_b1, zp_b2, e2, ↓reduceIte, ze_mLetter m1 hn, hl, zt_f]
      | true =>
        obtain ⟨l, hl1, rfl⟩ := zh_t (by omega) hl
        obtain ⟨N, hN, eN⟩ := g4
        have hW := hI.1.2
        obtain ⟨Xa, l1, l2, l3⟩ := zC_lay rfl hI.1.1 hW
        have c1 := hW.2.2.2.2.2.2.2.1 l (by omega)
        obtain ⟨c, hc, ec⟩ := c1
        have La : zI_LI Xa 0 (X 96) := zI_LI.cg (fun a ha => l3 a (by omega)) hI.1.1
        have lc : Xa (20 + 9) l = nI c := by rw [zL_let rfl La (show l < 12 by omega)]; exact ec
        have rq : Xa (12 + q) 2 = nI N := by rw [l3 _ (by omega)]; exact eN
        have P := zC_rc_L l2 hW hN rq N 0 400 ((1 : Int32) <<< (nI c &&& 31)) (by omega) (by omega)
        have rn : ∀ j, j < 40 → Xa 107 (40 * q + j) = Xa (12 + q + 4) j := by
          intro j hj
          rw [l3 107 (by omega), l3 (12 + q + 4) (by omega), g5 j hj, show 16 + q = 12 + q + 4 by omega]
        obtain ⟨Xb, b1, b2⟩ := zm_rc_L (num := Xa (12 + q + 4)) hW (q := q) (by omega) hN N 0 400 ((1 : Int32) <<< (nI c &&& 31)) Xa (l3 96 (by omega)) (by rw [l3 106 (by omega), g2]; exact eN) rn (by omega) (by omega)
        refine ⟨if zS_rc (X 96) (Xa (12 + q + 4)) N 0 ((1 : Int32) <<< (nI c &&& 31)) = N then 0 else 1 + nI (zS_rc (X 96) (Xa (12 + q + 4)) N 0 ((1 : Int32) <<< (nI c &&& 31))), Xa, Xb, ?_, ?_, (hI.keep (zI_keep.lay l3)).keep b2.keep⟩
        · have P' : fn_Post_rightCells Xa (12 + q) (nI c) = _ := P
          have le := zS_rc_le (S := X 96) (num := Xa (12 + q + 4)) N 0 ((1 : Int32) <<< (nI c &&& 31))
          have cq : nI (zS_rc (X 96) (Xa (12 + q + 4)) N 0 ((1 : Int32) <<< (nI c &&& 31))) = nI N ↔ zS_rc (X 96) (Xa (12 + q + 4)) N 0 ((1 : Int32) <<< (nI c &&& 31)) = N := nI_eq (by omega) (by omega)
          simp only [fn_Post_judge, fn_Post_judge_L99, ze_isSheet, hq, zp_b1, zt_t, zt_f, n10, ↓reduceIte, zn_ib (show q < 4 by omega) (show 4 < 2 ^ 31 by decide), zp_gd, zn_cl (show q < 2 ^ 31 by omega), ze_missing, decide_eq_false hz, ze_isLetter t1 hn, hl, l1, zn_ib (show l < 12 by omega) (show 12 < 2 ^ 31 by decide), zn_cl (show l < 2 ^ 31 by omega), lc, P', rq, cq]
          split <;> rfl
        · have hz2 : ¬ Xa 105 q = 0 := by rw [l3 105 (by omega), g1]; exact hz
          have ma : Xa 96 2 = nI n := by rw [l3 96 (by omega)]; exact n1
          have e6 : (120 : Int32) + nI l = nI (120 + l) := nI_add 120 l
          have lc2 : Xa 96 (120 + l) = nI c := by rw [l3 96 (by omega)]; exact ec
          simp only [fn_Mod_judge, ze_wrong Xa (show q < 4 by omega), if_neg hz2, zp_b1, zp_b2, ↓reduceIte, ze_mLetter ma hn, hl, zt_t, n10, e6, zn_ib (show 120 + l < 142 by omega) (show 142 < 2 ^ 31 by decide), zp_gd, zn_cl (show 120 + l < 2 ^ 31 by omega), lc2, zp_nx]
          exact b1
