/-! where a thief is -/
theorem zC_cut_L {X : IX} {S : Nat → Int32} (hC : zC_laid X S) (hL : zI_LI X 0 S) (h : zI_WF S) {N w : Nat} (hN : N ≤ 60) : ∀ (d hh n : Nat) (s : Int32), hh + d = N → d < n → fn_Post_isCutOff_L8 X n (nI N) (nI w) s (nI hh) = some (zt (!zbt (zS_mb S ((1 : Int32) <<< (nI w &&& 31)) d hh s) (zN S 3))) := by
  have w3 := zW_3 h
  have t6 : X 20 6 = nI (zN S 3) := by rw [(zL_h rfl hL).2.2.2.1]; exact w3.1
  intro d
  induction d with
  | zero =>
    intro hh n s hc hd
    obtain ⟨m, rfl⟩ : ∃ m, n = m + 1 := ⟨n - 1, by omega⟩
    show fn_Post_isCutOff_B8 _ _ _ _ _ _ = _
    unfold fn_Post_isCutOff_B8 fn_Post_isCutOff_L59
    rw [if_pos ((nI_leI (by omega) (by omega)).mpr (by omega)), t6, zbt_val s (by omega)]
    show _ = some (zt (!zbt s (zN S 3)))
    cases zbt s (zN S 3) <;> rfl
  | succ d ih =>
    intro hh n s hc hd
    obtain ⟨m, rfl⟩ : ∃ m, n = m + 1 := ⟨n - 1, by omega⟩
    show fn_Post_isCutOff_B8 X (fn_Post_isCutOff_L8 X m) _ _ _ _ = _
    unfold fn_Post_isCutOff_B8
    rw [if_neg (nI_ge (a := hh) (by omega) (by omega)), zC_after hC h (by omega), zp_b1, zp_nx, zp_nx, nI_1, ih (hh + 1) m _ (by omega) (by omega)]
    rfl
def zS_set (p : Nat → Bool) : Nat → Nat → Int32 → Int32
  | 0, _, a => a
  | d + 1, c, a => zS_set p d (c + 1) (if p c = true then a ||| ((1 : Int32) <<< (nI c &&& 31)) else a)
def zS_tf (S : Nat → Int32) (c N w : Nat) : Bool := decide (w ≠ zN S 3) && (decide (w ≠ c) && !zbt (zS_mb S ((1 : Int32) <<< (nI w &&& 31)) N 0 ((1 : Int32) <<< (nI c &&& 31))) (zN S 3))
theorem zC_thief_L {X : IX} {S : Nat → Int32} (hC : zC_laid X S) (hL : zI_LI X 0 S) (h : zI_WF S) {c N : Nat} (hN : N ≤ 60) (hc : c < 24) : ∀ (d w n : Nat) (a : Int32), w + d = 24 → d < n → fn_Post_thief_L40 n (nI c) (nI N) a (nI w) X = some (zS_set (zS_tf S c N) d w a, X) := by
  have w3 := zW_3 h
  have t6 : X 20 6 = nI (zN S 3) := by rw [(zL_h rfl hL).2.2.2.1]; exact w3.1
  intro d
  induction d with
  | zero =>
    intro w n a hw hd
    obtain ⟨m, rfl⟩ : ∃ m, n = m + 1 := ⟨n - 1, by omega⟩
    obtain rfl : w = 24 := by omega
    rfl
  | succ d ih =>
    intro w n a hw hd
    obtain ⟨m, rfl⟩ : ∃ m, n = m + 1 := ⟨n - 1, by omega⟩
    have cut : fn_Post_isCutOff X (nI c) (nI N) (nI w) = _ := zC_cut_L hC hL h (w := w) hN N 0 400 ((1 : Int32) <<< (nI c &&& 31)) (by omega) (by omega)
    show fn_Post_thief_B40 (fn_Post_thief_L40 m) _ _ _ _ _ = _
    unfold fn_Post_thief_B40 fn_Post_thief_L83
    have c1 : nI w = nI (zN S 3) ↔ w = zN S 3 := nI_eq (by omega) (by omega)
    have c2 : nI w = nI c ↔ w = c := nI_eq (by omega) (by omega)
    rw [if_neg (show ¬ (24 : Int32) ≤ nI w from nI_ge (a := w) (b := 24) (by omega) (by omega)), t6, cut, zp_b1]
    simp only [c1, c2, zp_nx, nI_1, ih (w + 1) m _ (by omega) (by omega)]
    show _ = some (zS_set _ d (w + 1) (if zS_tf S c N w = true then _ else _), X)
    unfold zS_tf
    by_cases q1 : w = zN S 3
    · rw [if_pos q1, decide_eq_false (by simp [q1])]; rfl
    · rw [if_neg q1, decide_eq_true (show w ≠ zN S 3 from q1)]
      by_cases q2 : w = c
      · rw [if_pos q2, decide_eq_false (by simp [q2])]; rfl
      · rw [if_neg q2, decide_eq_true (show w ≠ c from q2)]
        cases zbt (zS_mb S ((1 : Int32) <<< (nI w &&& 31)) N 0 ((1 : Int32) <<< (nI c &&& 31))) (zN S 3) <;> rfl
theorem zm_thief_L {S : Nat → Int32} (h : zI_WF S) {c N : Nat} (hN : N ≤ 60) (hc : c < 24) : ∀ (d w n : Nat) (a : Int32) (X : IX), X 96 = S → w + d = 24 → d < n → ∃ X', fn_Mod_thief_L31 n (nI c) (nI N) a (nI w) X = some (zS_set (zS_tf S c N) d w a, X') ∧ zV X X' := by
  have w3 := zW_3 h
  intro d
  induction d with
  | zero =>
    intro w n a X _ hw hd
    obtain ⟨m, rfl⟩ : ∃ m, n = m + 1 := ⟨n - 1, by omega⟩
    obtain rfl : w = 24 := by omega
    exact ⟨X, rfl, zV.rf X⟩
  | succ d ih =>
    intro w n a X e hw hd
    obtain ⟨m, rfl⟩ : ∃ m, n = m + 1 := ⟨n - 1, by omega⟩
    have t3 : X 96 3 = nI (zN S 3) := by rw [e]; exact w3.1
    obtain ⟨X2, x1, x2⟩ := zm_mb h ((1 : Int32) <<< (nI w &&& 31)) (c := c) hN e
    have e2 : X2 96 = S := by rw [x2.row (by decide)]; exact e
    have t3' : X2 96 3 = nI (zN S 3) := by rw [e2]; exact w3.1
    show ∃ X', fn_Mod_thief_B31 (fn_Mod_thief_L31 m) _ _ _ _ _ = some (zS_set _ d (w + 1) (if zS_tf S c N w = true then _ else _), X') ∧ _
    unfold fn_Mod_thief_B31 fn_Mod_thief_L59 fn_Mod_thief_L60 fn_Mod_thief_L97 fn_Mod_thief_L98
    have c1 : nI w = nI (zN S 3) ↔ w = zN S 3 := nI_eq (by omega) (by omega)
    have c2 : nI w = nI c ↔ w = c := nI_eq (by omega) (by omega)
    have n10 : ((1 : Int32) = 0) = False := by decide
    rw [if_neg (show ¬ (24 : Int32) ≤ nI w from nI_ge (a := w) (b := 24) (by omega) (by omega)), t3]
    simp only [c1, c2, zp_nx, nI_1, x1, zp_b2, t3', zbt_has _ (show zN S 3 < 24 by omega), zp_b1, n10, ↓reduceIte, Int32.or_zero, zt_0]
    unfold zS_tf
    by_cases q1 : w = zN S 3
    · rw [if_pos q1, decide_eq_false (by simp [q1])]
      exact ih (w + 1) m a X e (by omega) (by omega)
    · rw [if_neg q1, decide_eq_true (show w ≠ zN S 3 from q1)]
      by_cases q2 : w = c
      · rw [if_pos q2, decide_eq_false (by simp [q2])]
        exact ih (w + 1) m a X e (by omega) (by omega)
      · rw [if_neg q2, decide_eq_true (show w ≠ c from q2)]
        cases zbt (zS_mb S ((1 : Int32) <<< (nI w &&& 31)) N 0 ((1 : Int32) <<< (nI c &&& 31))) (zN S 3) with
        | false =>
          obtain ⟨X', y1, y2⟩ := ih (w + 1) m (a ||| ((1 : Int32) <<< (nI w &&& 31))) X2 e2 (by omega) (by omega)
          exact ⟨X', y1, x2.tr y2⟩
        | true =>
          obtain ⟨X', y1, y2⟩ := ih (w + 1) m a X2 e2 (by omega) (by omega)
          exact ⟨X', y1, x2.tr y2⟩
theorem zw_1n {a : Int32} {m : Nat} (hm : m < 2 ^ 31) (q : zw 1 a (nI m) = true) : ∃ n, 1 ≤ n ∧ n ≤ m ∧ a = nI n := by
  have h := zw_t q
  have h0 : (0 : Int32) ≤ a := by
    rw [zn_le] at h ⊢
    have e1 : (1 : Int32).toInt = 1 := rfl
    have e0 : (0 : Int32).toInt = 0 := rfl
    omega
  obtain ⟨n, hn, rfl⟩ := zn_nat m hm h0 h.2
  exact ⟨n, (nI_leI (a := 1) (by omega) (by omega)).mp h.1, hn, rfl⟩
theorem st_thief {X : IX} {Y : LX} (hI : zI_INV X) (a1 : Int32) (a2 : Int32) : ∃ (v : Int32) (X1 : IX) (X2 : IX), fn_Post_thief a1 a2 X = some (v, X1) ∧ fn_Mod_thief a1 a2 X1 = some (v, X2) ∧ zI_INV X2 := by
  have n10 : ((1 : Int32) = 0) = False := by decide
  obtain ⟨X1, X2, e1, e2, e3, e4⟩ := zI_both2 hI (f := -1000001) 0 (by decide) (by decide)
  rcases (Bool.eq_false_or_eq_true (zw 0 a1 23 && zw 1 a2 20)).symm with hg | hg
  · refine ⟨-1000001, X1, X2, ?_, ?_, e3⟩
    · cases h1 : zw 0 a1 23 <;> cases h2 : zw 1 a2 20 <;> first
        | exact absurd hg (by rw [h1, h2]; decide)
        | simp only [fn_Post_thief, fn_Post_thief_L17, ze_isCell, ze_isWithin, h1, h2, zp_b1, zp_b2, zp_nx, zt_f, zt_t, e1, n10, Bool.and_true, Bool.and_false, Bool.true_and, Bool.false_and, ↓reduceIte]
    · cases h1 : zw 0 a1 23 <;> cases h2 : zw 1 a2 20 <;> first
        | exact absurd hg (by rw [h1, h2]; decide)
        | simp only [fn_Mod_thief, fn_Mod_thief_L19, ze_mCell, ze_inN a2 1 20 1 20 rfl rfl, h1, h2, zp_b1, zp_b2, zp_nx, zt_f, zt_t, e2, n10, Bool.and_true, Bool.and_false, Bool.true_and, Bool.false_and, ↓reduceIte]
  simp only [Bool.and_eq_true] at hg
  obtain ⟨h1, h2⟩ := hg
  obtain ⟨c, hc, rfl⟩ := zw_n (m := 23) (by decide) h1
  obtain ⟨N, _, hN, rfl⟩ := zw_1n (m := 20) (by decide) h2
  have hW := hI.1.2
  obtain ⟨Xa, l1, l2, l3⟩ := zC_lay rfl hI.1.1 hW
  have La : zI_LI Xa 0 (X 96) := zI_LI.cg (fun a ha => l3 a (by omega)) hI.1.1
  obtain ⟨Xb, m1, m2⟩ := zm_thief_L hW (c := c) (N := N) (by omega) (by omega) 24 0 400 0 Xa (l3 96 (by omega)) (by omega) (by omega)
  refine ⟨zS_set (zS_tf (X 96) c N) 24 0 0, Xa, Xb, ?_, ?_, (hI.keep (zI_keep.lay l3)).keep m2.keep⟩
  · simp only [fn_Post_thief, ze_isCell, ze_isWithin, h1, h2, zp_b1, zt_t, n10, ↓reduceIte, l1]
    exact zC_thief_L l2 La hW (by omega) (by omega) 24 0 400 0 (by omega) (by omega)
  · simp only [fn_Mod_thief, ze_mCell, ze_inN (nI N) 1 20 1 20 rfl rfl, h1, h2, zp_b1, zp_b2, zt_t, n10, ↓reduceIte]
    exact m1
/-! from where -/
def zS_fr (S : Nat → Int32) (c N w : Nat) : Bool := zbt (zS_mb S 0 N 0 ((1 : Int32) <<< (nI w &&& 31))) c
theorem zm_from_L {S : Nat → Int32} (h : zI_WF S) {c N : Nat} (hN : N ≤ 60) (hc : c < 24) : ∀ (d w n : Nat) (a : Int32) (X : IX), X 96 = S → w + d = 24 → d < n → ∃ X', fn_Mod_from_L22 n (nI c) (nI N) a (nI w) X = some (zS_set (zS_fr S c N) d w a, X') ∧ zV X X' := by
  intro d
  induction d with
  | zero =>
    intro w n a X _ hw hd
    obtain ⟨m, rfl⟩ : ∃ m, n = m + 1 := ⟨n - 1, by omega⟩
    obtain rfl : w = 24 := by omega
    exact ⟨X, rfl, zV.rf X⟩
  | succ d ih =>
    intro w n a X e hw hd
    obtain ⟨m, rfl⟩ : ∃ m, n = m + 1 := ⟨n - 1, by omega⟩
    obtain ⟨X2, x1, x2⟩ := zm_mb h 0 (c := w) hN e
    have e2 : X2 96 = S := by rw [x2.row (by decide)]; exact e
    show ∃ X', fn_Mod_from_B22 (fn_Mod_from_L22 m) _ _ _ _ _ = some (zS_set _ d (w + 1) (if zS_fr S c N w = true then _ else _), X') ∧ _
    unfold fn_Mod_from_B22 fn_Mod_from_L53
    rw [if_neg (show ¬ (24 : Int32) ≤ nI w from nI_ge (a := w) (b := 24) (by omega) (by omega)), x1, zp_b2, zbt_has _ hc, zp_b1]
    simp only [zp_nx, nI_1, Int32.or_zero, zt_0]
    show ∃ X', (if zS_fr S c N w = false then _ else _) = _ ∧ _
    cases zS_fr S c N w with
    | false =>
      obtain ⟨X', y1, y2⟩ := ih (w + 1) m a X2 e2 (by omega) (by omega)
      exact ⟨X', y1, x2.tr y2⟩
    | true =>
      obtain ⟨X', y1, y2⟩ := ih (w + 1) m (a ||| ((1 : Int32) <<< (nI w &&& 31))) X2 e2 (by omega) (by omega)
      exact ⟨X', y1, x2.tr y2⟩
def zS_bp (W : Nat → Int32) (s : Int32) (c : Nat) : Bool := decide (W c &&& s ≠ 0)
def zS_back (W : Nat → Int32) (s : Int32) : Int32 := zS_set (zS_bp W s) 24 0 0
theorem zC_ahead_L {X : IX} {S : Nat → Int32} (hC : zC_laid X S) (h : zI_WF S) {hh : Nat} (hb : hh < 100) (s : Int32) : ∀ (d c n : Nat) (a : Int32), c + d = 24 → d < n → fn_Chart_ahead_L5 X n s (nI hh) a (nI c) = some (zS_set (zS_bp (zS_W S hh) s) d c a) := by
  intro d
  induction d with
  | zero =>
    intro c n a hc hd
    obtain ⟨m, rfl⟩ : ∃ m, n = m + 1 := ⟨n - 1, by omega⟩
    obtain rfl : c = 24 := by omega
    rfl
  | succ d ih =>
    intro c n a hc hd
    obtain ⟨m, rfl⟩ : ∃ m, n = m + 1 := ⟨n - 1, by omega⟩
    show fn_Chart_ahead_B5 X (fn_Chart_ahead_L5 X m) _ _ _ _ = _
    unfold fn_Chart_ahead_B5 fn_Chart_ahead_L39
    rw [if_neg (show ¬ (24 : Int32) ≤ nI c from nI_ge (a := c) (b := 24) (by omega) (by omega)), hC.1, zC_chosen hC h (by omega) hb, zp_b1, zC_cells2 hC h (by omega) (zS_by_lt _ _ _), zp_b1]
    simp only [zp_nx, nI_1, ih (c + 1) m _ (by omega) (by omega)]
    show (if zS_W S hh c &&& s = 0 then _ else _) = some (zS_set _ d (c + 1) (if zS_bp (zS_W S hh) s c = true then _ else _))
    unfold zS_bp
    by_cases q : zS_W S hh c &&& s = 0
    · rw [if_pos q, decide_eq_false (by simp [q])]; rfl
    · rw [if_neg q, decide_eq_true (show zS_W S hh c &&& s ≠ 0 from q)]; rfl
theorem zC_ahead {X : IX} {S : Nat → Int32} (hC : zC_laid X S) (h : zI_WF S) {hh : Nat} (hb : hh < 100) (s : Int32) : fn_Chart_ahead X s (nI hh) = some (zS_back (zS_W S hh) s) := zC_ahead_L hC h hb s 24 0 400 0 (by omega) (by omega)
def zS_bk (S : Nat → Int32) : Nat → Int32 → Int32
  | 0, s => s
  | n + 1, s => zS_bk S n (zS_back (zS_W S n) s)
theorem zC_from_L {X : IX} {S : Nat → Int32} (hC : zC_laid X S) (h : zI_WF S) : ∀ (N n : Nat) (s : Int32), N ≤ 60 → N < n → fn_Post_from_L44 n s (nI N - 1) X = some (zS_bk S N s, X) := by
  intro N
  induction N with
  | zero =>
    intro n s _ hn
    obtain ⟨m, rfl⟩ : ∃ m, n = m + 1 := ⟨n - 1, by omega⟩
    rfl
  | succ N ih =>
    intro n s hN hn
    obtain ⟨m, rfl⟩ : ∃ m, n = m + 1 := ⟨n - 1, by omega⟩
    show fn_Post_from_B44 (fn_Post_from_L44 m) _ _ _ = _
    unfold fn_Post_from_B44
    have e1 : nI N + (-1 : Int32) = nI N - 1 := by
      rw [Int32.sub_eq_add_neg]
    rw [nI_pred, if_neg (nI_pos (by omega)), zC_ahead hC h (by omega), zp_b1, zp_nx, e1, ih m _ (by omega) (by omega)]
    rfl
/-! bits of sets -/
theorem zb_set {p : Nat → Bool} {u : Nat} (hu : u < 24) : ∀ (d c : Nat) (a : Int32), c + d = 24 → zbt (zS_set p d c a) u = (zbt a u || (decide (c ≤ u) && p u)) := by
  intro d
  induction d with
  | zero =>
    intro c a hc
    show zbt a u = _
    rw [decide_eq_false (by omega), Bool.false_and, Bool.or_false]
  | succ d ih =>
    intro c a hc
    show zbt (zS_set p d (c + 1) _) u = _
    rw [ih (c + 1) _ (by omega)]
    by_cases e : c = u
    · subst e
      rw [decide_eq_false (show ¬ c + 1 ≤ c by omega), decide_eq_true (Nat.le_refl c), Bool.false_and, Bool.or_false, Bool.true_and]
      cases p c with
      | true => rw [if_pos rfl, zbt_or, zbt_1 (by omega) (by omega), decide_eq_true rfl]
      | false => rw [if_neg (by decide), Bool.or_false]
    · have e2 : decide (c + 1 ≤ u) = decide (c ≤ u) := by rw [decide_eq_decide]; omega
      rw [e2]
      congr 1
      split
      · rw [zbt_or, zbt_1 (by omega) hu, decide_eq_false e, Bool.or_false]
      · rfl
theorem zb_back {W : Nat → Int32} {s : Int32} {u : Nat} (hu : u < 24) : zbt (zS_back W s) u = zS_bp W s u := by
  unfold zS_back
  rw [zb_set hu 24 0 0 (by omega), zbt_0, Bool.false_or, decide_eq_true (Nat.zero_le u), Bool.true_and]
theorem zb_af {W : Nat → Int32} {s : Int32} {u : Nat} : ∀ (d c : Nat) (a : Int32), c + d = 24 → (zbt (zS_af W s d c a) u = true ↔ (zbt a u = true ∨ ∃ v, c ≤ v ∧ v < 24 ∧ zbt s v = true ∧ zbt (W v) u = true)) := by
  intro d
  induction d with
  | zero =>
    intro c a hc
    show zbt a u = true ↔ _
    exact ⟨Or.inl, fun q => q.elim id (fun ⟨v, h1, h2, _⟩ => absurd h1 (by omega))⟩
  | succ d ih =>
    intro c a hc
    show zbt (zS_af W s d (c + 1) _) u = true ↔ _
    rw [ih (c + 1) _ (by omega)]
    constructor
    · rintro (q | ⟨v, h1, h2, h3, h4⟩)
      · by_cases e : zbt s c = true
        · rw [if_pos e, zbt_or, Bool.or_eq_true] at q
          rcases q with q | q
          · exact Or.inl q
          · exact Or.inr ⟨c, Nat.le_refl c, by omega, e, q⟩
        · rw [if_neg e] at q
          exact Or.inl q
      · exact Or.inr ⟨v, by omega, h2, h3, h4⟩
    · rintro (q | ⟨v, h1, h2, h3, h4⟩)
      · refine Or.inl ?_
        split
        · rw [zbt_or, q]; rfl
        · exact q
      · by_cases e : v = c
        · subst e
          refine Or.inl ?_
          rw [if_pos h3, zbt_or, h4, Bool.or_true]
        · exact Or.inr ⟨v, by omega, h2, h3, h4⟩
theorem zb_step {W : Nat → Int32} {s : Int32} {u : Nat} : zbt (zS_step W s) u = true ↔ ∃ v, v < 24 ∧ zbt s v = true ∧ zbt (W v) u = true := by
  unfold zS_step
  rw [zb_af 24 0 0 (by omega), zbt_0]
  constructor
  · rintro (q | ⟨v, _, h2, h3, h4⟩)
    · cases q
    · exact ⟨v, h2, h3, h4⟩
  · rintro ⟨v, h2, h3, h4⟩
    exact Or.inr ⟨v, by omega, h2, h3, h4⟩
theorem zb_hi : ∀ i : Fin 24, ∀ u : Fin 32, 24 ≤ u.val → zbt ((1 : Int32) <<< (nI i.val &&& 31)) u.val = false := by decide +kernel
theorem zb_mk {r : Nat × Nat × Nat} (h1 : r.1 < 24) (h2 : r.2.1 < 24) {u : Nat} (hu : 24 ≤ u) (hu2 : u < 32) : zbt (zS_mk r) u = false := by
  unfold zS_mk
  rw [zbt_or]
  have a := zb_hi ⟨r.1, h1⟩ ⟨u, hu2⟩ hu
  have b := zb_hi ⟨r.2.1, h2⟩ ⟨u, hu2⟩ hu
  simp only [] at a b
  split <;> split <;> simp only [zbt_0, a, b] <;> rfl
theorem zb_W {S : Nat → Int32} (h : zI_WF S) {hh c : Nat} (hc : c < 24) {u : Nat} (hu : 24 ≤ u) (hu2 : u < 32) : zbt (zS_W S hh c) u = false := zb_mk (zS_rw_b h hc).1 (zS_rw_b h hc).2.1 hu hu2
theorem zb_ne (a : Int32) : a ≠ 0 ↔ ∃ u, u < 32 ∧ zbt a u = true := by
  constructor
  · intro h
    refine Classical.byContradiction fun q => h ?_
    rw [← Int32.toBitVec_inj]
    refine BitVec.eq_of_getLsbD_eq fun u hu => ?_
    show zbt a u = (0#32).getLsbD u
    rw [BitVec.getLsbD_zero]
    exact eq_false_of_ne_true fun e => q ⟨u, hu, e⟩
  · rintro ⟨u, _, e⟩ q
    rw [q, zbt_0] at e
    cases e
theorem zb_bp {S : Nat → Int32} (h : zI_WF S) {hh c : Nat} (hc : c < 24) (s : Int32) : zS_bp (zS_W S hh) s c = true ↔ ∃ u, u < 24 ∧ zbt (zS_W S hh c) u = true ∧ zbt s u = true := by
  unfold zS_bp
  rw [decide_eq_true_eq, zb_ne]
  constructor
  · rintro ⟨u, hu, e⟩
    rw [zbt_and, Bool.and_eq_true] at e
    by_cases q : u < 24
    · exact ⟨u, q, e.1, e.2⟩
    · have := zb_W h (hh := hh) hc (show 24 ≤ u by omega) hu
      rw [this] at e
      exact absurd e.1 (by decide)
  · rintro ⟨u, hu, e1, e2⟩
    exact ⟨u, by omega, by rw [zbt_and, e1, e2]; rfl⟩
/-- a way of n hours -/
def zS_pa (S : Nat → Int32) : Nat → Nat → Nat → Nat → Prop
  | 0, _, c, u => c = u
  | n + 1, h, c, u => ∃ v, v < 24 ∧ zbt (zS_W S h c) v = true ∧ zS_pa S n (h + 1) v u
theorem zS_pa_end {S : Nat → Int32} : ∀ (n h c u : Nat), u < 24 → c < 24 → (zS_pa S (n + 1) h c u ↔ ∃ v, v < 24 ∧ zS_pa S n h c v ∧ zbt (zS_W S (h + n) v) u = true) := by
  intro n
  induction n with
  | zero =>
    intro h c u hu hc
    show (∃ v, v < 24 ∧ zbt (zS_W S h c) v = true ∧ v = u) ↔ ∃ v, v < 24 ∧ c = v ∧ zbt (zS_W S h v) u = true
    constructor
    · rintro ⟨v, h1, h2, rfl⟩
      exact ⟨c, hc, rfl, h2⟩
    · rintro ⟨v, h1, rfl, h3⟩
      exact ⟨u, hu, h3, rfl⟩
  | succ n ih =>
    intro h c u hu hc
    show (∃ v, v < 24 ∧ zbt (zS_W S h c) v = true ∧ zS_pa S (n + 1) (h + 1) v u) ↔ ∃ v, v < 24 ∧ (∃ w, w < 24 ∧ zbt (zS_W S h c) w = true ∧ zS_pa S n (h + 1) w v) ∧ zbt (zS_W S (h + (n + 1)) v) u = true
    constructor
    · rintro ⟨v, h1, h2, h3⟩
      obtain ⟨w, g1, g2, g3⟩ := (ih (h + 1) v u hu h1).mp h3
      exact ⟨w, g1, ⟨v, h1, h2, g2⟩, by rw [show h + (n + 1) = h + 1 + n by omega]; exact g3⟩
    · rintro ⟨v, h1, ⟨w, g1, g2, g3⟩, h3⟩
      exact ⟨w, g1, g2, (ih (h + 1) w u hu g1).mpr ⟨v, h1, g3, by rw [show h + 1 + n = h + (n + 1) by omega]; exact h3⟩⟩
theorem zb_mb {S : Nat → Int32} {u : Nat} (hu : u < 24) : ∀ (n h : Nat) (s : Int32), zbt (zS_mb S 0 n h s) u = true ↔ ∃ c, c < 24 ∧ zbt s c = true ∧ zS_pa S n h c u := by
  intro n
  induction n with
  | zero =>
    intro h s
    show zbt s u = true ↔ ∃ c, c < 24 ∧ zbt s c = true ∧ c = u
    exact ⟨fun q => ⟨u, hu, q, rfl⟩, fun ⟨c, _, h2, h3⟩ => h3 ▸ h2⟩
  | succ n ih =>
    intro h s
    show zbt (zS_mb S 0 n (h + 1) (zS_step (zS_W S h) s &&& _)) u = true ↔ _
    rw [zb_all, ih (h + 1)]
    constructor
    · rintro ⟨c, h1, h2, h3⟩
      obtain ⟨v, g1, g2, g3⟩ := zb_step.mp h2
      exact ⟨v, g1, g2, c, h1, g3, h3⟩
    · rintro ⟨v, g1, g2, c, h1, g3, h3⟩
      exact ⟨c, h1, zb_step.mpr ⟨v, g1, g2, g3⟩, h3⟩
theorem zb_bk {S : Nat → Int32} (h : zI_WF S) {c : Nat} (hc : c < 24) : ∀ (n : Nat) (s : Int32), zbt (zS_bk S n s) c = true ↔ ∃ u, u < 24 ∧ zS_pa S n 0 c u ∧ zbt s u = true := by
  intro n
  induction n with
  | zero =>
    intro s
    show zbt s c = true ↔ ∃ u, u < 24 ∧ c = u ∧ zbt s u = true
    exact ⟨fun q => ⟨c, hc, rfl, q⟩, fun ⟨u, _, h2, h3⟩ => h2 ▸ h3⟩
  | succ n ih =>
    intro s
    show zbt (zS_bk S n (zS_back (zS_W S n) s)) c = true ↔ _
    rw [ih]
    constructor
    · rintro ⟨v, h1, h2, h3⟩
      rw [zb_back h1, zb_bp h h1] at h3
      obtain ⟨u, g1, g2, g3⟩ := h3
      exact ⟨u, g1, (zS_pa_end n 0 c u g1 hc).mpr ⟨v, h1, h2, by rw [Nat.zero_add]; exact g2⟩, g3⟩
    · rintro ⟨u, g1, g2, g3⟩
      obtain ⟨v, h1, h2, h3⟩ := (zS_pa_end n 0 c u g1 hc).mp g2
      rw [Nat.zero_add] at h3
      exact ⟨v, h1, h2, by rw [zb_back h1, zb_bp h h1]; exact ⟨u, g1, h3, g3⟩⟩
theorem zS_set_cg {p q : Nat → Bool} : ∀ (d c : Nat) (a : Int32), c + d = 24 → (∀ u, u < 24 → p u = q u) → zS_set p d c a = zS_set q d c a := by
  intro d
  induction d with
  | zero => intro _ _ _ _; rfl
  | succ d ih =>
    intro c a hc h
    show zS_set p d (c + 1) _ = zS_set q d (c + 1) _
    rw [h c (by omega)]
    exact ih (c + 1) _ (by omega) h
theorem zS_from_eq {S : Nat → Int32} (h : zI_WF S) {c N : Nat} (hc : c < 24) : zS_bk S N ((1 : Int32) <<< (nI c &&& 31)) = zS_set (zS_fr S c N) 24 0 0 := by
  have bits : ∀ w, w < 24 → zbt (zS_bk S N ((1 : Int32) <<< (nI c &&& 31))) w = zS_fr S c N w := by
    intro w hw
    rw [Bool.eq_iff_iff, zb_bk h hw]
    unfold zS_fr
    rw [zb_mb hc]
    constructor
    · rintro ⟨u, h1, h2, h3⟩
      rw [zbt_1 hc h1, decide_eq_true_eq] at h3
      subst h3
      exact ⟨w, hw, by rw [zbt_1 hw hw]; exact decide_eq_true rfl, h2⟩
    · rintro ⟨v, h1, h2, h3⟩
      rw [zbt_1 hw h1, decide_eq_true_eq] at h2
      subst h2
      exact ⟨c, hc, h3, by rw [zbt_1 hc hc]; exact decide_eq_true rfl⟩
  have form : ∀ (n : Nat) (s : Int32), ∃ p, zS_bk S (n + 1) s = zS_set p 24 0 0 := by
    intro n
    induction n with
    | zero => intro s; exact ⟨_, rfl⟩
    | succ n ih => intro s; exact ih _
  cases N with
  | zero =>
    show (1 : Int32) <<< (nI c &&& 31) = _
    have key : ∀ c : Fin 24, (1 : Int32) <<< (nI c.val &&& 31) = zS_set (fun w => zbt ((1 : Int32) <<< (nI w &&& 31)) c.val) 24 0 0 := by decide +kernel
    exact key ⟨c, hc⟩
  | succ n =>
    obtain ⟨p, hp⟩ := form n ((1 : Int32) <<< (nI c &&& 31))
    rw [hp]
    refine zS_set_cg 24 0 0 (by omega) (fun w hw => ?_)
    rw [← bits w hw, hp, zb_set hw 24 0 0 (by omega), zbt_0, Bool.false_or, decide_eq_true (Nat.zero_le w), Bool.true_and]
theorem st_from {X : IX} {Y : LX} (hI : zI_INV X) (a1 : Int32) (a2 : Int32) : ∃ (v : Int32) (X1 : IX) (X2 : IX), fn_Post_from a1 a2 X = some (v, X1) ∧ fn_Mod_from a1 a2 X1 = some (v, X2) ∧ zI_INV X2 := by
  have n10 : ((1 : Int32) = 0) = False := by decide
  obtain ⟨X1, X2, e1, e2, e3, e4⟩ := zI_both2 hI (f := -1000001) 0 (by decide) (by decide)
  rcases (Bool.eq_false_or_eq_true (zw 0 a1 23 && zw 0 a2 20)).symm with hg | hg
  · refine ⟨-1000001, X1, X2, ?_, ?_, e3⟩
    · cases h1 : zw 0 a1 23 <;> cases h2 : zw 0 a2 20 <;> first
        | exact absurd hg (by rw [h1, h2]; decide)
        | simp only [fn_Post_from, fn_Post_from_L17, ze_isCell, ze_isWithin, h1, h2, zp_b1, zp_b2, zp_nx, zt_f, zt_t, e1, n10, Bool.and_true, Bool.and_false, Bool.true_and, Bool.false_and, ↓reduceIte]
    · cases h1 : zw 0 a1 23 <;> cases h2 : zw 0 a2 20 <;> first
        | exact absurd hg (by rw [h1, h2]; decide)
        | simp only [fn_Mod_from, ze_odds, h1, h2, zp_b1, zp_b2, zp_nx, zt_f, zt_t, e2, n10, Bool.and_true, Bool.and_false, Bool.true_and, Bool.false_and, ↓reduceIte]
  simp only [Bool.and_eq_true] at hg
  obtain ⟨h1, h2⟩ := hg
  obtain ⟨c, hc, rfl⟩ := zw_n (m := 23) (by decide) h1
  obtain ⟨N, hN, rfl⟩ := zw_n (m := 20) (by decide) h2
  have hW := hI.1.2
  obtain ⟨Xa, l1, l2, l3⟩ := zC_lay rfl hI.1.1 hW
  obtain ⟨Xb, m1, m2⟩ := zm_from_L hW (c := c) (N := N) (by omega) (by omega) 24 0 400 0 Xa (l3 96 (by omega)) (by omega) (by omega)
  refine ⟨zS_set (zS_fr (X 96) c N) 24 0 0, Xa, Xb, ?_, ?_, (hI.keep (zI_keep.lay l3)).keep m2.keep⟩
  · simp only [fn_Post_from, ze_isCell, ze_isWithin, h1, h2, zp_b1, zt_t, n10, ↓reduceIte, l1, zp_nx]
    rw [← zS_from_eq hW (by omega)]
    exact zC_from_L l2 hW N 400 _ (by omega) (by omega)
  · simp only [fn_Mod_from, ze_odds, h1, h2, Bool.and_true, zp_b1, zp_b2, zt_t, n10, ↓reduceIte]
    exact m1
