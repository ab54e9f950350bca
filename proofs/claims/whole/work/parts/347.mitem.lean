/-! a thrower's item, and any -/
theorem zf_v (x : Bool) : ¬ (!!false && x) = true := by cases x <;> decide
theorem zf_if (c : Bool) (f : Int32 → IX → Option IX) (X : IX) : (if c = true then f 1 X else f 0 X) = f (zt c) X := by cases c <;> rfl
theorem zm_L66 {b : Nat → Nat} {L s k c : Nat} {X : IX} {S : Nat → Int32} (hX : zJt X b L) (hJ : zJ X b L s false) (e96 : X 96 = S) (hW : zI_WF S) {n : Nat} (en : n = zN S 1) (hn : n < 10) : ∃ X', fn_Mod_throwerItem_L66 (nI k) (nI c) (zt (zk_is b L s 16)) X = some X' ∧ zJ X' b L (zi_t2 b L s (zS_nt S n k c) n).2.1 (!(zi_t2 b L s (zS_nt S n k c) n).1) ∧ ((zi_t2 b L s (zS_nt S n k c) n).1 = true → X' 96 = (zi_t2 b L s (zS_nt S n k c) n).2.2) ∧ zYU X X' := by
  obtain ⟨T, hT⟩ : ∃ T, T = zS_nt S n k c := ⟨_, rfl⟩
  rw [← hT]
  -- near
  obtain ⟨X5, x5, e1, e2, e3, e4⟩ := zm_ph (r := 16) (lo := 1) (hi := 9) (dv := 2) hX hJ (by omega) (by omega)
  have e1' : fn_Mod_perhaps (zt (zk_is b L s 16)) (1 : Int32) (9 : Int32) (2 : Int32) X = some (x5, X5) := e1
  have t5 := hX.Y e3
  obtain ⟨wv, w1, w2⟩ := zm_is t5 e2
  have wl : ∀ x y : Option IX, (if lg_cmp wv (6194 : Int64) = 0 then x else y) = _ := fun x y => w2 17 (by omega) x y
  unfold fn_Mod_throwerItem_L66 zi_t2
  rw [e1', zr_b2, w1, zr_b1, wl]
  cases o5 : (zi_ph b L s 16 1 9 2).1 with
  | false =>
    rw [o5] at e2
    have e2' : zJ X5 b L (zi_ph b L s 16 1 9 2).2.1 true := e2
    rw [if_neg (zf_v _), if_neg (by decide)]
    exact ⟨X5, zm_w91 t5 e2' _ _ _, e2', fun z => (by cases z), e3.U⟩
  | true =>
    rw [o5] at e2
    have e2' : zJ X5 b L (zi_ph b L s 16 1 9 2).2.1 false := e2
    rw [if_pos rfl, e4 o5]
    show ∃ X', (if zk_is b L (zi_ph b L s 16 1 9 2).2.1 17 = true then _ else _) = _ ∧ _
    rw [zf_if _ (fn_Mod_throwerItem_L91 (nI k) (nI c) (nI (zi_ph b L s 16 1 9 2).2.2)) X5]
    obtain ⟨s5, hs5⟩ : ∃ s5, s5 = (zi_ph b L s 16 1 9 2).2.1 := ⟨_, rfl⟩
    obtain ⟨v5, hv5⟩ : ∃ v5, v5 = (zi_ph b L s 16 1 9 2).2.2 := ⟨_, rfl⟩
    rw [← hs5] at e2' ⊢
    rw [← hv5]
    -- far
    obtain ⟨X6, x6, f1, f2, f3, f4⟩ := zm_ph (r := 17) (lo := 1) (hi := 12) (dv := 5) t5 e2' (by omega) (by omega)
    have f1' : fn_Mod_perhaps (zt (zk_is b L s5 17)) (1 : Int32) (12 : Int32) (5 : Int32) X5 = some (x6, X6) := f1
    have t6 := t5.Y f3
    obtain ⟨yv, y1, y2⟩ := zm_is t6 f2
    have yl : ∀ x y : Option IX, (if lg_cmp yv (495763 : Int64) = 0 then x else y) = _ := fun x y => y2 18 (by omega) x y
    unfold fn_Mod_throwerItem_L91 zi_t3
    rw [f1', zr_b2, y1, zr_b1, yl]
    cases o6 : (zi_ph b L s5 17 1 12 5).1 with
    | false =>
      rw [o6] at f2
      have f2' : zJ X6 b L (zi_ph b L s5 17 1 12 5).2.1 true := f2
      rw [if_neg (zf_v _), if_neg (by decide)]
      exact ⟨X6, zm_w117 t6 f2' _ _ _ _, f2', fun z => (by cases z), (e3.tr f3).U⟩
    | true =>
      rw [o6] at f2
      have f2' : zJ X6 b L (zi_ph b L s5 17 1 12 5).2.1 false := f2
      rw [if_pos rfl, f4 o6]
      show ∃ X', (if zk_is b L (zi_ph b L s5 17 1 12 5).2.1 18 = true then _ else _) = _ ∧ _
      rw [zf_if _ (fn_Mod_throwerItem_L117 (nI k) (nI c) (nI v5) (nI (zi_ph b L s5 17 1 12 5).2.2)) X6]
      obtain ⟨s6, hs6⟩ : ∃ s6, s6 = (zi_ph b L s5 17 1 12 5).2.1 := ⟨_, rfl⟩
      obtain ⟨v6, hv6⟩ : ∃ v6, v6 = (zi_ph b L s5 17 1 12 5).2.2 := ⟨_, rfl⟩
      rw [← hs6] at f2' ⊢
      rw [← hv6]
      -- odds
      obtain ⟨X7, x7, g1, g2, g3, g4⟩ := zm_ph (r := 18) (lo := 0) (hi := 12) (dv := 8) t6 f2' (by omega) (by omega)
      have g1' : fn_Mod_perhaps (zt (zk_is b L s6 18)) (0 : Int32) (12 : Int32) (8 : Int32) X6 = some (x7, X7) := g1
      have t7 := t6.Y g3
      obtain ⟨uv, u1, u2⟩ := zm_is t7 g2
      have ul : ∀ x y : Option IX, (if lg_cmp uv (759412 : Int64) = 0 then x else y) = _ := fun x y => u2 19 (by omega) x y
      unfold fn_Mod_throwerItem_L117 zi_t4
      rw [g1', zr_b2, u1, zr_b1, ul]
      cases o7 : (zi_ph b L s6 18 0 12 8).1 with
      | false =>
        rw [o7] at g2
        have g2' : zJ X7 b L (zi_ph b L s6 18 0 12 8).2.1 true := g2
        rw [if_neg (zf_v _), if_neg (by decide)]
        refine ⟨X7, ?_, g2', fun z => (by cases z), ((e3.tr f3).tr g3).U⟩
        unfold fn_Mod_throwerItem_L143
        rw [if_pos rfl]
        exact zm_w155 g2'.2.2.2 _ _ _ _ _ _
      | true =>
        rw [o7] at g2
        have g2' : zJ X7 b L (zi_ph b L s6 18 0 12 8).2.1 false := g2
        rw [if_pos rfl, g4 o7]
        show ∃ X', (if zk_is b L (zi_ph b L s6 18 0 12 8).2.1 19 = true then _ else _) = _ ∧ _
        rw [zf_if _ (fn_Mod_throwerItem_L143 (nI k) (nI c) (nI v5) (nI v6) (nI (zi_ph b L s6 18 0 12 8).2.2)) X7]
        obtain ⟨s7, hs7⟩ : ∃ s7, s7 = (zi_ph b L s6 18 0 12 8).2.1 := ⟨_, rfl⟩
        obtain ⟨v7, hv7⟩ : ∃ v7, v7 = (zi_ph b L s6 18 0 12 8).2.2 := ⟨_, rfl⟩
        rw [← hs7] at g2' ⊢
        rw [← hv7]
        have F7 : zY X X7 := (e3.tr f3).tr g3
        have x96 : X7 96 = S := by rw [F7.row (by decide)]; exact e96
        unfold fn_Mod_throwerItem_L143 zi_t5
        cases hw : zk_is b L s7 19 with
        | false =>
          obtain ⟨X', q1, q2, q3⟩ := zm_t155 x96 hW en hn g2'.2.2.2 k c (nI v5) (nI v6) (nI v7) false
          rw [← hT] at q2
          rw [zt_f] at q1
          rw [zt_f, if_pos rfl]
          exact ⟨X', q1, g2'.o (q3 95 (by decide)), fun _ => q2, F7.U.tr (zYU.R q3)⟩
        | true =>
          obtain ⟨X8, i1, i2, i3, _⟩ := zm_needs t7 g2' true
          rw [zt_t] at i1
          have i2' : zJ X8 b L (zk_n b L s7) false := i2
          obtain ⟨X', q1, q2, q3⟩ := zm_t155 (X := X8) (by rw [i3.row (by decide)]; exact x96) hW en hn i2'.2.2.2 k c (nI v5) (nI v6) (nI v7) true
          rw [← hT] at q2
          rw [zt_t] at q1
          rw [zt_t, if_neg (by decide), i1, zr_b1]
          exact ⟨X', q1, i2'.o (q3 95 (by decide)), fun _ => q2, (F7.tr i3).U.tr (zYU.R q3)⟩
theorem zm_thr {b : Nat → Nat} {L s k : Nat} {X : IX} {S : Nat → Int32} (hX : zJt X b L) (hJ : zJ X b L s false) (e96 : X 96 = S) (hW : zI_WF S) : ∃ X', fn_Mod_throwerItem (nI k) X = some X' ∧ zJ X' b L (zi_thr b L s S k).2.1 (!(zi_thr b L s S k).1) ∧ ((zi_thr b L s S k).1 = true → X' 96 = (zi_thr b L s S k).2.2) ∧ zYU X X' := by
  have n1 := zW_1 hW
  obtain ⟨n, en⟩ : ∃ n, n = zN S 1 := ⟨_, rfl⟩
  have x1 : X 96 1 = nI n := by rw [e96, en]; exact n1.1
  have c10 : (10 : Int32) ≤ nI n ↔ 10 ≤ n := nI_leI (a := 10) (by omega) (by omega)
  unfold fn_Mod_throwerItem fn_Mod_throwerItem_L17 zi_thr
  rw [x1, ← en]
  by_cases hn : 10 ≤ n
  · rw [if_pos (c10.mpr hn), if_pos hn]
    obtain ⟨X2, a1, a2, a3, _⟩ := zm_needs hX hJ false
    rw [zt_f] at a1
    have a2' : zJ X2 b L s true := a2
    have t2 := hX.Y a3
    obtain ⟨wv, w1, w2⟩ := zm_is t2 a2'
    have wl : ∀ x y : Option IX, (if lg_cmp wv (52 : Int64) = 0 then x else y) = _ := fun x y => w2 15 (by omega) x y
    rw [a1, zr_b1, w1, zr_b1, wl, if_neg (zf_w _)]
    obtain ⟨X', q1, q2, q3⟩ := zm_w37 (a := false) t2 a2' (S := S) (by rw [a3.row (by decide)]; exact e96) hW rfl (nI k)
    rw [zt_f] at q1
    exact ⟨X', q1, q2, fun z => (by cases z), a3.U.tr q3⟩
  · rw [if_neg (fun z => hn (c10.mp z)), if_neg hn]
    obtain ⟨X2, a1, a2, a3, _⟩ := zm_needs hX hJ true
    rw [zt_t] at a1
    have a2' : zJ X2 b L (zk_n b L s) false := a2
    have t2 := hX.Y a3
    have y96 : X2 96 = S := by rw [a3.row (by decide)]; exact e96
    obtain ⟨wv, w1, w2⟩ := zm_is t2 a2'
    have wl : ∀ x y : Option IX, (if lg_cmp wv (52 : Int64) = 0 then x else y) = if zk_is b L (zk_n b L s) 15 = true then x else y := fun x y => w2 15 (by omega) x y
    rw [a1, zr_b1, w1, zr_b1, wl]
    cases hat : zk_is b L (zk_n b L s) 15 with
    | false =>
      rw [if_neg (by decide), if_neg (by decide)]
      obtain ⟨X', q1, q2, q3⟩ := zm_w37 (a := false) t2 a2' (S := S) y96 hW rfl (nI k)
      rw [zt_f] at q1
      exact ⟨X', q1, q2, fun z => (by cases z), a3.U.tr q3⟩
    | true =>
      rw [if_pos rfl, if_pos rfl]
      obtain ⟨X7, b1, b2, b3, _⟩ := zm_needs t2 a2' true
      rw [zt_t] at b1
      obtain ⟨s2, hs2⟩ : ∃ s2, s2 = zk_n b L (zk_n b L s) := ⟨_, rfl⟩
      have b2' : zJ X7 b L s2 false := by rw [hs2]; exact b2
      rw [← hs2]
      have t7 := t2.Y b3
      obtain ⟨X9, c1, c2, c3, c4⟩ := zm_free (S := S) t7 b2' (by rw [b3.row (by decide)]; exact y96) hW
      have t9 := t7.Y c3
      have F9 : zY X X9 := (a3.tr b3).tr c3
      have x96 : X9 96 = S := by rw [F9.row (by decide)]; exact e96
      unfold fn_Mod_throwerItem_L37 zi_t1
      rw [b1, zr_b1, c1, zr_b1, zr_nx]
      cases hf : zk_fc b L s2 S with
      | false =>
        rw [hf] at c2
        have c2' : zJ X9 b L s2 true := c2
        obtain ⟨yv, y1, y2⟩ := zm_is t9 c2'
        have yl : ∀ x y : Option IX, (if lg_cmp yv (463922 : Int64) = 0 then x else y) = _ := fun x y => y2 16 (by omega) x y
        rw [y1, zr_b1, yl, if_neg (zf_w _), if_neg (by decide)]
        exact ⟨X9, zm_w66 t9 c2' _ _, c2', fun z => (by cases z), F9.U⟩
      | true =>
        rw [hf] at c2 c4
        have c2' : zJ X9 b L (zk_n b L s2) false := c2
        obtain ⟨yv, y1, y2⟩ := zm_is t9 c2'
        have yl : ∀ x y : Option IX, (if lg_cmp yv (463922 : Int64) = 0 then x else y) = if zk_is b L (zk_n b L s2) 16 = true then x else y := fun x y => y2 16 (by omega) x y
        rw [y1, zr_b1, yl, c4 rfl, zf_if _ (fn_Mod_throwerItem_L66 (nI k) (nI (zk_v b L s2))) X9, if_pos rfl, ← en]
        obtain ⟨X', q1, q2, q3, q4⟩ := zm_L66 (k := k) (c := zk_v b L s2) t9 c2' x96 hW en (by omega)
        exact ⟨X', q1, q2, q3, F9.U.tr q4⟩
/-- an item, when all went well so far -/
theorem zm_item {b : Nat → Nat} {L s : Nat} {X : IX} {S : Nat → Int32} (hX : zJt X b L) (hJ : zJ X b L s false) (e96 : X 96 = S) (hW : zI_WF S) : ∃ X', fn_Mod_item X = some X' ∧ zJ X' b L (zi_item b L s S).2.1 (!(zi_item b L s S).1) ∧ ((zi_item b L s S).1 = true → X' 96 = (zi_item b L s S).2.2) ∧ zYU X X' := by
  have n2 := zW_2 hW
  have hs0 := zm_st_ hX hJ
  rw [if_neg (show ¬ false = true by decide)] at hs0
  have hk0 := zm_kd_ hX hJ
  rw [if_neg (show ¬ false = true by decide)] at hk0
  unfold fn_Mod_item fn_Mod_item_L115 zi_item
  rw [hs0, zr_b1, hk0, zr_b1]
  cases hs : zi_st b L s with
  | some v =>
    have hv := zi_st_b hs
    obtain ⟨X', q1, q2⟩ := zm_stuff (v := v) hX hJ e96
    have q1' : fn_Mod_stuffItem (zO (some v)) X = some X' := q1
    rw [if_neg (show ¬ zO (some v) < (0 : Int32) from nI_pos (by omega)), q1', zr_b1]
    exact ⟨X', rfl, q2⟩
  | none =>
    rw [if_pos (show zO none < (0 : Int32) by decide)]
    cases hk : zi_kd b L s with
    | some k =>
      have hv := zi_kd_b hk
      obtain ⟨X', q1, q2⟩ := zm_thr (k := k) hX hJ e96 hW
      have q1' : fn_Mod_throwerItem (zO (some k)) X = some X' := q1
      rw [if_neg (show ¬ zO (some k) < (0 : Int32) from nI_pos (by omega)), q1', zr_b1]
      exact ⟨X', rfl, q2⟩
    | none =>
      obtain ⟨wv, w1, w2⟩ := zm_is hX hJ
      have w0 : ∀ x y : Option IX, (if lg_cmp wv (277925 : Int64) = 0 then x else y) = if zk_is b L s 0 = true then x else y := fun x y => (w2 0 (by omega) x y).trans (by rw [Bool.not_false, Bool.true_and])
      have wf : ∀ x y : Option IX, (if lg_cmp wv (6475880 : Int64) = 0 then x else y) = if zk_is b L s 1 = true then x else y := fun x y => (w2 1 (by omega) x y).trans (by rw [Bool.not_false, Bool.true_and])
      rw [if_pos (show zO none < (0 : Int32) by decide), w1, zr_b1, w0, zr_b1, wf]
      show ∃ X', _ ∧ zJ X' b L (if zk_is b L s 0 = true then zi_set b L s S 23 3 else if zk_is b L s 1 = true then zi_set b L s S 9 4 else if zk_is b L s 2 = true then zi_let b L s S else (false, s, S)).2.1 (!(if zk_is b L s 0 = true then zi_set b L s S 23 3 else if zk_is b L s 1 = true then zi_set b L s S 9 4 else if zk_is b L s 2 = true then zi_let b L s S else (false, s, S)).1) ∧ ((if zk_is b L s 0 = true then zi_set b L s S 23 3 else if zk_is b L s 1 = true then zi_set b L s S 9 4 else if zk_is b L s 2 = true then zi_let b L s S else (false, s, S)).1 = true → X' 96 = (if zk_is b L s 0 = true then zi_set b L s S 23 3 else if zk_is b L s 1 = true then zi_set b L s S 9 4 else if zk_is b L s 2 = true then zi_let b L s S else (false, s, S)).2.2) ∧ _
      cases h0 : zk_is b L s 0 with
      | true =>
        obtain ⟨X', x, q1, q2⟩ := zm_set (hi := 23) (k := 3) hX hJ e96 (by omega)
        have q1' : fn_Mod_perhaps (1 : Int32) (0 : Int32) (23 : Int32) (0 : Int32) X = some (x, X') := q1
        rw [if_pos rfl, q1', zr_b2, zr_nx]
        exact ⟨_, rfl, q2⟩
      | false =>
        rw [if_neg (show ¬ false = true by decide)]
        cases h1 : zk_is b L s 1 with
        | true =>
          obtain ⟨X', x, q1, q2⟩ := zm_set (hi := 9) (k := 4) hX hJ e96 (by omega)
          have q1' : fn_Mod_perhaps (1 : Int32) (0 : Int32) (9 : Int32) (0 : Int32) X = some (x, X') := q1
          rw [if_pos rfl, q1', zr_b2, zr_nx]
          exact ⟨_, rfl, q2⟩
        | false =>
          have c12 : nI (zN S 2) = (12 : Int32) ↔ zN S 2 = 12 := nI_eq (b := 12) (by omega) (by omega)
          rw [if_neg (show ¬ false = true by decide), e96, n2.1]
          by_cases q : zN S 2 = 12
          · obtain ⟨X4, a1, a2, a3, _⟩ := zm_needs hX hJ false
            rw [zt_f] at a1
            have a2' : zJ X4 b L s true := a2
            have zl : zi_let b L s S = (false, s, S) := by unfold zi_let; rw [if_pos (by omega)]
            rw [if_pos (c12.mpr q), a1, zr_b1, zl]
            cases zk_is b L s 2 with
            | true => exact ⟨X4, rfl, a2', fun z => (by cases z), a3.U⟩
            | false => exact ⟨X4, rfl, a2', fun z => (by cases z), a3.U⟩
          · obtain ⟨X', q1, q2, q3, q4⟩ := zm_letter hX hJ e96 hW (by omega)
            rw [if_neg (fun z => q (c12.mp z)), q1, zr_b1]
            cases h2 : zk_is b L s 2 with
            | true =>
              rw [h2] at q2 q3
              exact ⟨X', rfl, q2, q3 rfl, q4⟩
            | false =>
              rw [h2] at q2
              exact ⟨X', rfl, q2, fun z => (by cases z), q4⟩
theorem zm_itemw {b : Nat → Nat} {L s : Nat} {X : IX} {S : Nat → Int32} (hX : zJt X b L) (hJ : zJ X b L s true) (e96 : X 96 = S) (hW : zI_WF S) : ∃ X', fn_Mod_item X = some X' ∧ zJ X' b L s true ∧ zYU X X' := by
  have n2 := zW_2 hW
  have hs0 : fn_Mod_stuffHere X = some (zO none) := zm_st_ hX hJ
  have hk0 : fn_Mod_kindHere X = some (zO none) := zm_kd_ hX hJ
  obtain ⟨wv, w1, w2⟩ := zm_is hX hJ
  have w0 : ∀ x y : Option IX, (if lg_cmp wv (277925 : Int64) = 0 then x else y) = _ := fun x y => w2 0 (by omega) x y
  have wf : ∀ x y : Option IX, (if lg_cmp wv (6475880 : Int64) = 0 then x else y) = _ := fun x y => w2 1 (by omega) x y
  have c12 : nI (zN S 2) = (12 : Int32) ↔ zN S 2 = 12 := nI_eq (b := 12) (by omega) (by omega)
  unfold fn_Mod_item fn_Mod_item_L115
  rw [hs0, zr_b1, hk0, zr_b1, if_pos (show zO none < (0 : Int32) by decide), if_pos (show zO none < (0 : Int32) by decide), w1, zr_b1, w0, if_neg (zf_w _), zr_b1, wf, if_neg (zf_w _), e96, n2.1]
  by_cases q : zN S 2 = 12
  · obtain ⟨X4, a1, a2, a3, _⟩ := zm_needs hX hJ false
    rw [zt_f] at a1
    have a2' : zJ X4 b L s true := a2
    rw [if_pos (c12.mpr q), a1, zr_b1]
    exact ⟨X4, rfl, a2', a3.U⟩
  · obtain ⟨X', q1, q2, q3, q4⟩ := zm_letter hX hJ e96 hW (by omega)
    rw [if_neg (zf_w _), if_neg (zf_w _)] at q2
    rw [if_neg (fun z => q (c12.mp z)), q1, zr_b1]
    exact ⟨X', rfl, q2, q4⟩
