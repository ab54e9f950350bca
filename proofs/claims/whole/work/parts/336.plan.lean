/-! the best plan -/
theorem zP_in_cg {g k : Nat → Nat × Nat × Nat} (p : Nat → Nat) : ∀ (d c : Nat) (q : Nat → Nat), c + d ≤ 24 → (∀ j, j < 24 → g j = k j) → zP_in g p d c q = zP_in k p d c q := by
  intro d
  induction d with
  | zero => intro c q _ _; rfl
  | succ d ih =>
    intro c q hc h
    show zP_in g p d (c + 1) (zP_add g p c q) = zP_in k p d (c + 1) (zP_add k p c q)
    have e : zP_add g p c q = zP_add k p c q := by
      unfold zP_add
      rw [h c (by omega)]
    rw [e, ih (c + 1) _ (by omega) h]
theorem zP_cg {G K : Nat → Nat → Nat × Nat × Nat} (h : ∀ hh j, j < 24 → G hh j = K hh j) : ∀ (d hh : Nat) (p : Nat → Nat), zP G d hh p = zP K d hh p := by
  intro d
  induction d with
  | zero => intro hh p; rfl
  | succ d ih =>
    intro hh p
    show zP G d (hh + 1) (zP_st (G hh) p) = zP K d (hh + 1) (zP_st (K hh) p)
    have e : zP_st (G hh) p = zP_st (K hh) p := zP_in_cg p 24 0 _ (by omega) (h hh)
    rw [e, ih]
theorem zPh_ch {S : Nat → Int32} (h : zI_WF S) (ch : Int32) {n N c : Nat} (en : n = zN S 1) : zPh (zS_ch S ch n) (zS_cs (zS_ch S ch n)) N c = zPh S ch N c := by
  have n1 := zW_1 h
  have q := zS_ch_Eq S ch (n := n) (by omega)
  have W := zS_ch_WF h ch en
  have n0 : zN (zS_ch S ch n) 0 = zN S 0 := by unfold zN; rw [zS_ch_o S ch (fun t _ => by omega)]
  unfold zPh zPc
  rw [q.n3]
  refine congrFun (zP_cg (fun hh j hj => ?_) N 0 _) _
  have eb : zS_by (zS_ch S ch n) (zS_cs (zS_ch S ch n)) j = zS_by S ch j := by
    unfold zS_by
    rw [q.on hj]
    cases ho : zS_on S j with
    | none => rfl
    | some t =>
      have ht := (zS_on_lt ho).1
      show (if zbt (zS_cs (zS_ch S ch n)) t = true then 1 else 0) = (if zbt ch t = true then 1 else 0)
      rw [zS_cs_b W (by rw [q.n1]; exact ht)]
      have e6 : zF (zS_ch S ch n) t 6 = (zt (zbt ch t)).toNatClampNeg := by
        unfold zF zN
        rw [zS_ch_6 S ch (by omega)]
      rw [e6]
      cases zbt ch t <;> rfl
  unfold zS_go
  rw [eb, n0, q.rw hj]
theorem zS_ch_ch (S : Nat → Int32) (a b : Int32) (n : Nat) : zS_ch (zS_ch S a n) b n = zS_ch S b n := by
  funext j
  unfold zS_ch
  split <;> rfl
def zFp2 (S : Nat → Int32) (N c v : Nat) : Nat := zPh S (nI v) N c
theorem zl_pl_P {X : IX} {S : Nat → Int32} (hC : zC_laid X S) (hL : zI_LI X 0 S) (h : zI_WF S) {N c k : Nat} (hN : N ≤ 15) (hc : c < 24) (ek : k = zN S 1) (hk : k ≤ 8) : ∀ (d v n : Nat) (b : Option Nat) (Y : LX), v + d = 2 ^ k → d < n → ∃ Y', fn_Post_plan_L64 n (nI c) (nI N) (zQ0 b) (zQm (zFp2 S N c) b) (nI v) X Y = some (zQ0 (zMx (fun _ => true) (zFp2 S N c) d v b), X, Y') := by
  have lt : ∀ w, zFp2 S N c w < 2 ^ 63 := fun w => zPh_lt h _ hN hc
  have w3 := zW_3 h
  have pw : 2 ^ k ≤ 256 := Nat.pow_le_pow_right (show 0 < 2 by omega) hk
  have t4 : X 20 4 = nI k := by rw [(zL_h rfl hL).2.1, ek]; exact (zW_1 h).1
  have t6 : X 20 6 = nI (zN S 3) := by rw [(zL_h rfl hL).2.2.2.1]; exact w3.1
  have sh : (1 : Int32) <<< (nI k &&& 31) = nI (2 ^ k) := by
    have := zo_shl (t := k) (b := 1) (by omega) (by omega)
    rw [Nat.one_mul] at this
    exact this
  intro d
  induction d with
  | zero =>
    intro v n b Y hv hd
    obtain ⟨m, rfl⟩ : ∃ m, n = m + 1 := ⟨n - 1, by omega⟩
    refine ⟨Y, ?_⟩
    show fn_Post_plan_B64 _ _ _ _ _ _ _ _ = _
    unfold fn_Post_plan_B64
    rw [t4, sh, if_pos ((nI_leI (by omega) (by omega)).mpr (by omega))]
    rfl
  | succ d ih =>
    intro v n b Y hv hd
    obtain ⟨m, rfl⟩ : ∃ m, n = m + 1 := ⟨n - 1, by omega⟩
    obtain ⟨Ya, y1, y2⟩ := zC_spread hC h (nI v) hN hc Y
    have y3 : Ya 6 (zN S 3) = lN (zFp2 S N c v) := y2 _ (by omega)
    have cq := zQ_gt (zFp2 S N c) v (lt v) b (fun w e => lt w)
    show ∃ Y' : LX, fn_Post_plan_B64 (fn_Post_plan_L64 m) _ _ _ _ _ _ _ = some (zQ0 (zMx _ _ d (v + 1) (if true = true then _ else _)), X, Y')
    unfold fn_Post_plan_B64 fn_Post_plan_L130
    rw [t4, sh, if_neg (nI_ge (a := v) (by omega) (by omega)), y1, zr_b1, t6, zn_ib (show zN S 3 < 24 by omega) (by decide), zr_gd, zr_gd, zn_cl (by omega), y3, if_pos rfl]
    simp only [zr_nx, nI_1, cq]
    cases b with
    | none =>
      rw [if_neg (fun q => by obtain ⟨w, e, _⟩ := q; cases e)]
      exact ih (v + 1) m (some v) Ya (by omega) (by omega)
    | some w =>
      by_cases q : zFp2 S N c v ≤ zFp2 S N c w
      · rw [if_pos ⟨w, rfl, q⟩]
        simp only [if_pos q]
        exact ih (v + 1) m (some w) Ya (by omega) (by omega)
      · rw [if_neg (fun z => by obtain ⟨u, e, z⟩ := z; cases e; exact q z)]
        simp only [if_neg q]
        exact ih (v + 1) m (some v) Ya (by omega) (by omega)
theorem zl_pl_M {S : Nat → Int32} (h : zI_WF S) {N c k : Nat} (hN : N ≤ 15) (hc : c < 24) (ek : k = zN S 1) (hk : k ≤ 8) : ∀ (d v n : Nat) (b : Option Nat) (X : IX) (Y : LX), v + d = 2 ^ k → d < n → (∀ x, zS_ch (X 96) x k = zS_ch S x k) → (∀ j, j < 142 → X 98 j = S j) → (∀ w, b = some w → w < 2 ^ k) → ∃ X' Y', fn_Mod_plan_L56 n (nI c) (nI N) (zO b) (zQz (zFp2 S N c) b) (nI v) X Y = some (zO (zMx (fun _ => true) (zFp2 S N c) d v b), X', Y') ∧ X' 96 = S ∧ zU X X' := by
  have lt : ∀ w, zFp2 S N c w < 2 ^ 63 := fun w => zPh_lt h _ hN hc
  have n1 := zW_1 h
  have pw : 2 ^ k ≤ 256 := Nat.pow_le_pow_right (show 0 < 2 by omega) hk
  have sh : (1 : Int32) <<< (nI k &&& 31) = nI (2 ^ k) := by
    have := zo_shl (t := k) (b := 1) (by omega) (by omega)
    rw [Nat.one_mul] at this
    exact this
  have same : ∀ (T : Nat → Int32), (∀ x, zS_ch T x k = zS_ch S x k) → ∀ j, (∀ t, t < k → j ≠ 30 + 9 * t + 6) → T j = S j := by
    intro T hT j hj
    have := congrFun (hT 0) j
    rwa [zS_ch_o T 0 hj, zS_ch_o S 0 hj] at this
  intro d
  induction d with
  | zero =>
    intro v n b X Y hv hd hT h8 hb
    obtain ⟨m, rfl⟩ : ∃ m, n = m + 1 := ⟨n - 1, by omega⟩
    have t1 : X 96 1 = nI k := by rw [same (X 96) hT 1 (fun t _ => by omega), n1.1, ek]
    obtain ⟨Xp, b1, b2, _, b4, b5⟩ := zl_cp_putsBack 142 0 400 X (by omega) (by omega)
    have b1' : fn_Mod_putsBack X = some Xp := b1
    refine ⟨Xp, Y, ?_, ?_, fun a b q q2 w => by rw [b5 a q]⟩
    · show fn_Mod_plan_B56 _ _ _ _ _ _ _ _ = _
      unfold fn_Mod_plan_B56
      rw [t1, sh, if_pos ((nI_leI (by omega) (by omega)).mpr (by omega)), b1', zr_b1]
      rfl
    · funext j
      by_cases q : j < 142
      · rw [b2 j (by omega) q]; exact h8 j q
      · rw [b4 j (by omega)]; exact same (X 96) hT j (fun t _ => by omega)
  | succ d ih =>
    intro v n b X Y hv hd hT h8 hb
    obtain ⟨m, rfl⟩ : ∃ m, n = m + 1 := ⟨n - 1, by omega⟩
    have t1 : X 96 1 = nI k := by rw [same (X 96) hT 1 (fun t _ => by omega), n1.1, ek]
    obtain ⟨Xc, c1, c2, c3⟩ := zm_ch (nI v) (N := k) (by omega) t1
    rw [hT] at c2
    obtain ⟨Xa, Ya, e1, v1⟩ := zm_home c2 (zS_ch_WF h (nI v) ek) hN hc Y
    rw [zPh_ch h (nI v) ek] at e1
    have e1' : fn_Mod_homeParts (nI c) (nI N) Xc Y = some (lN (zFp2 S N c v), Xa, Ya) := e1
    have a96 : Xa 96 = zS_ch S (nI v) k := by rw [v1.row (by decide)]; exact c2
    have aT : ∀ x, zS_ch (Xa 96) x k = zS_ch S x k := fun x => by rw [a96, zS_ch_ch]
    have a8 : ∀ j, j < 142 → Xa 98 j = S j := fun j hj => by rw [v1.row (by decide), c3 98 (by decide)]; exact h8 j hj
    have Ta : zU X Xa := fun a b q q2 w => by rw [v1 a b w, c3 a q]
    show ∃ (X' : IX) (Y' : LX), fn_Mod_plan_B56 (fn_Mod_plan_L56 m) _ _ _ _ _ _ _ = some (zO (zMx _ _ d (v + 1) (if true = true then _ else _)), X', Y') ∧ _
    unfold fn_Mod_plan_B56 fn_Mod_plan_L95 fn_Mod_plan_L102
    rw [t1, sh, if_neg (nI_ge (a := v) (by omega) (by omega)), c1, zr_b1, e1', zr_b3, if_pos rfl]
    simp only [zr_nx, nI_1]
    cases b with
    | none =>
      rw [if_pos (show zO none < (0 : Int32) by decide)]
      obtain ⟨X', Y', q1, q2, q3⟩ := ih (v + 1) m (some v) Xa Ya (by omega) (by omega) aT a8 (fun w e => by cases e; omega)
      exact ⟨X', Y', q1, q2, Ta.tr q3⟩
    | some w =>
      have hw := hb w rfl
      have cz : (lg_cmp (lN (zFp2 S N c v)) (zQz (zFp2 S N c) (some w)) ≤ 0) ↔ zFp2 S N c v ≤ zFp2 S N c w := (zm_cmp_le _ _).trans (pk_lLE (lt v) (lt w))
      rw [if_neg (show ¬ zO (some w) < (0 : Int32) from nI_pos (by omega))]
      simp only [cz]
      by_cases q : zFp2 S N c v ≤ zFp2 S N c w
      · simp only [if_pos q]
        obtain ⟨X', Y', q1, q2, q3⟩ := ih (v + 1) m (some w) Xa Ya (by omega) (by omega) aT a8 hb
        exact ⟨X', Y', q1, q2, Ta.tr q3⟩
      · simp only [if_neg q]
        obtain ⟨X', Y', q1, q2, q3⟩ := ih (v + 1) m (some v) Xa Ya (by omega) (by omega) aT a8 (fun w e => by cases e; omega)
        exact ⟨X', Y', q1, q2, Ta.tr q3⟩
theorem st_plan {X : IX} {Y : LX} (hI : zI_INV X) (a1 : Int32) (a2 : Int32) : ∃ (v : Int32) (X1 : IX) (Y1 : LX) (X2 : IX) (Y2 : LX), fn_Post_plan a1 a2 X Y = some (v, X1, Y1) ∧ fn_Mod_plan a1 a2 X1 Y1 = some (v, X2, Y2) ∧ zI_INV X2 := by
  have n10 : ((1 : Int32) = 0) = False := by decide
  obtain ⟨X1, X2, e1, e2, e3, e4⟩ := zI_both2 hI (f := -1000001) 0 (by decide) (by decide)
  obtain ⟨X1s, X2s, s1, s2, s3, s4⟩ := zI_both2 hI (f := -1000007) 6 (by decide) (by decide)
  obtain ⟨n1, hn⟩ := zI_1 hI
  obtain ⟨n, en⟩ : ∃ n, n = zN (X 96) 1 := ⟨_, rfl⟩
  rw [← en] at n1 hn
  have t1 : X 20 4 = nI n := by rw [(zL_h rfl hI.1.1).2.1, n1]
  have m1 : X1 96 1 = nI n := by rw [e4 96 (by decide), n1]
  rcases (Bool.eq_false_or_eq_true (zw 0 a1 23 && zw 1 a2 8)).symm with hg | hg
  · refine ⟨-1000001, X1, Y, X2, Y, ?_, ?_, e3⟩
    · cases h1 : zw 0 a1 23 <;> cases h2 : zw 1 a2 8 <;> first
        | exact absurd hg (by rw [h1, h2]; decide)
        | simp only [fn_Post_plan, fn_Post_plan_L17, ze_isCell, ze_isWithin, h1, h2, zr_b1, zr_b2, zr_nx, zt_f, zt_t, e1, n10, Bool.and_true, Bool.and_false, Bool.true_and, Bool.false_and, ↓reduceIte]
    · cases h1 : zw 0 a1 23 <;> cases h2 : zw 1 a2 8 <;> first
        | exact absurd hg (by rw [h1, h2]; decide)
        | simp only [fn_Mod_plan, fn_Mod_plan_L19, ze_mCell, ze_inN a2 1 8 1 8 rfl rfl, h1, h2, zr_b1, zr_b2, zr_nx, zt_f, zt_t, e2, n10, Bool.and_true, Bool.and_false, Bool.true_and, Bool.false_and, ↓reduceIte]
  simp only [Bool.and_eq_true] at hg
  obtain ⟨h1, h2⟩ := hg
  obtain ⟨c, hc, rfl⟩ := zw_n (m := 23) (by decide) h1
  obtain ⟨N, hN1, hN, rfl⟩ := zw_1n (m := 8) (by decide) h2
  have hW := hI.1.2
  have c8 : nI n ≤ (8 : Int32) ↔ n ≤ 8 := nI_leI (b := 8) (by omega) (by omega)
  by_cases q : n ≤ 8
  · obtain ⟨Xa, l1, l2, l3⟩ := zC_lay rfl hI.1.1 hW
    have La : zI_LI Xa 0 (X 96) := zI_LI.cg (fun a ha => l3 a (by omega)) hI.1.1
    have hIa := hI.keep (zI_keep.lay l3)
    have e96 : Xa 96 = X 96 := l3 96 (by omega)
    have pw : 2 ^ n ≤ 256 := Nat.pow_le_pow_right (show 0 < 2 by omega) q
    have pp : 0 < 2 ^ n := Nat.pow_pos (by omega)
    obtain ⟨Ya, p1⟩ := zl_pl_P l2 La hW (N := N) (c := c) (by omega) (by omega) en q (2 ^ n) 0 400 none Y (by omega) (by omega)
    obtain ⟨Xp, b1, b2, _, b4, b5⟩ := zl_cp_puts 142 0 400 Xa (by omega) (by omega)
    have b1' : fn_Mod_puts Xa = some Xp := b1
    have x96 : Xp 96 = X 96 := by rw [b5 96 (by decide)]; exact e96
    obtain ⟨Xb, Yb, m1', m2, m3⟩ := zl_pl_M hW (N := N) (c := c) (by omega) (by omega) en q (2 ^ n) 0 400 none Xp Ya (by omega) (by omega) (fun x => by rw [x96]) (fun j hj => by rw [b2 j (by omega) hj, e96]) (fun w e => by cases e)
    obtain ⟨w, hw⟩ := zMx_some (fun _ => true) (zFp2 (X 96) N c) (2 ^ n) 0 none (Or.inr ⟨0, by omega, by omega, rfl⟩)
    rw [hw, nI_0] at p1 m1'
    have kU : zU Xa Xb := fun a b q q2 w => by rw [m3 a b q q2 w, b5 a q2]
    refine ⟨nI w, Xa, Ya, Xb, Yb, ?_, ?_, hIa.keep (kU.keep (by rw [m2, e96]))⟩
    · unfold fn_Post_plan
      rw [ze_isCell, h1, zr_b1, zt_t, if_neg (by decide), ze_isWithin, h2, zr_b1, zt_t, if_neg (by decide), t1, if_pos (c8.mpr q), l1, zr_b1]
      exact p1
    · unfold fn_Mod_plan
      rw [ze_mCell, h1, zr_b1, zt_t, if_neg (by decide), ze_inN (nI N) 1 8 1 8 rfl rfl, h2, zr_b1, zt_t, if_neg (by decide), e96, n1, if_pos (c8.mpr q), b1', zr_b1]
      exact m1'
  · refine ⟨-1000007, X1s, Y, X2s, Y, ?_, ?_, s3⟩
    · unfold fn_Post_plan
      rw [ze_isCell, h1, zr_b1, zt_t, if_neg (by decide), ze_isWithin, h2, zr_b1, zt_t, if_neg (by decide), t1, if_neg (fun z => q (c8.mp z)), s1, zr_b2]
    · unfold fn_Mod_plan
      rw [ze_mCell, h1, zr_b1, zt_t, if_neg (by decide), ze_inN (nI N) 1 8 1 8 rfl rfl, h2, zr_b1, zt_t, if_neg (by decide), s4 96 (by decide), n1, if_neg (fun z => q (c8.mp z)), s2, zr_b2]
