/-! numbers in the reference -/
def zk_mv (b : Nat → Nat) : Nat → Nat → Nat → Nat
  | 0, _, a => a
  | d + 1, p, a => zk_mv b d (p + 1) (if 999 < a then a else 10 * a + (b p - 48))
def zk_rel (a m : Nat) : Prop := (a = m ∧ a ≤ 999) ∨ (a = 1000 ∧ 999 < m ∧ m ≤ 9999)
theorem zk_mv_rel (b : Nat → Nat) : ∀ D p a m, zk_rel a m → zk_rel (zk_nv b D p a) (zk_mv b (zk_run zk_dg b D p - p) p m) := by
  intro D
  induction D with
  | zero =>
    intro p a m h
    show zk_rel a (zk_mv b (p - p) p m)
    rw [Nat.sub_self]
    exact h
  | succ D ih =>
    intro p a m h
    have r1 : zk_run zk_dg b (D + 1) p = if zk_dg (b p) = true then zk_run zk_dg b D (p + 1) else p := rfl
    have r2 : zk_nv b (D + 1) p a = if zk_dg (b p) = true then zk_nv b D (p + 1) (min 1000 (a * 10 + (b p - 48))) else a := rfl
    rw [r1, r2]
    by_cases q : zk_dg (b p) = true
    · rw [if_pos q, if_pos q]
      have dq : 48 ≤ b p ∧ b p ≤ 57 := of_decide_eq_true q
      have run := (zk_run_b zk_dg b D (p + 1)).1
      have e : zk_run zk_dg b D (p + 1) - p = (zk_run zk_dg b D (p + 1) - (p + 1)) + 1 := by omega
      rw [e]
      show zk_rel _ (zk_mv b (zk_run zk_dg b D (p + 1) - (p + 1)) (p + 1) (if 999 < m then m else 10 * m + (b p - 48)))
      refine ih (p + 1) _ _ ?_
      unfold zk_rel at h ⊢
      split <;> omega
    · rw [if_neg q, if_neg q, Nat.sub_self]
      exact h
theorem zk_td1 {b : Nat → Nat} {L s : Nat} : zk_td b L s = true ↔ zk_k b L s = 1 := by
  unfold zk_td zk_k
  rw [Bool.and_eq_true]
  by_cases q : L ≤ s
  · rw [if_pos q]
    exact ⟨fun z => absurd (of_decide_eq_true z.1) (by omega), fun z => absurd z (by omega)⟩
  · rw [if_neg q]
    by_cases w : zk_al (b s) = true
    · rw [if_pos w, zk_ad w]
      exact ⟨fun z => absurd z.2 (by decide), fun z => absurd z (by omega)⟩
    · rw [if_neg w]
      by_cases y : zk_dg (b s) = true
      · rw [if_pos y]
        exact ⟨fun _ => rfl, fun _ => ⟨decide_eq_true (by omega), y⟩⟩
      · rw [if_neg y]
        refine ⟨fun z => absurd z.2 y, fun z => ?_⟩
        split at z <;> omega
theorem zk_e_dg {b : Nat → Nat} {L s : Nat} (hk : zk_k b L s = 1) : s < L ∧ zk_dg (b s) = true ∧ zk_e b L s = zk_run zk_dg b (L - s) s := by
  have h := zk_td1.mpr hk
  unfold zk_td at h
  rw [Bool.and_eq_true] at h
  have h1 : s < L := of_decide_eq_true h.1
  have na : ¬ zk_al (b s) = true := fun z => by
    have := zk_ad z
    rw [h.2] at this
    cases this
  refine ⟨h1, h.2, ?_⟩
  unfold zk_e
  rw [if_neg (by omega), if_neg na, if_pos h.2]
theorem zk_vm {b : Nat → Nat} {L s : Nat} (hk : zk_k b L s = 1) : zk_rel (zk_v b L s) (zk_mv b (zk_e b L s - s) s 0) := by
  obtain ⟨h1, h2, h3⟩ := zk_e_dg hk
  rw [h3]
  exact zk_mv_rel b (L - s) s 0 0 (Or.inl ⟨rfl, by omega⟩)
theorem zk_mv_le {b : Nat → Nat} : ∀ d p a, (∀ j, p ≤ j → j < p + d → b j ≤ 57) → a ≤ 9999 → zk_mv b d p a ≤ 9999 := by
  intro d
  induction d with
  | zero => intro p a _ h; exact h
  | succ d ih =>
    intro p a h ha
    have := h p (by omega) (by omega)
    show zk_mv b d (p + 1) (if 999 < a then a else 10 * a + (b p - 48)) ≤ 9999
    refine ih (p + 1) _ (fun j h1 h2 => h j (by omega) (by omega)) ?_
    split <;> omega
theorem zJ.st17 {X : IX} {b : Nat → Nat} {L s : Nat} {w : Bool} (h : zJ X b L s w) (v : Int32) : zJ (zu_st X 95 17 v) b L s w := ⟨h.1, by rw [zs_st, if_neg (by omega)]; exact h.2.1, by rw [zs_st, if_neg (by omega)]; exact h.2.2.1, by rw [zs_st, if_neg (by omega)]; exact h.2.2.2⟩
theorem zJt.st17 {X : IX} {b : Nat → Nat} {L : Nat} (h : zJt X b L) (v : Int32) : zJt (zu_st X 95 17 v) b L := h.Y ((zY.rf X).st (by omega) (by omega))
theorem zm_num_L {b : Nat → Nat} {L s : Nat} {X : IX} (hX : zJt X b L) (hJ : zJ X b L s false) (hk : zk_k b L s = 1) (lo hi : Int32) : ∀ (d k n m : Nat), k + d = zk_e b L s → s ≤ k → m ≤ 9999 → d < n → fn_Mod_number_L29 n lo hi 1 (nI m) (nI k) X = fn_Mod_number_L79 lo hi 1 (nI (zk_mv b d k m)) X := by
  have l := hX.1
  have eb := zk_e_b b hJ.1
  obtain ⟨h1, h2, h3⟩ := zk_e_dg hk
  have run := zk_run_b zk_dg b (L - s) s
  rw [← h3] at run
  intro d
  induction d with
  | zero =>
    intro k n m hk2 hs hm hd
    obtain ⟨f, rfl⟩ : ∃ f, n = f + 1 := ⟨n - 1, by omega⟩
    show fn_Mod_number_B29 _ _ _ _ _ _ _ = _
    unfold fn_Mod_number_B29
    rw [hJ.2.2.1, if_pos ((nI_leI (by omega) (by omega)).mpr (by omega))]
    rfl
  | succ d ih =>
    intro k n m hk2 hs hm hd
    obtain ⟨f, rfl⟩ : ∃ f, n = f + 1 := ⟨n - 1, by omega⟩
    have dq : 48 ≤ b k ∧ b k ≤ 57 := of_decide_eq_true (run.2.2.1 k hs (by omega))
    have ev : (10 : Int32) * nI m + nI (b k) - (48 : Int32) = nI (10 * m + (b k - 48)) := by
      rw [show (10 : Int32) = nI 10 from rfl, show (48 : Int32) = nI 48 from rfl, pk_mul, nI_add, pk_sub (by omega)]
      congr 1
      omega
    have c9 : nI m ≤ (999 : Int32) ↔ m ≤ 999 := nI_leI (b := 999) (by omega) (by omega)
    show fn_Mod_number_B29 (fn_Mod_number_L29 f) _ _ _ _ _ _ = fn_Mod_number_L79 lo hi 1 (nI (zk_mv b d (k + 1) (if 999 < m then m else 10 * m + (b k - 48)))) X
    unfold fn_Mod_number_B29 fn_Mod_number_L71
    rw [hJ.2.2.1, if_neg (nI_ge (a := k) (by omega) (by omega)), if_neg (by decide), zn_ib (show k < 120 by omega) (by decide), zr_gd, zr_nx, zr_nx, nI_1, zn_cl (by omega), hX.2.2.1 k (by omega), ev]
    by_cases q : m ≤ 999
    · rw [if_pos (c9.mpr q), if_neg (by omega)]
      exact ih (k + 1) f _ (by omega) (by omega) (by omega) (by omega)
    · rw [if_neg (fun z => q (c9.mp z)), if_pos (by omega)]
      exact ih (k + 1) f _ (by omega) (by omega) (by omega) (by omega)
theorem zm_number {b : Nat → Nat} {L s lo hi : Nat} {w : Bool} {X : IX} (hX : zJt X b L) (hJ : zJ X b L s w) (hlo : lo < 1000) (hhi : hi < 1000) : ∃ X', fn_Mod_number (nI lo) (nI hi) X = some X' ∧ zJ X' b L (zk_go b L s w (zk_num b L s lo hi)) (w || !zk_num b L s lo hi) ∧ zY X X' ∧ ((w || !zk_num b L s lo hi) = false → X' 95 17 = nI (zk_v b L s)) := by
  have l := hX.1
  have eb := zk_e_b b hJ.1
  cases w with
  | true =>
    refine ⟨X, ?_, hJ, zY.rf X, fun z => by cases z⟩
    unfold fn_Mod_number
    rw [hJ.2.2.2, zt_t, if_neg (by decide)]
  | false =>
    have fin : ∀ (x : Int32) (a : Bool), a = zk_num b L s lo hi → (a = true → x = nI (zk_v b L s)) → ∃ X', fn_Mod_number_L108 (zt a) (zu_st X 95 17 x) = some X' ∧ zJ X' b L (zk_go b L s false (zk_num b L s lo hi)) (false || !zk_num b L s lo hi) ∧ zY X X' ∧ ((false || !zk_num b L s lo hi) = false → X' 95 17 = nI (zk_v b L s)) := by
      intro x a ha hx
      obtain ⟨X', q1, q2, q3, q4⟩ := zm_needs (hX.st17 x) (hJ.st17 x) a
      rw [ha] at q2
      refine ⟨X', ?_, q2, ((zY.rf X).st (by omega) (by omega)).tr q3, fun z => ?_⟩
      · unfold fn_Mod_number_L108
        rw [q1, zr_b1]
      · rw [q4, zs_st, if_pos ⟨rfl, rfl⟩]
        refine hx ?_
        rw [ha]
        cases h : zk_num b L s lo hi with
        | true => rfl
        | false => rw [h] at z; cases z
    unfold fn_Mod_number
    rw [hJ.2.2.2, zt_f, if_pos rfl, hJ.2.1, zm_byte hX hJ.1, zr_b1, zm_dg hX, zr_b1, zr_nx]
    cases htd : zk_td b L s with
    | true =>
      have hk := zk_td1.mp htd
      have rel := zk_vm hk
      obtain ⟨m, hm⟩ : ∃ m, m = zk_mv b (zk_e b L s - s) s 0 := ⟨_, rfl⟩
      have L29 := zm_num_L hX hJ hk (nI lo) (nI hi) (zk_e b L s - s) s 400 0 (by omega) (by omega) (by omega) (by omega)
      rw [nI_0, ← hm] at L29
      rw [← hm] at rel
      have mb : m ≤ 9999 := by unfold zk_rel at rel; omega
      rw [zt_t, L29]
      unfold fn_Mod_number_L79 fn_Mod_number_L107
      rw [zr_nx, if_neg (by decide), ze_inN (nI m) _ _ (nI lo) (nI hi) rfl rfl, zr_b1, zw_iff (by omega) (by omega) (by omega)]
      by_cases q : lo ≤ m ∧ m ≤ hi
      · have nm : zk_num b L s lo hi = true := decide_eq_true ⟨hk, by unfold zk_rel at rel; omega⟩
        rw [decide_eq_true q, zt_t, if_neg (by decide)]
        exact fin (nI m) true nm.symm (fun _ => by unfold zk_rel at rel; congr 1; omega)
      · have nm : zk_num b L s lo hi = false := decide_eq_false (fun z => q (by unfold zk_rel at rel; omega))
        rw [decide_eq_false q, zt_f, if_pos rfl]
        exact fin (nI m) false nm.symm (fun z => by cases z)
    | false =>
      have nk : ¬ zk_k b L s = 1 := fun z => by
        have := zk_td1.mpr z
        rw [htd] at this
        cases this
      have nm : zk_num b L s lo hi = false := decide_eq_false (fun z => nk z.1)
      have L29 : fn_Mod_number_L29 400 (nI lo) (nI hi) (0 : Int32) (0 : Int32) (nI s) X = fn_Mod_number_L79 (nI lo) (nI hi) 0 0 X := by
        show fn_Mod_number_B29 (fn_Mod_number_L29 399) _ _ _ _ _ _ = _
        unfold fn_Mod_number_B29
        rw [if_pos (show (0 : Int32) = 0 from rfl)]
        split <;> rfl
      rw [zt_f, L29]
      unfold fn_Mod_number_L79 fn_Mod_number_L107
      rw [zr_nx, if_pos rfl]
      exact fin 0 false nm.symm (fun z => by cases z)
/-! a free cell -/
def zk_fc (b : Nat → Nat) (L s : Nat) (S : Nat → Int32) : Bool := zk_num b L s 0 23 && (zS_sd S (zk_v b L s)).isNone
theorem zm_fc_L {b : Nat → Nat} {L s : Nat} {w : Bool} {X : IX} (hX : zJt X b L) (hJ : zJ X b L s w) (hk : zk_k b L s = 1) : ∀ (d k n m : Nat), k + d = zk_e b L s → s ≤ k → m ≤ 9999 → d < n → fn_Mod_freeCell_L7 n (nI m) (nI k) X = fn_Mod_freeCell_L61 (nI (zk_mv b d k m)) X := by
  have l := hX.1
  have eb := zk_e_b b hJ.1
  obtain ⟨h1, h2, h3⟩ := zk_e_dg hk
  have run := zk_run_b zk_dg b (L - s) s
  rw [← h3] at run
  have td := zk_td1.mpr hk
  intro d
  induction d with
  | zero =>
    intro k n m hk2 hs hm hd
    obtain ⟨f, rfl⟩ : ∃ f, n = f + 1 := ⟨n - 1, by omega⟩
    show fn_Mod_freeCell_B7 _ _ _ _ = _
    unfold fn_Mod_freeCell_B7
    rw [hJ.2.2.1, if_pos ((nI_leI (by omega) (by omega)).mpr (by omega))]
    rfl
  | succ d ih =>
    intro k n m hk2 hs hm hd
    obtain ⟨f, rfl⟩ : ∃ f, n = f + 1 := ⟨n - 1, by omega⟩
    have dq : 48 ≤ b k ∧ b k ≤ 57 := of_decide_eq_true (run.2.2.1 k hs (by omega))
    have ev : (10 : Int32) * nI m + nI (b k) - (48 : Int32) = nI (10 * m + (b k - 48)) := by
      rw [show (10 : Int32) = nI 10 from rfl, show (48 : Int32) = nI 48 from rfl, pk_mul, nI_add, pk_sub (by omega)]
      congr 1
      omega
    have c9 : nI m ≤ (999 : Int32) ↔ m ≤ 999 := nI_leI (b := 999) (by omega) (by omega)
    show fn_Mod_freeCell_B7 (fn_Mod_freeCell_L7 f) _ _ _ = fn_Mod_freeCell_L61 (nI (zk_mv b d (k + 1) (if 999 < m then m else 10 * m + (b k - 48)))) X
    unfold fn_Mod_freeCell_B7 fn_Mod_freeCell_L54
    rw [hJ.2.2.1, if_neg (nI_ge (a := k) (by omega) (by omega)), hJ.2.1, zm_byte hX hJ.1, zr_b1, zm_dg hX, zr_b1, td, zt_t, if_neg (by decide), zn_ib (show k < 120 by omega) (by decide), zr_gd, zr_nx, zr_nx, nI_1, zn_cl (by omega), hX.2.2.1 k (by omega), ev]
    by_cases q : m ≤ 999
    · rw [if_pos (c9.mpr q), if_neg (by omega)]
      exact ih (k + 1) f _ (by omega) (by omega) (by omega) (by omega)
    · rw [if_neg (fun z => q (c9.mp z)), if_pos (by omega)]
      exact ih (k + 1) f _ (by omega) (by omega) (by omega) (by omega)
theorem zm_free {b : Nat → Nat} {L s : Nat} {w : Bool} {X : IX} {S : Nat → Int32} (hX : zJt X b L) (hJ : zJ X b L s w) (e96 : X 96 = S) (hW : zI_WF S) : ∃ X', fn_Mod_freeCell X = some X' ∧ zJ X' b L (zk_go b L s w (zk_fc b L s S)) (w || !zk_fc b L s S) ∧ zY X X' ∧ ((w || !zk_fc b L s S) = false → X' 95 17 = nI (zk_v b L s)) := by
  have l := hX.1
  have eb := zk_e_b b hJ.1
  have fin : ∀ (x : Int32) (a : Bool), a = zk_fc b L s S → (a = true → x = nI (zk_v b L s)) → ∃ X', fn_Mod_freeCell_L101 (zt a) (zu_st X 95 17 x) = some X' ∧ zJ X' b L (zk_go b L s w (zk_fc b L s S)) (w || !zk_fc b L s S) ∧ zY X X' ∧ ((w || !zk_fc b L s S) = false → X' 95 17 = nI (zk_v b L s)) := by
    intro x a ha hx
    obtain ⟨X', q1, q2, q3, q4⟩ := zm_needs (hX.st17 x) (hJ.st17 x) a
    rw [ha] at q2
    refine ⟨X', ?_, q2, ((zY.rf X).st (by omega) (by omega)).tr q3, fun z => ?_⟩
    · unfold fn_Mod_freeCell_L101
      rw [q1, zr_b1]
    · rw [q4, zs_st, if_pos ⟨rfl, rfl⟩]
      refine hx ?_
      rw [ha]
      cases h : zk_fc b L s S with
      | true => rfl
      | false => rw [h] at z; cases w <;> cases z
  unfold fn_Mod_freeCell
  rw [hJ.2.1, zr_nx]
  cases htd : zk_td b L s with
  | true =>
    have hk := zk_td1.mp htd
    have rel := zk_vm hk
    obtain ⟨m, hm⟩ : ∃ m, m = zk_mv b (zk_e b L s - s) s 0 := ⟨_, rfl⟩
    have L7 := zm_fc_L hX hJ hk (zk_e b L s - s) s 400 0 (by omega) (by omega) (by omega) (by omega)
    rw [nI_0, ← hm] at L7
    rw [← hm] at rel
    have mb : m ≤ 9999 := by unfold zk_rel at rel; omega
    rw [L7]
    unfold fn_Mod_freeCell_L61 fn_Mod_freeCell_L100
    have hX' := hX.st17 (nI m)
    have hJ' := hJ.st17 (nI m)
    have e96' : zu_st X 95 17 (nI m) 96 = S := by rw [zs_other _ _ _ (by decide)]; exact e96
    rw [zr_nx, hJ'.2.1, zm_byte hX' hJ.1, zr_b1, zm_dg hX', zr_b1, htd, zt_t, if_neg (by decide), ze_mCell, zr_b1, show zw 0 (nI m) 23 = decide (0 ≤ m ∧ m ≤ 23) from zw_iff (l := 0) (h := 23) (by omega) (by omega) (by omega)]
    by_cases q : m ≤ 23
    · have ev : zk_v b L s = m := by unfold zk_rel at rel; omega
      have nm : zk_num b L s 0 23 = true := decide_eq_true ⟨hk, by omega, by omega⟩
      rw [decide_eq_true ⟨by omega, q⟩, zt_t, if_neg (by decide), zm_sd e96' hW (by omega), zr_b1]
      cases hs : zS_sd S m with
      | some u =>
        have fc : zk_fc b L s S = false := by unfold zk_fc; rw [nm, ev, hs]; rfl
        have hu := (zS_sd_s hs).1
        have n1 := (zW_1 hW).2
        rw [if_pos (show (0 : Int32) ≤ zO (some u) from zn_0le (by omega))]
        exact fin (nI m) false fc.symm (fun z => by cases z)
      | none =>
        have fc : zk_fc b L s S = true := by unfold zk_fc; rw [nm, ev, hs]; rfl
        rw [if_neg (show ¬ (0 : Int32) ≤ zO none by decide)]
        exact fin (nI m) true fc.symm (fun _ => by rw [ev])
    · have nm : zk_num b L s 0 23 = false := decide_eq_false (fun z => q (by unfold zk_rel at rel; omega))
      have fc : zk_fc b L s S = false := by unfold zk_fc; rw [nm]; rfl
      rw [decide_eq_false (fun z => q z.2), zt_f, if_pos rfl]
      exact fin (nI m) false fc.symm (fun z => by cases z)
  | false =>
    have nk : ¬ zk_k b L s = 1 := fun z => by
      have := zk_td1.mpr z
      rw [htd] at this
      cases this
    have fc : zk_fc b L s S = false := by
      unfold zk_fc
      rw [show zk_num b L s 0 23 = false from decide_eq_false (fun z => nk z.1)]
      rfl
    have L7 : fn_Mod_freeCell_L7 400 (0 : Int32) (nI s) X = fn_Mod_freeCell_L61 0 X := by
      show fn_Mod_freeCell_B7 (fn_Mod_freeCell_L7 399) _ _ _ = _
      unfold fn_Mod_freeCell_B7
      rw [hJ.2.1, zm_byte hX hJ.1, zr_b1, zm_dg hX, zr_b1, htd, zt_f, if_pos (show (0 : Int32) = 0 from rfl)]
      split <;> rfl
    rw [L7]
    unfold fn_Mod_freeCell_L61 fn_Mod_freeCell_L100
    have hX' := hX.st17 0
    have hJ' := hJ.st17 0
    rw [zr_nx, hJ'.2.1, zm_byte hX' hJ.1, zr_b1, zm_dg hX', zr_b1, htd, zt_f, if_pos rfl]
    exact fin 0 false fc.symm (fun z => by cases z)
/-! a number behind a word that may stand here -/
theorem zm_perhaps {b : Nat → Nat} {L s lo hi : Nat} {X : IX} (hX : zJt X b L) (hJ : zJ X b L s false) (hlo : lo < 1000) (hhi : hi < 1000) (dv : Int32) : ∃ X' x, fn_Mod_perhaps (zt true) (nI lo) (nI hi) dv X = some (x, X') ∧ zJ X' b L (zk_go b L (zk_n b L s) false (zk_num b L (zk_n b L s) lo hi)) (!zk_num b L (zk_n b L s) lo hi) ∧ zY X X' ∧ (zk_num b L (zk_n b L s) lo hi = true → x = nI (zk_v b L (zk_n b L s))) := by
  obtain ⟨X1, q1, q2, q3, _⟩ := zm_needs hX hJ true
  have q2' : zJ X1 b L (zk_n b L s) false := q2
  obtain ⟨X2, p1, p2, p3, p4⟩ := zm_number (hX.Y q3) q2' hlo hhi
  refine ⟨X2, X2 95 17, ?_, p2, q3.tr p3, fun z => p4 (by rw [z]; rfl)⟩
  unfold fn_Mod_perhaps
  rw [zt_t, if_neg (by decide)]
  rw [zt_t] at q1
  rw [q1, zr_b1, p1, zr_b1]
