/-! the reference's tokens -/
def zJt (X : IX) (b : Nat → Nat) (L : Nat) : Prop := L ≤ 120 ∧ X 95 14 = nI L ∧ (∀ j, j < L → X 104 j = nI (b j)) ∧ ∀ j, j < L → b j ≤ 255
def zJ (X : IX) (b : Nat → Nat) (L s : Nat) (w : Bool) : Prop := s ≤ L ∧ X 95 15 = nI s ∧ X 95 16 = nI (zk_e b L s) ∧ X 95 18 = zt w
def zY (X X' : IX) : Prop := ∀ a j, (a ≠ 95 ∨ j < 15 ∨ 18 < j) → X' a j = X a j
theorem zY.rf (X : IX) : zY X X := fun _ _ _ => rfl
theorem zY.tr {X Y Z : IX} (h : zY X Y) (h2 : zY Y Z) : zY X Z := fun a j q => (h2 a j q).trans (h a j q)
theorem zY.st {X Y : IX} {j : Nat} {v : Int32} (h : zY X Y) (h1 : 15 ≤ j) (h2 : j ≤ 18) : zY X (zu_st Y 95 j v) := by
  intro a i q
  rw [zs_st, if_neg (by omega)]
  exact h a i q
theorem zY.row {X X' : IX} (h : zY X X') {a : Nat} (ha : a ≠ 95) : X' a = X a := funext fun j => h a j (Or.inl ha)
theorem zJt.cg {X X' : IX} {b : Nat → Nat} {L : Nat} (h : zJt X b L) (e1 : X' 95 14 = X 95 14) (e9 : X' 104 = X 104) : zJt X' b L := ⟨h.1, by rw [e1]; exact h.2.1, fun j hj => by rw [e9]; exact h.2.2.1 j hj, h.2.2.2⟩
theorem zJt.Y {X X' : IX} {b : Nat → Nat} {L : Nat} (h : zJt X b L) (q : zY X X') : zJt X' b L := h.cg (q 95 14 (by omega)) (q.row (by decide))
def zk_bt (b : Nat → Nat) (L k : Nat) : Int32 := if L ≤ k then -1 else nI (b k)
def zk_ta (b : Nat → Nat) (L k : Nat) : Bool := decide (k < L) && zk_al (b k)
def zk_td (b : Nat → Nat) (L k : Nat) : Bool := decide (k < L) && zk_dg (b k)
theorem zm_byte {b : Nat → Nat} {L k : Nat} {X : IX} (hX : zJt X b L) (hk : k ≤ L) : fn_Mod_byteAt X (nI k) = some (zk_bt b L k) := by
  have l := hX.1
  have c1 : nI L ≤ nI k ↔ L ≤ k := nI_leI (by omega) (by omega)
  unfold fn_Mod_byteAt fn_Mod_byteAt_L18 zk_bt
  rw [hX.2.1]
  by_cases q : L ≤ k
  · rw [if_pos (c1.mpr q), if_pos q]
  · rw [if_neg (fun z => q (c1.mp z)), zn_ib (show k < 120 by omega) (by decide), zr_gd, zn_cl (by omega), hX.2.2.1 k (by omega), if_neg q]
theorem zm_al {b : Nat → Nat} {L k : Nat} {X : IX} (hX : zJt X b L) : fn_Mod_isAlpha (zk_bt b L k) = some (zt (zk_ta b L k)) := by
  unfold fn_Mod_isAlpha zk_bt zk_ta
  rw [ze_inN _ 97 122 97 122 rfl rfl, zr_b1, zt_01, zr_gd]
  by_cases q : L ≤ k
  · rw [if_pos q, decide_eq_false (by omega)]; rfl
  · have bp := hX.2.2.2 k (by omega)
    rw [if_neg q, decide_eq_true (by omega), Bool.true_and]
    exact congrArg (fun x => some (zt x)) (zw_iff (l := 97) (h := 122) (by omega) (by omega) (by omega))
theorem zm_dg {b : Nat → Nat} {L k : Nat} {X : IX} (hX : zJt X b L) : fn_Mod_isDigit (zk_bt b L k) = some (zt (zk_td b L k)) := by
  unfold fn_Mod_isDigit zk_bt zk_td
  rw [ze_inN _ 48 57 48 57 rfl rfl, zr_b1, zt_01, zr_gd]
  by_cases q : L ≤ k
  · rw [if_pos q, decide_eq_false (by omega)]; rfl
  · have bp := hX.2.2.2 k (by omega)
    rw [if_neg q, decide_eq_true (by omega), Bool.true_and]
    exact congrArg (fun x => some (zt x)) (zw_iff (l := 48) (h := 57) (by omega) (by omega) (by omega))
theorem zk_bt32 {b : Nat → Nat} {L k : Nat} {X : IX} (hX : zJt X b L) : zk_bt b L k = (32 : Int32) ↔ (k < L ∧ b k = 32) := by
  unfold zk_bt
  by_cases q : L ≤ k
  · rw [if_pos q]
    exact ⟨fun z => absurd z (by decide), fun z => absurd z.1 (by omega)⟩
  · have bp := hX.2.2.2 k (by omega)
    rw [if_neg q]
    exact (nI_eq (b := 32) (by omega) (by omega)).trans ⟨fun z => ⟨by omega, z⟩, fun z => z.2⟩
theorem zk_bt59 {b : Nat → Nat} {L k : Nat} {X : IX} (hX : zJt X b L) : zk_bt b L k = (59 : Int32) ↔ (k < L ∧ b k = 59) := by
  unfold zk_bt
  by_cases q : L ≤ k
  · rw [if_pos q]
    exact ⟨fun z => absurd z (by decide), fun z => absurd z.1 (by omega)⟩
  · have bp := hX.2.2.2 k (by omega)
    rw [if_neg q]
    exact (nI_eq (b := 59) (by omega) (by omega)).trans ⟨fun z => ⟨by omega, z⟩, fun z => z.2⟩
def zk_cl (w : Bool) : Nat → Bool := if w = true then zk_al else zk_dg
theorem zm_run {b : Nat → Nat} {L : Nat} (w : Bool) : ∀ (d p n : Nat) (X : IX), zJt X b L → X 95 16 = nI p → p + d = L → d < n → ∃ X', fn_Mod_token_L86 n (zt w) (zt (!w)) X = some X' ∧ X' 95 16 = nI (zk_run (zk_cl w) b d p) ∧ ∀ a j, ¬ (a = 95 ∧ j = 16) → X' a j = X a j := by
  intro d
  induction d with
  | zero =>
    intro p n X hX h16 hp hd
    obtain ⟨m, rfl⟩ : ∃ m, n = m + 1 := ⟨n - 1, by omega⟩
    refine ⟨X, ?_, h16, fun _ _ _ => rfl⟩
    have ta : zk_ta b L p = false := by unfold zk_ta; rw [decide_eq_false (by omega)]; rfl
    have td : zk_td b L p = false := by unfold zk_td; rw [decide_eq_false (by omega)]; rfl
    show fn_Mod_token_B86 _ _ _ _ = _
    unfold fn_Mod_token_B86 fn_Mod_token_L104 fn_Mod_token_L135
    rw [h16, zm_byte hX (by omega), zr_b1, zr_b1, zm_al hX, zr_b1, zm_dg hX, zr_b1, ta, td]
    cases w <;> rfl
  | succ d ih =>
    intro p n X hX h16 hp hd
    obtain ⟨m, rfl⟩ : ∃ m, n = m + 1 := ⟨n - 1, by omega⟩
    have ta : zk_ta b L p = zk_al (b p) := by unfold zk_ta; rw [decide_eq_true (by omega), Bool.true_and]
    have td : zk_td b L p = zk_dg (b p) := by unfold zk_td; rw [decide_eq_true (by omega), Bool.true_and]
    show ∃ X' : IX, fn_Mod_token_B86 (fn_Mod_token_L86 m) _ _ _ = _ ∧ X' 95 16 = nI (if zk_cl w (b p) = true then zk_run (zk_cl w) b d (p + 1) else p) ∧ _
    unfold fn_Mod_token_B86 fn_Mod_token_L104 fn_Mod_token_L135 fn_Mod_token_L122
    rw [h16, zm_byte hX (by omega), zr_b1, zr_b1, zm_al hX, zr_b1, zm_dg hX, zr_b1, ta, td, zr_nx, nI_1]
    obtain ⟨X', q1, q2, q3⟩ := ih (p + 1) m (zu_st X 95 16 (nI (p + 1))) (hX.cg (by rw [zs_st, if_neg (by omega)]) (zs_other _ _ _ (by decide))) (by rw [zs_st, if_pos ⟨rfl, rfl⟩]) (by omega) (by omega)
    have fr : ∀ a j, ¬ (a = 95 ∧ j = 16) → X' a j = X a j := fun a j q => by rw [q3 a j q, zs_st, if_neg q]
    cases w with
    | true =>
      show ∃ X' : IX, (if zt true = 0 then _ else if zt (zk_al (b p)) = 0 then _ else _) = _ ∧ X' 95 16 = nI (if zk_al (b p) = true then zk_run zk_al b d (p + 1) else p) ∧ _
      rw [zt_t, if_neg (by decide)]
      cases zk_al (b p) with
      | true => exact ⟨X', q1, q2, fr⟩
      | false => exact ⟨X, rfl, h16, fun _ _ _ => rfl⟩
    | false =>
      show ∃ X' : IX, (if zt false = 0 then (if zt true = 0 then _ else if zt (zk_dg (b p)) = 0 then _ else _) else _) = _ ∧ X' 95 16 = nI (if zk_dg (b p) = true then zk_run zk_dg b d (p + 1) else p) ∧ _
      rw [zt_f, if_pos rfl, zt_t, if_neg (by decide)]
      cases zk_dg (b p) with
      | true => exact ⟨X', q1, q2, fr⟩
      | false => exact ⟨X, rfl, h16, fun _ _ _ => rfl⟩
theorem zm_no {X : IX} {n : Nat} (hn : 0 < n) : fn_Mod_token_L86 n (zt false) (zt false) X = some X := by
  obtain ⟨m, rfl⟩ : ∃ m, n = m + 1 := ⟨n - 1, by omega⟩
  rfl
theorem zk_ad {c : Nat} (h : zk_al c = true) : zk_dg c = false := by
  have : 97 ≤ c ∧ c ≤ 122 := of_decide_eq_true h
  exact decide_eq_false (by omega)
theorem zm_skip {b : Nat → Nat} {L : Nat} : ∀ (d p n : Nat) (X : IX), zJt X b L → X 95 15 = nI p → p + d = L → d < n → ∃ X', fn_Mod_token_L8 n X = some X' ∧ X' 95 15 = nI (zk_run zk_bl b d p) ∧ X' 95 16 = nI (zk_e b L (zk_run zk_bl b d p)) ∧ ∀ a j, ¬ (a = 95 ∧ (j = 15 ∨ j = 16)) → X' a j = X a j := by
  -- where no blank stands
  have stop : ∀ (p n : Nat) (X : IX), zJt X b L → X 95 15 = nI p → p ≤ L → ¬ (p < L ∧ b p = 32) → 0 < n → ∃ X', fn_Mod_token_L8 n X = some X' ∧ X' 95 15 = nI p ∧ X' 95 16 = nI (zk_e b L p) ∧ ∀ a j, ¬ (a = 95 ∧ (j = 15 ∨ j = 16)) → X' a j = X a j := by
    intro p n X hX h15 hp hb hn
    obtain ⟨m, rfl⟩ : ∃ m, n = m + 1 := ⟨n - 1, by omega⟩
    have l := hX.1
    have c1 : nI L ≤ nI p ↔ L ≤ p := nI_leI (by omega) (by omega)
    show ∃ X' : IX, fn_Mod_token_B8 (fn_Mod_token_L8 m) X = _ ∧ _
    unfold fn_Mod_token_B8 fn_Mod_token_L83
    rw [h15, zm_byte hX hp, zr_b1, if_neg (fun z => hb ((zk_bt32 hX).mp z)), zr_b1, zm_al hX, zr_b1, zr_b1, zm_dg hX, zr_b1, hX.2.1, zr_nx, zr_nx, nI_1]
    by_cases q : L ≤ p
    · have ta : zk_ta b L p = false := by unfold zk_ta; rw [decide_eq_false (by omega)]; rfl
      have td : zk_td b L p = false := by unfold zk_td; rw [decide_eq_false (by omega)]; rfl
      rw [if_pos (c1.mpr q), ta, td, zm_no (by omega)]
      refine ⟨_, rfl, by rw [zs_st, if_neg (by omega)]; exact h15, ?_, fun a j w => by rw [zs_st, if_neg (by omega)]⟩
      rw [zs_st, if_pos ⟨rfl, rfl⟩]
      unfold zk_e
      rw [if_pos q]
    · have ta : zk_ta b L p = zk_al (b p) := by unfold zk_ta; rw [decide_eq_true (by omega), Bool.true_and]
      have td : zk_td b L p = zk_dg (b p) := by unfold zk_td; rw [decide_eq_true (by omega), Bool.true_and]
      rw [if_neg (fun z => q (c1.mp z)), ta, td]
      obtain ⟨d, hd⟩ : ∃ d, L - p = d + 1 := ⟨L - p - 1, by omega⟩
      have yt : zJt (zu_st X 95 16 (nI (p + 1))) b L := hX.cg (by rw [zs_st, if_neg (by omega)]) (zs_other _ _ _ (by decide))
      have y16 : zu_st X 95 16 (nI (p + 1)) 95 16 = nI (p + 1) := by rw [zs_st, if_pos ⟨rfl, rfl⟩]
      by_cases ha : zk_al (b p) = true
      · obtain ⟨X', q1, q2, q3⟩ := zm_run (b := b) (L := L) true d (p + 1) 400 _ yt y16 (by omega) (by omega)
        rw [ha, zk_ad ha]
        refine ⟨X', q1, by rw [q3 95 15 (by omega), zs_st, if_neg (by omega)]; exact h15, ?_, fun a j w => by rw [q3 a j (by omega), zs_st, if_neg (by omega)]⟩
        rw [q2]
        unfold zk_e
        rw [if_neg q, if_pos ha, hd]
        show _ = nI (if zk_al (b p) = true then zk_run zk_al b d (p + 1) else p)
        rw [if_pos ha]
        rfl
      · by_cases hg : zk_dg (b p) = true
        · obtain ⟨X', q1, q2, q3⟩ := zm_run (b := b) (L := L) false d (p + 1) 400 _ yt y16 (by omega) (by omega)
          rw [eq_false_of_ne_true ha, hg]
          refine ⟨X', q1, by rw [q3 95 15 (by omega), zs_st, if_neg (by omega)]; exact h15, ?_, fun a j w => by rw [q3 a j (by omega), zs_st, if_neg (by omega)]⟩
          rw [q2]
          unfold zk_e
          rw [if_neg q, if_neg ha, if_pos hg, hd]
          show _ = nI (if zk_dg (b p) = true then zk_run zk_dg b d (p + 1) else p)
          rw [if_pos hg]
          rfl
        · rw [eq_false_of_ne_true ha, eq_false_of_ne_true hg, zm_no (by omega)]
          refine ⟨_, rfl, by rw [zs_st, if_neg (by omega)]; exact h15, ?_, fun a j w => by rw [zs_st, if_neg (by omega)]⟩
          rw [y16]
          unfold zk_e
          rw [if_neg q, if_neg ha, if_neg hg]
  intro d
  induction d with
  | zero =>
    intro p n X hX h15 hp hd
    exact stop p n X hX h15 (by omega) (by omega) (by omega)
  | succ d ih =>
    intro p n X hX h15 hp hd
    show ∃ X' : IX, _ ∧ X' 95 15 = nI (if zk_bl (b p) = true then zk_run zk_bl b d (p + 1) else p) ∧ X' 95 16 = nI (zk_e b L (if zk_bl (b p) = true then zk_run zk_bl b d (p + 1) else p)) ∧ _
    by_cases w : b p = 32
    · have wb : zk_bl (b p) = true := decide_eq_true w
      obtain ⟨m, rfl⟩ : ∃ m, n = m + 1 := ⟨n - 1, by omega⟩
      rw [if_pos wb]
      obtain ⟨X', q1, q2, q3, q4⟩ := ih (p + 1) m (zu_st X 95 15 (nI (p + 1))) (hX.cg (by rw [zs_st, if_neg (by omega)]) (zs_other _ _ _ (by decide))) (by rw [zs_st, if_pos ⟨rfl, rfl⟩]) (by omega) (by omega)
      refine ⟨X', ?_, q2, q3, fun a j q => by rw [q4 a j q, zs_st, if_neg (by omega)]⟩
      rw [← q1]
      show fn_Mod_token_B8 (fn_Mod_token_L8 m) X = _
      unfold fn_Mod_token_B8
      rw [h15, zm_byte hX (by omega), zr_b1, if_pos ((zk_bt32 hX).mpr ⟨by omega, w⟩), zr_nx, nI_1]
    · have wb : ¬ zk_bl (b p) = true := fun z => w (of_decide_eq_true z)
      rw [if_neg wb]
      exact stop p n X hX h15 (by omega) (fun z => w z.2) (by omega)
theorem zm_token {b : Nat → Nat} {L p : Nat} {X : IX} (hX : zJt X b L) (h16 : X 95 16 = nI p) (hp : p ≤ L) : ∃ X', fn_Mod_token X = some X' ∧ X' 95 15 = nI (zk_s b L p) ∧ X' 95 16 = nI (zk_e b L (zk_s b L p)) ∧ ∀ a j, ¬ (a = 95 ∧ (j = 15 ∨ j = 16)) → X' a j = X a j := by
  have l := hX.1
  obtain ⟨X', q1, q2, q3, q4⟩ := zm_skip (b := b) (L := L) (L - p) p 400 (zu_st X 95 15 (nI p)) (hX.cg (by rw [zs_st, if_neg (by omega)]) (zs_other _ _ _ (by decide))) (by rw [zs_st, if_pos ⟨rfl, rfl⟩]) (by omega) (by omega)
  refine ⟨X', ?_, q2, q3, fun a j q => by rw [q4 a j q, zs_st, if_neg (by omega)]⟩
  unfold fn_Mod_token
  rw [h16, zr_nx]
  exact q1
/-- where the reference stands after a need -/
def zk_go (b : Nat → Nat) (L s : Nat) (w a : Bool) : Nat := if (w || !a) = true then s else zk_n b L s
theorem zm_needs {b : Nat → Nat} {L s : Nat} {w : Bool} {X : IX} (hX : zJt X b L) (hJ : zJ X b L s w) (a : Bool) : ∃ X', fn_Mod_needs (zt a) X = some X' ∧ zJ X' b L (zk_go b L s w a) (w || !a) ∧ zY X X' ∧ X' 95 17 = X 95 17 := by
  have wr : ∃ X', fn_Mod_needs_L12 X = some X' ∧ zJ X' b L s true ∧ zY X X' ∧ X' 95 17 = X 95 17 := by
    unfold fn_Mod_needs_L12 fn_Mod_needs_L17 fn_Mod_needs_L31
    have g : zu_st X 95 18 (1 : Int32) 95 18 = 1 := by rw [zs_st, if_pos ⟨rfl, rfl⟩]
    rw [zp_01_1, zr_gd, zr_nx, g, if_neg (by decide)]
    refine ⟨_, rfl, ⟨hJ.1, ?_, ?_, ?_⟩, (zY.rf X).st (by omega) (by omega), ?_⟩
    · rw [zs_st, if_neg (by omega)]; exact hJ.2.1
    · rw [zs_st, if_neg (by omega)]; exact hJ.2.2.1
    · rw [zs_st, if_pos ⟨rfl, rfl⟩]; rfl
    · rw [zs_st, if_neg (by omega)]
  unfold fn_Mod_needs
  rw [hJ.2.2.2]
  cases w with
  | true =>
    rw [zt_t, if_neg (by decide)]
    exact wr
  | false =>
    rw [zt_f, if_pos rfl]
    cases a with
    | false =>
      rw [zt_f, if_pos rfl]
      exact wr
    | true =>
      rw [zt_t, if_neg (by decide)]
      unfold fn_Mod_needs_L17 fn_Mod_needs_L31
      have g : zu_st X 95 18 (0 : Int32) 95 18 = 0 := by rw [zs_st, if_pos ⟨rfl, rfl⟩]
      rw [zp_01_0, zr_gd, zr_nx, g, if_pos rfl]
      obtain ⟨X', q1, q2, q3, q4⟩ := zm_token (b := b) (L := L) (p := zk_e b L s) (X := zu_st X 95 18 0) (hX.cg (by rw [zs_st, if_neg (by omega)]) (zs_other _ _ _ (by decide))) (by rw [zs_st, if_neg (by omega)]; exact hJ.2.2.1) (zk_e_b b hJ.1).2.1
      rw [q1, zr_b1]
      refine ⟨X', rfl, ⟨(zk_n_b b hJ.1).2, q2, q3, ?_⟩, fun a j q => ?_, ?_⟩
      · rw [q4 95 18 (by omega), zs_st, if_pos ⟨rfl, rfl⟩]; rfl
      · rw [q4 a j (by omega), zs_st, if_neg (by omega)]
      · rw [q4 95 17 (by omega), zs_st, if_neg (by omega)]
/-! words as numbers -/
def zk_h (b : Nat → Nat) (s : Nat) : Nat → Nat
  | 0 => 0
  | n + 1 => 32 * zk_h b s n + (b (s + n) - 96)
def zk_hc (b : Nat → Nat) (s : Nat) : Nat → Nat
  | 0 => 0
  | n + 1 => if 36028797018963967 < zk_hc b s n then zk_hc b s n else 32 * zk_hc b s n + (b (s + n) - 96)
theorem zk_h_inj {b c : Nat → Nat} {s t : Nat} : ∀ n m, (∀ i, i < n → 97 ≤ b (s + i) ∧ b (s + i) ≤ 122) → (∀ i, i < m → 97 ≤ c (t + i) ∧ c (t + i) ≤ 122) → (zk_h b s n = zk_h c t m ↔ n = m ∧ ∀ i, i < n → b (s + i) = c (t + i)) := by
  intro n
  induction n with
  | zero =>
    intro m hb hc
    cases m with
    | zero => exact ⟨fun _ => ⟨rfl, fun i hi => absurd hi (by omega)⟩, fun _ => rfl⟩
    | succ m =>
      have := hc m (by omega)
      have e : zk_h c t (m + 1) = 32 * zk_h c t m + (c (t + m) - 96) := rfl
      have e0 : zk_h b s 0 = 0 := rfl
      rw [e, e0]
      exact ⟨fun z => absurd z (by omega), fun z => absurd z.1 (by omega)⟩
  | succ n ih =>
    intro m hb hc
    have hn := hb n (by omega)
    have e1 : zk_h b s (n + 1) = 32 * zk_h b s n + (b (s + n) - 96) := rfl
    cases m with
    | zero =>
      have e0 : zk_h c t 0 = 0 := rfl
      rw [e1, e0]
      exact ⟨fun z => absurd z (by omega), fun z => absurd z.1 (by omega)⟩
    | succ m =>
      have hm := hc m (by omega)
      have e2 : zk_h c t (m + 1) = 32 * zk_h c t m + (c (t + m) - 96) := rfl
      have i := ih m (fun i hi => hb i (by omega)) (fun i hi => hc i (by omega))
      rw [e1, e2]
      constructor
      · intro z
        have z1 : zk_h b s n = zk_h c t m := by omega
        have z2 : b (s + n) = c (t + m) := by omega
        obtain ⟨w1, w2⟩ := i.mp z1
        refine ⟨by omega, fun j hj => ?_⟩
        by_cases e : j = n
        · subst e; rw [z2, w1]
        · exact w2 j (by omega)
      · rintro ⟨w1, w2⟩
        have z1 := i.mpr ⟨by omega, fun j hj => w2 j (by omega)⟩
        have z2 := w2 n (by omega)
        have : n = m := by omega
        subst this
        omega
theorem zk_hc_h (b : Nat → Nat) (s : Nat) : ∀ n, (zk_h b s n ≤ 36028797018963967 → zk_hc b s n = zk_h b s n) ∧ (36028797018963967 < zk_h b s n → 36028797018963967 < zk_hc b s n) := by
  intro n
  induction n with
  | zero => exact ⟨fun _ => rfl, fun z => z⟩
  | succ n ih =>
    have e1 : zk_h b s (n + 1) = 32 * zk_h b s n + (b (s + n) - 96) := rfl
    have e2 : zk_hc b s (n + 1) = if 36028797018963967 < zk_hc b s n then zk_hc b s n else 32 * zk_hc b s n + (b (s + n) - 96) := rfl
    by_cases q : zk_h b s n ≤ 36028797018963967
    · have a := ih.1 q
      rw [e1, e2, a, if_neg (by omega)]
      exact ⟨fun _ => rfl, fun z => z⟩
    · have a := ih.2 (by omega)
      rw [e1, e2, if_pos a]
      exact ⟨fun z => absurd z (by omega), fun _ => a⟩
theorem zk_hc_lt {b : Nat → Nat} {s : Nat} : ∀ n, (∀ i, i < n → b (s + i) ≤ 255) → zk_hc b s n < 2 ^ 62 := by
  intro n
  induction n with
  | zero => intro _; show 0 < 2 ^ 62; omega
  | succ n ih =>
    intro h
    have a := ih (fun i hi => h i (by omega))
    have c := h n (by omega)
    show (if 36028797018963967 < zk_hc b s n then zk_hc b s n else 32 * zk_hc b s n + (b (s + n) - 96)) < 2 ^ 62
    split
    · exact a
    · omega
def zk_cd (r : Nat) : Nat := ([277925, 6475880, 408572082, 7931507, 2702827, 8556773, 605220, 21762661554, 659111367, 20186489, 7636436, 2500036, 15748, 12324, 655, 52, 463922, 6194, 495763, 759412] : List Nat).getD r 0
theorem zk_cd_P : ∀ r : Fin 20, zk_h (zk_b r.val) 0 (zk_len r.val) = zk_cd r.val ∧ zk_cd r.val ≤ 21762661554 ∧ 0 < zk_cd r.val := by decide +kernel
theorem zk_e_al {b : Nat → Nat} {L s : Nat} (hk : zk_k b L s = 0) : s < L ∧ zk_al (b s) = true ∧ zk_e b L s = zk_run zk_al b (L - s) s := by
  unfold zk_k at hk
  by_cases q : L ≤ s
  · rw [if_pos q] at hk; omega
  · rw [if_neg q] at hk
    by_cases w : zk_al (b s) = true
    · refine ⟨by omega, w, ?_⟩
      unfold zk_e
      rw [if_neg q, if_pos w]
    · rw [if_neg w] at hk
      repeat' split at hk
      all_goals omega
theorem zk_k0 {b : Nat → Nat} {L s : Nat} (h : zk_ta b L s = true) : zk_k b L s = 0 := by
  unfold zk_ta at h
  rw [Bool.and_eq_true] at h
  have h1 : s < L := of_decide_eq_true h.1
  unfold zk_k
  rw [if_neg (by omega), if_pos h.2]
/-- a word of letters is one of ours just where its number is -/
theorem zk_is_h {b : Nat → Nat} {L s r : Nat} (hs : s ≤ L) (hb : ∀ j, j < L → b j ≤ 255) (hr : r < 20) (hk : zk_k b L s = 0) : zk_hc b s (zk_e b L s - s) = zk_cd r ↔ zk_is b L s r = true := by
  obtain ⟨h1, h2, h3⟩ := zk_e_al hk
  have run := zk_run_b zk_al b (L - s) s
  rw [← h3] at run
  have cd := zk_cd_P ⟨r, hr⟩
  simp only [] at cd
  have len := zk_len_P ⟨r, hr⟩
  simp only [] at len
  have hh := zk_hc_h b s (zk_e b L s - s)
  have al : ∀ i, i < zk_e b L s - s → 97 ≤ b (s + i) ∧ b (s + i) ≤ 122 := fun i hi => of_decide_eq_true (run.2.2.1 (s + i) (by omega) (by omega))
  have ch : ∀ i, i < zk_len r → 97 ≤ zk_b r (0 + i) ∧ zk_b r (0 + i) ≤ 122 := fun i hi => by
    rw [Nat.zero_add]
    exact (zk_chr_P ⟨r, hr⟩ ⟨i, by omega⟩ hi).2
  have inj := zk_h_inj (b := b) (c := zk_b r) (s := s) (t := 0) (zk_e b L s - s) (zk_len r) al ch
  have key : zk_hc b s (zk_e b L s - s) = zk_cd r ↔ zk_h b s (zk_e b L s - s) = zk_h (zk_b r) 0 (zk_len r) := by
    rw [cd.1]
    constructor
    · intro z
      by_cases q : zk_h b s (zk_e b L s - s) ≤ 36028797018963967
      · rw [← hh.1 q]; exact z
      · have := hh.2 (by omega)
        omega
    · intro z
      rw [hh.1 (by omega)]
      exact z
  rw [key, inj]
  unfold zk_is
  constructor
  · rintro ⟨w1, w2⟩
    exact decide_eq_true ⟨hk, w1, fun i hi => by rw [w2 i (by omega), Nat.zero_add]⟩
  · intro z
    obtain ⟨_, w1, w2⟩ := of_decide_eq_true z
    exact ⟨w1, fun i hi => by rw [w2 i (by omega), Nat.zero_add]⟩
theorem zm_word0 {b : Nat → Nat} {L s : Nat} {w : Bool} {X : IX} (hX : zJt X b L) (hJ : zJ X b L s w) (h : (!w && zk_ta b L s) = false) : ∀ (d k n : Nat) (v : Int64), k + d = zk_e b L s → d < n → fn_Mod_word_L7 X n v (nI k) = some 0 := by
  have l := hX.1
  have eb := zk_e_b b hJ.1
  intro d
  induction d with
  | zero =>
    intro k n v hk hd
    obtain ⟨m, rfl⟩ : ∃ m, n = m + 1 := ⟨n - 1, by omega⟩
    show fn_Mod_word_B7 _ _ _ _ = _
    unfold fn_Mod_word_B7 fn_Mod_word_L71 fn_Mod_word_L76
    rw [hJ.2.2.1, if_pos ((nI_leI (by omega) (by omega)).mpr (by omega)), hJ.2.2.2, hJ.2.1, zm_byte hX hJ.1, zr_b1, zm_al hX, zr_b1]
    cases w with
    | true => rfl
    | false =>
      rw [zt_f, if_pos rfl]
      have : zk_ta b L s = false := h
      rw [this, zt_f, if_pos rfl]
  | succ d ih =>
    intro k n v hk hd
    obtain ⟨m, rfl⟩ : ∃ m, n = m + 1 := ⟨n - 1, by omega⟩
    show fn_Mod_word_B7 X (fn_Mod_word_L7 X m) _ _ = _
    unfold fn_Mod_word_B7 fn_Mod_word_L43
    rw [hJ.2.2.1, if_neg (nI_ge (a := k) (by omega) (by omega)), zn_ib (show k < 120 by omega) (by decide), zr_gd, zr_nx, zr_nx, nI_1, ih (k + 1) m _ (by omega) (by omega), ih (k + 1) m _ (by omega) (by omega)]
    split <;> rfl
theorem zm_word1 {b : Nat → Nat} {L s : Nat} {X : IX} (hX : zJt X b L) (hJ : zJ X b L s false) (h : zk_ta b L s = true) : ∀ (d i n : Nat), s + i + d = zk_e b L s → d < n → fn_Mod_word_L7 X n (lN (zk_hc b s i)) (nI (s + i)) = some (lN (zk_hc b s (zk_e b L s - s))) := by
  have l := hX.1
  have eb := zk_e_b b hJ.1
  obtain ⟨h1, h2, h3⟩ := zk_e_al (zk_k0 h)
  have run := zk_run_b zk_al b (L - s) s
  rw [← h3] at run
  intro d
  induction d with
  | zero =>
    intro i n hk hd
    obtain ⟨m, rfl⟩ : ∃ m, n = m + 1 := ⟨n - 1, by omega⟩
    show fn_Mod_word_B7 _ _ _ _ = _
    unfold fn_Mod_word_B7 fn_Mod_word_L71 fn_Mod_word_L76
    rw [hJ.2.2.1, if_pos ((nI_leI (by omega) (by omega)).mpr (by omega)), hJ.2.2.2, zt_f, if_pos rfl, hJ.2.1, zm_byte hX hJ.1, zr_b1, zm_al hX, zr_b1, h, zt_t, if_neg (by decide), show zk_e b L s - s = i by omega]
  | succ d ih =>
    intro i n hk hd
    obtain ⟨m, rfl⟩ : ∃ m, n = m + 1 := ⟨n - 1, by omega⟩
    have bi := hX.2.2.2 (s + i) (by omega)
    have ai : 97 ≤ b (s + i) ∧ b (s + i) ≤ 122 := of_decide_eq_true (run.2.2.1 (s + i) (by omega) (by omega))
    have hl := zk_hc_lt (b := b) (s := s) i (fun j hj => hX.2.2.2 (s + j) (by omega))
    have cz : (lg_cmp (lN (zk_hc b s i)) (36028797018963967 : Int64) ≤ 0) ↔ zk_hc b s i ≤ 36028797018963967 := (zm_cmp_le _ _).trans (pk_lLE (b := 36028797018963967) (by omega) (by omega))
    have ev : (32 : Int64) * lN (zk_hc b s i) + (nI (b (s + i)) - (96 : Int32)).toInt64 = lN (32 * zk_hc b s i + (b (s + i) - 96)) := by
      rw [show (96 : Int32) = nI 96 from rfl, pk_sub (by omega), nI_l (by omega), show (32 : Int64) = lN 32 from rfl, lN_mul, lN_add]
    have nx := ih (i + 1) m (by omega) (by omega)
    have st : zk_hc b s (i + 1) = if 36028797018963967 < zk_hc b s i then zk_hc b s i else 32 * zk_hc b s i + (b (s + i) - 96) := rfl
    rw [st] at nx
    show fn_Mod_word_B7 X (fn_Mod_word_L7 X m) _ _ = _
    unfold fn_Mod_word_B7 fn_Mod_word_L43
    rw [hJ.2.2.1, if_neg (nI_ge (a := s + i) (by omega) (by omega)), zn_ib (show s + i < 120 by omega) (by decide), zr_gd, zr_nx, zr_nx, nI_1, zn_cl (by omega), hX.2.2.1 (s + i) (by omega), ev]
    by_cases q : zk_hc b s i ≤ 36028797018963967
    · rw [if_pos (cz.mpr q)]
      rw [if_neg (by omega)] at nx
      exact nx
    · rw [if_neg (fun z => q (cz.mp z))]
      rw [if_pos (by omega)] at nx
      exact nx
/-- which word stands here, if all went well so far -/
theorem zm_word {b : Nat → Nat} {L s : Nat} {w : Bool} {X : IX} (hX : zJt X b L) (hJ : zJ X b L s w) : ∃ v, fn_Mod_word X = some v ∧ ∀ r, r < 20 → (lg_cmp v (lN (zk_cd r)) = 0 ↔ (!w && zk_is b L s r) = true) := by
  have l := hX.1
  have eb := zk_e_b b hJ.1
  by_cases h : (!w && zk_ta b L s) = true
  · have hw : w = false := by cases w <;> simp_all
    subst hw
    have ta : zk_ta b L s = true := h
    have q := zm_word1 hX hJ ta (zk_e b L s - s) 0 400 (by omega) (by omega)
    rw [Nat.add_zero] at q
    refine ⟨lN (zk_hc b s (zk_e b L s - s)), ?_, fun r hr => ?_⟩
    · unfold fn_Mod_word
      rw [hJ.2.1, zr_nx]
      exact q
    · have cd := zk_cd_P ⟨r, hr⟩
      simp only [] at cd
      have hl := zk_hc_lt (b := b) (s := s) (zk_e b L s - s) (fun j hj => hX.2.2.2 (s + j) (by omega))
      rw [zm_cmp_eq, pk_lEQ (by omega) (by omega), zk_is_h hJ.1 hX.2.2.2 hr (zk_k0 ta)]
      exact ⟨fun z => z, fun z => z⟩
  · have h' := eq_false_of_ne_true h
    have q := zm_word0 hX hJ h' (zk_e b L s - s) s 400 0 (by omega) (by omega)
    refine ⟨0, ?_, fun r hr => ?_⟩
    · unfold fn_Mod_word
      rw [hJ.2.1, zr_nx]
      exact q
    · have cd := zk_cd_P ⟨r, hr⟩
      simp only [] at cd
      rw [zm_cmp_eq, show (0 : Int64) = lN 0 from rfl, pk_lEQ (by omega) (by omega)]
      refine ⟨fun z => absurd z (by omega), fun z => ?_⟩
      cases w with
      | true => cases z
      | false =>
        have z' : zk_is b L s r = true := z
        have z2 := (of_decide_eq_true z').1
        obtain ⟨a1, a2, _⟩ := zk_e_al z2
        have : zk_ta b L s = true := by unfold zk_ta; rw [decide_eq_true a1, a2]; rfl
        rw [this] at h'
        cases h'
