/-! the chart -/
theorem zI_LI.cg {X X' : IX} {o : Nat} {S : Nat → Int32} (e : ∀ a, 20 ≤ a → X' a = X a) (hL : zI_LI X o S) : zI_LI X' o S := by
  intro k hk
  rw [e _ (by unfold zI_pr; repeat' split
              all_goals omega)]
  exact hL k hk
def zS_ix (ng : Bool) (far c : Nat) : Nat := 24 * ((if ng = true then 2 else 0) + far) + c
theorem zS_ix_b {ng : Bool} {far c : Nat} (hf : far < 2) (hc : c < 24) : zS_ix ng far c < 96 ∧ zS_ix ng far c % 24 = c := by
  unfold zS_ix
  split <;> omega
def zC_cl (X : IX) (S : Nat → Int32) (c : Nat) : Prop := X 5 c = zO (zS_on S c) ∧ ∀ ng far, far < 2 → X 2 (zS_ix ng far c) = nI (zS_rw S c ng far).1 ∧ X 3 (zS_ix ng far c) = nI (zS_rw S c ng far).2.1 ∧ X 4 (zS_ix ng far c) = nI (zS_rw S c ng far).2.2
theorem zC_cl.cg {X X' : IX} {S : Nat → Int32} {c : Nat} (hc : c < 24) (e : ∀ a b, b % 24 = c → X' a b = X a b) (h : zC_cl X S c) : zC_cl X' S c := by
  refine ⟨by rw [e 5 c (by omega)]; exact h.1, fun ng far hf => ?_⟩
  have q := (zS_ix_b (ng := ng) hf hc).2
  rw [e 2 _ q, e 3 _ q, e 4 _ q]
  exact h.2 ng far hf
theorem zC_plain {c : Nat} (hc : c < 24) (x2 x3 : Int32) : ∀ (d k n : Nat) (X : IX), k + d = 4 → d < n → ∃ X', fn_Chart_layPlain_L3 n (nI c) x2 x3 (nI (24 * k + c)) X = some X' ∧ (∀ j, k ≤ j → j < 4 → X' 2 (24 * j + c) = x2 ∧ X' 3 (24 * j + c) = nI c ∧ X' 4 (24 * j + c) = x3) ∧ ∀ a b, ((a ≠ 2 ∧ a ≠ 3 ∧ a ≠ 4) ∨ b % 24 ≠ c ∨ b < 24 * k) → X' a b = X a b := by
  intro d
  induction d with
  | zero =>
    intro k n X hk hd
    obtain ⟨m, rfl⟩ : ∃ m, n = m + 1 := ⟨n - 1, by omega⟩
    refine ⟨X, ?_, fun j h1 h2 => absurd h2 (by omega), fun _ _ _ => rfl⟩
    show fn_Chart_layPlain_B3 _ _ _ _ _ _ = _
    unfold fn_Chart_layPlain_B3
    rw [if_pos (show (96 : Int32) ≤ nI (24 * k + c) from (nI_leI (a := 96) (by omega) (by omega)).mpr (by omega))]
  | succ d ih =>
    intro k n X hk hd
    obtain ⟨m, rfl⟩ : ∃ m, n = m + 1 := ⟨n - 1, by omega⟩
    have ea : nI (24 * k + c) + (24 : Int32) = nI (24 * (k + 1) + c) := by rw [show (24 : Int32) = nI 24 from rfl, nI_add]; congr 1; omega
    obtain ⟨X', e, p1, p2⟩ := ih (k + 1) m (zu_st (zu_st (zu_st X 2 (24 * k + c) x2) 3 (24 * k + c) (nI c)) 4 (24 * k + c) x3) (by omega) (by omega)
    refine ⟨X', ?_, ?_, ?_⟩
    · show fn_Chart_layPlain_B3 (fn_Chart_layPlain_L3 m) _ _ _ _ _ = _
      unfold fn_Chart_layPlain_B3
      rw [if_neg (show ¬ (96 : Int32) ≤ nI (24 * k + c) from nI_ge (a := 24 * k + c) (b := 96) (by omega) (by omega))]
      simp only [zn_ib (show 24 * k + c < 96 by omega) (by decide), zp_gd, zn_cl (show 24 * k + c < 2 ^ 31 by omega), zp_nx, ea]
      exact e
    · intro j h1 h2
      by_cases q : j = k
      · subst q
        rw [p2 2 _ (by omega), p2 3 _ (by omega), p2 4 _ (by omega)]
        refine ⟨?_, ?_, ?_⟩
        · rw [zs_st, if_neg (by omega), zs_st, if_neg (by omega), zs_st, if_pos ⟨rfl, rfl⟩]
        · rw [zs_st, if_neg (by omega), zs_st, if_pos ⟨rfl, rfl⟩]
        · rw [zs_st, if_pos ⟨rfl, rfl⟩]
      · exact p1 j (by omega) h2
    · intro a b q
      rw [p2 a b (by omega), zs_st, if_neg (by omega), zs_st, if_neg (by omega), zs_st, if_neg (by omega)]
theorem zC_throws {S : Nat → Int32} {o r : Nat} (hr : r = 20 + o) (h : zI_WF S) {c t : Nat} (hc : c < 24) (ht : t < zN S 1) : ∀ (d k n : Nat) (X : IX), zI_LI X o S → k + d = 4 → d < n → ∃ X', fn_Chart_layThrows_L2 n (zu_th (r + 6) t) (nI c) (nI k) X = some X' ∧ (∀ j, k ≤ j → j < 4 → X' 2 (24 * j + c) = nI (zR_told S t (j % 2) (decide (2 ≤ j))) ∧ X' 3 (24 * j + c) = nI (zR_short S t (j % 2) (decide (2 ≤ j))) ∧ X' 4 (24 * j + c) = nI (zR_sure S t (j % 2) (decide (2 ≤ j)))) ∧ ∀ a b, ((a ≠ 2 ∧ a ≠ 3 ∧ a ≠ 4) ∨ b % 24 ≠ c ∨ b < 24 * k) → X' a b = X a b := by
  intro d
  induction d with
  | zero =>
    intro k n X _ hk hd
    obtain ⟨m, rfl⟩ : ∃ m, n = m + 1 := ⟨n - 1, by omega⟩
    refine ⟨X, ?_, fun j h1 h2 => absurd h2 (by omega), fun _ _ _ => rfl⟩
    show fn_Chart_layThrows_B2 _ _ _ _ _ = _
    unfold fn_Chart_layThrows_B2
    rw [if_pos (show (4 : Int32) ≤ nI k from (nI_leI (a := 4) (by omega) (by omega)).mpr (by omega))]
  | succ d ih =>
    intro k n X hL hk hd
    obtain ⟨m, rfl⟩ : ∃ m, n = m + 1 := ⟨n - 1, by omega⟩
    have ea : nI k * (24 : Int32) + nI c = nI (24 * k + c) := by rw [show (24 : Int32) = nI 24 from rfl, pk_mul, nI_add]; congr 1; omega
    have e1 : nI k &&& (1 : Int32) = nI (k % 2) := pk_andN (by omega) 1 rfl
    obtain ⟨A, hA⟩ : ∃ A : IX, A = zu_st X 2 (24 * k + c) (nI (zR_told S t (k % 2) (decide (2 ≤ k)))) := ⟨_, rfl⟩
    obtain ⟨B, hB⟩ : ∃ B : IX, B = zu_st A 3 (24 * k + c) (nI (zR_short S t (k % 2) (decide (2 ≤ k)))) := ⟨_, rfl⟩
    obtain ⟨C, hC⟩ : ∃ C : IX, C = zu_st B 4 (24 * k + c) (nI (zR_sure S t (k % 2) (decide (2 ≤ k)))) := ⟨_, rfl⟩
    have LA : zI_LI A o S := zI_LI.cg (fun a ha => by rw [hA, zs_other _ _ _ (by omega)]) hL
    have LB : zI_LI B o S := zI_LI.cg (fun a ha => by rw [hB, zs_other _ _ _ (by omega)]) LA
    have LC : zI_LI C o S := zI_LI.cg (fun a ha => by rw [hC, zs_other _ _ _ (by omega)]) LB
    obtain ⟨X', e, p1, p2⟩ := ih (k + 1) m C LC (by omega) (by omega)
    have go : ∀ ng : Bool, ng = decide (2 ≤ k) → fn_Chart_layThrows_L17 (fn_Chart_layThrows_L2 m) (zu_th (r + 6) t) (nI c) (nI k) (zt ng) X = some X' := by
      intro ng hng
      unfold fn_Chart_layThrows_L17
      rw [hng]
      simp only [zp_nx, e1, ea, ze_told hr hL h ht (show k % 2 < 2 by omega), zn_ib (show 24 * k + c < 96 by omega) (by decide), zp_gd, zn_cl (show 24 * k + c < 2 ^ 31 by omega), ← hA, ze_short hr LA h ht (show k % 2 < 2 by omega), ← hB, ze_sure hr LB h ht (show k % 2 < 2 by omega), ← hC, nI_1]
      exact e
    refine ⟨X', ?_, ?_, ?_⟩
    · show fn_Chart_layThrows_B2 (fn_Chart_layThrows_L2 m) _ _ _ _ = _
      unfold fn_Chart_layThrows_B2
      rw [if_neg (show ¬ (4 : Int32) ≤ nI k from nI_ge (a := k) (b := 4) (by omega) (by omega))]
      have c1 : (nI k < (2 : Int32)) ↔ k < 2 := nI_ltI (b := 2) (by omega) (by omega)
      simp only [c1]
      by_cases q : k < 2
      · rw [if_pos q]; exact go false (by rw [decide_eq_false (by omega)])
      · rw [if_neg q]; exact go true (by rw [decide_eq_true (by omega)])
    · intro j h1 h2
      by_cases q : j = k
      · subst q
        rw [p2 2 _ (by omega), p2 3 _ (by omega), p2 4 _ (by omega)]
        refine ⟨?_, ?_, ?_⟩
        · rw [hC, zs_st, if_neg (by omega), hB, zs_st, if_neg (by omega), hA, zs_st, if_pos ⟨rfl, rfl⟩]
        · rw [hC, zs_st, if_neg (by omega), hB, zs_st, if_pos ⟨rfl, rfl⟩]
        · rw [hC, zs_st, if_pos ⟨rfl, rfl⟩]
      · exact p1 j (by omega) h2
    · intro a b q
      rw [p2 a b (by omega), hC, zs_st, if_neg (by omega), hB, zs_st, if_neg (by omega), hA, zs_st, if_neg (by omega)]
theorem ze_hedge {X : IX} {S : Nat → Int32} {o r : Nat} (hr : r = 20 + o) (hL : zI_LI X o S) (h : zI_WF S) {c : Nat} (hc : c < 24) : fn_Land_isHedge X r (nI c) = some (zt (decide (zN S (6 + c) = 2))) := by
  have b := zW_6 h hc
  unfold fn_Land_isHedge fn_Land_isHedge_L15
  rw [zn_ib (show c < 24 from hc) (by decide), zp_gd, zn_cl (by omega), zL_stuff hr hL hc, b.1]
  have c2 : nI (zN S (6 + c)) = (2 : Int32) ↔ zN S (6 + c) = 2 := nI_eq (b := 2) (by omega) (by omega)
  simp only [c2]
  by_cases q : zN S (6 + c) = 2
  · rw [if_pos q, decide_eq_true q]; rfl
  · rw [if_neg q, decide_eq_false q]; rfl
theorem ze_road {X : IX} {S : Nat → Int32} {o r : Nat} (hr : r = 20 + o) (hL : zI_LI X o S) (h : zI_WF S) {c : Nat} (hc : c < 24) : fn_Land_isRoad X r (nI c) = some (zt (decide (zN S (6 + c) = 3))) := by
  have b := zW_6 h hc
  unfold fn_Land_isRoad fn_Land_isRoad_L15
  rw [zn_ib (show c < 24 from hc) (by decide), zp_gd, zn_cl (by omega), zL_stuff hr hL hc, b.1]
  have c2 : nI (zN S (6 + c)) = (3 : Int32) ↔ zN S (6 + c) = 3 := nI_eq (b := 3) (by omega) (by omega)
  simp only [c2]
  by_cases q : zN S (6 + c) = 3
  · rw [if_pos q, decide_eq_true q]; rfl
  · rw [if_neg q, decide_eq_false q]; rfl
theorem ze_un {X : IX} {S : Nat → Int32} {o r : Nat} (hr : r = 20 + o) (hL : zI_LI X o S) (h : zI_WF S) {c : Nat} (hc : c < 24) : fn_Chart_unfetchedCell X r (nI c) = some (nI (zS_un S c)) := by
  have w3 := zW_3 h
  unfold fn_Chart_unfetchedCell fn_Chart_unfetchedCell_L16 fn_Chart_unfetchedCell_L35
  rw [ze_st hr hL h hc, zp_b1, ze_road hr hL h hc, zp_b1, (zL_h hr hL).2.2.2.1, w3.1]
  have c2 : nI (zN S 3) ≤ nI c ↔ zN S 3 ≤ c := nI_leI (by omega) (by omega)
  simp only [c2]
  unfold zS_un
  cases hs : zS_st S c with
  | true => rfl
  | false =>
    have nh : c ≠ zN S 3 := fun q => of_decide_eq_false hs (Or.inl q)
    rw [zt_f, if_pos rfl, if_neg (show ¬ false = true by decide)]
    by_cases q : zN S (6 + c) = 3
    · rw [decide_eq_true q, zt_t, if_neg (by decide), if_pos q]
      by_cases q2 : zN S 3 ≤ c
      · rw [if_pos q2, if_neg (by omega)]
        obtain ⟨c', rfl⟩ : ∃ c', c = c' + 1 := ⟨c - 1, by omega⟩
        exact congrArg some (nI_pred c')
      · rw [if_neg q2, if_pos (by omega), nI_1]
    · rw [decide_eq_false q, zt_f, if_pos rfl, if_neg q]
theorem zC_cell {X : IX} {S : Nat → Int32} {o r : Nat} (hr : r = 20 + o) (hL : zI_LI X o S) (h : zI_WF S) {c : Nat} (hc : c < 24) : ∃ X', fn_Chart_layCell r (nI c) X = some X' ∧ zC_cl X' S c ∧ ∀ a b, (a < 2 ∨ 5 < a ∨ b % 24 ≠ c) → X' a b = X a b := by
  obtain ⟨X2, e2⟩ : ∃ X2 : IX, X2 = zu_st X 5 c (-1 : Int32) := ⟨_, rfl⟩
  have L2 : zI_LI X2 o S := zI_LI.cg (fun a ha => by rw [e2, zs_other _ _ _ (by omega)]) hL
  have v2 : ∀ a b, (a < 2 ∨ 5 < a ∨ b % 24 ≠ c) → X2 a b = X a b := fun a b q => by rw [e2, zs_st, if_neg (by omega)]
  have g5 : X2 5 c = (-1 : Int32) := by rw [e2, zs_st, if_pos ⟨rfl, rfl⟩]
  have ix : ∀ (ng : Bool) (far : Nat), zS_ix ng far c = 24 * ((if ng = true then 2 else 0) + far) + c := fun _ _ => rfl
  have pl : ∀ (v w : Nat), (∀ ng far, far < 2 → zS_rw S c ng far = (v, c, w)) → zS_on S c = none → ∃ X', fn_Chart_layPlain (nI c) (nI v) (nI w) X2 = some X' ∧ zC_cl X' S c ∧ ∀ a b, (a < 2 ∨ 5 < a ∨ b % 24 ≠ c) → X' a b = X a b := by
    intro v w hrw hon
    obtain ⟨X', e, p1, p2⟩ := zC_plain hc (nI v) (nI w) 4 0 400 X2 (by omega) (by omega)
    rw [Nat.mul_zero, Nat.zero_add] at e
    refine ⟨X', e, ⟨?_, fun ng far hf => ?_⟩, fun a b q => ?_⟩
    · rw [p2 5 c (Or.inl ⟨by decide, by decide, by decide⟩), g5, hon]; rfl
    · rw [hrw ng far hf, ix]
      exact p1 _ (by omega) (by split <;> omega)
    · rw [p2 a b (by omega), v2 a b q]
  unfold fn_Chart_layCell fn_Chart_layCell_L91 fn_Chart_layCell_L94
  simp only [zn_ib (show c < 24 from hc) (by decide), zp_gd, zn_cl (show c < 2 ^ 31 by omega), zp_nx, ← e2, ze_hand hr L2 h hc, zp_b1]
  cases hd : zS_hand S c with
  | none =>
    rw [if_pos (show zO none = (-1 : Int32) from rfl), ze_un hr L2 h hc, zp_b1]
    obtain ⟨X', e, p⟩ := pl (zS_un S c) 12 (fun ng far hf => by unfold zS_rw; rw [hd]) (by unfold zS_on; rw [hd])
    refine ⟨X', ?_, p⟩
    rw [show (12 : Int32) = nI 12 from rfl, e]
    rfl
  | some t =>
    have ht := zS_hand_lt hd
    have b := zF_all h ht
    rw [if_neg (show ¬ zO (some t) = (-1 : Int32) from zO_m1 (by omega))]
    show ∃ X', (zu_gd (zu_ib (nI t) 10) _) = some X' ∧ _
    rw [zn_ib (show t < 10 from b.1) (by decide), zp_gd]
    have cl : (zO (some t)).toNatClampNeg = t := zn_cl (by omega)
    simp only [cl, zf_P hr L2 h ht (show 1 < 9 by omega)]
    have c1 : nI (zF S t 1) = nI c ↔ zF S t 1 = c := nI_eq (by omega) (by omega)
    simp only [c1]
    by_cases q1 : zF S t 1 = c
    · rw [if_pos q1]
      have on : zS_on S c = some t := by unfold zS_on; rw [hd]; exact if_pos q1
      obtain ⟨X3, e3⟩ : ∃ X3 : IX, X3 = zu_st X2 5 c (nI t) := ⟨_, rfl⟩
      have L3 : zI_LI X3 o S := zI_LI.cg (fun a ha => by rw [e3, zs_other _ _ _ (by omega)]) L2
      obtain ⟨X', e, p1, p2⟩ := zC_throws hr h hc ht 4 0 400 X3 L3 (by omega) (by omega)
      refine ⟨X', ?_, ⟨?_, fun ng far hf => ?_⟩, fun a b q => ?_⟩
      · show zu_b1 (fn_Chart_layThrows (zu_th (r + 6) t) (nI c) (zu_st X2 5 c (nI t))) _ = _
        rw [← e3]
        unfold fn_Chart_layThrows
        have e' : fn_Chart_layThrows_L2 400 (zu_th (r + 6) t) (nI c) (0 : Int32) X3 = some X' := e
        rw [e']
        rfl
      · rw [p2 5 c (Or.inl ⟨by decide, by decide, by decide⟩), e3, zs_st, if_pos ⟨rfl, rfl⟩, on]
        rfl
      · have rw1 : zS_rw S c ng far = (zR_told S t far ng, zR_short S t far ng, zR_sure S t far ng) := by unfold zS_rw; rw [hd]; exact if_pos q1
        rw [rw1, ix]
        have q := p1 ((if ng = true then 2 else 0) + far) (by omega) (by split <;> omega)
        have m2 : ((if ng = true then 2 else 0) + far) % 2 = far := by split <;> omega
        have d2 : decide (2 ≤ (if ng = true then 2 else 0) + far) = ng := by
          cases ng with
          | true => exact decide_eq_true (by rw [if_pos rfl]; omega)
          | false => exact decide_eq_false (by rw [if_neg (by decide)]; omega)
        rw [m2, d2] at q
        exact q
      · rw [p2 a b (by omega), e3, zs_st, if_neg (by omega), v2 a b q]
    · rw [if_neg q1, ze_hedge hr L2 h hc, zp_b1]
      obtain ⟨X', e, p⟩ := pl (zF S t 1) (if zN S (6 + c) = 2 then 6 else 12) (fun ng far hf => by unfold zS_rw; rw [hd]; exact if_neg q1) (by unfold zS_on; rw [hd]; exact if_neg q1)
      refine ⟨X', ?_, p⟩
      by_cases q2 : zN S (6 + c) = 2
      · rw [if_pos q2] at e
        rw [decide_eq_true q2, zt_t, if_neg (by decide), show (6 : Int32) = nI 6 from rfl, e]
        rfl
      · rw [if_neg q2] at e
        rw [decide_eq_false q2, zt_f, if_pos rfl, show (12 : Int32) = nI 12 from rfl, e]
        rfl
theorem zC_loop {S : Nat → Int32} {o r : Nat} (hr : r = 20 + o) (h : zI_WF S) : ∀ (d c n : Nat) (X : IX), zI_LI X o S → c + d = 24 → d < n → (∀ j, j < c → zC_cl X S j) → ∃ X', fn_Chart_lay_L26 n r (nI c) X = some X' ∧ (∀ j, j < 24 → zC_cl X' S j) ∧ ∀ a, (a < 2 ∨ 5 < a) → X' a = X a := by
  intro d
  induction d with
  | zero =>
    intro c n X hL hc hd hj
    obtain ⟨m, rfl⟩ : ∃ m, n = m + 1 := ⟨n - 1, by omega⟩
    obtain rfl : c = 24 := by omega
    exact ⟨X, rfl, hj, fun _ _ => rfl⟩
  | succ d ih =>
    intro c n X hL hc hd hj
    obtain ⟨m, rfl⟩ : ∃ m, n = m + 1 := ⟨n - 1, by omega⟩
    obtain ⟨X2, e2, p1, p2⟩ := zC_cell hr hL h (show c < 24 by omega)
    obtain ⟨X', e, q1, q2⟩ := ih (c + 1) m X2 (zI_LI.cg (fun a ha => funext fun b => p2 a b (by omega)) hL) (by omega) (by omega) (fun j hj2 => by
      by_cases q : j = c
      · subst q; exact p1
      · exact (hj j (by omega)).cg (by omega) (fun a b hb => p2 a b (by omega)))
    refine ⟨X', ?_, q1, fun a ha => by rw [q2 a ha]; exact funext fun b => p2 a b (by omega)⟩
    show fn_Chart_lay_B26 (fn_Chart_lay_L26 m) _ _ _ = _
    unfold fn_Chart_lay_B26
    rw [if_neg (show ¬ (24 : Int32) ≤ nI c from nI_ge (a := c) (b := 24) (by omega) (by omega)), e2, zp_b1, zp_nx, nI_1]
    exact e
def zC_laid (X : IX) (S : Nat → Int32) : Prop := X 1 6 = zS_cs S ∧ X 1 7 = nI (zN S 0) ∧ X 1 8 = nI (zN S 3) ∧ ∀ c, c < 24 → zC_cl X S c
theorem zC_lay {X : IX} {S : Nat → Int32} {o r : Nat} (hr : r = 20 + o) (hL : zI_LI X o S) (h : zI_WF S) : ∃ X', fn_Chart_lay r X = some X' ∧ zC_laid X' S ∧ ∀ a, (a < 1 ∨ 5 < a) → X' a = X a := by
  have w0 := zW_0 h
  have w3 := zW_3 h
  obtain ⟨A, hA⟩ : ∃ A : IX, A = zu_st X 1 6 (zS_cs S) := ⟨_, rfl⟩
  obtain ⟨B, hB⟩ : ∃ B : IX, B = zu_st A 1 7 (nI (zN S 0)) := ⟨_, rfl⟩
  obtain ⟨C, hC⟩ : ∃ C : IX, C = zu_st B 1 8 (nI (zN S 3)) := ⟨_, rfl⟩
  have LA : zI_LI A o S := zI_LI.cg (fun a ha => by rw [hA, zs_other _ _ _ (by omega)]) hL
  have LB : zI_LI B o S := zI_LI.cg (fun a ha => by rw [hB, zs_other _ _ _ (by omega)]) LA
  have LC : zI_LI C o S := zI_LI.cg (fun a ha => by rw [hC, zs_other _ _ _ (by omega)]) LB
  obtain ⟨X', e, p1, p2⟩ := zC_loop hr h 24 0 400 C LC (by omega) (by omega) (fun j hj => absurd hj (by omega))
  have vA : A r 8 = nI (zN S 0) := by rw [(zL_h hr LA).1]; exact w0.1
  have vB : B r 6 = nI (zN S 3) := by rw [(zL_h hr LB).2.2.2.1]; exact w3.1
  refine ⟨X', ?_, ⟨?_, ?_, ?_, p1⟩, fun a ha => ?_⟩
  · unfold fn_Chart_lay
    rw [ze_cs hr hL h, zp_b1]
    simp only [zp_nx, ← hA, vA, ← hB, vB, ← hC]
    exact e
  · rw [p2 1 (by omega), hC, zs_st, if_neg (by decide), hB, zs_st, if_neg (by decide), hA, zs_st, if_pos (by decide)]
  · rw [p2 1 (by omega), hC, zs_st, if_neg (by decide), hB, zs_st, if_pos (by decide)]
  · rw [p2 1 (by omega), hC, zs_st, if_pos (by decide)]
  · rw [p2 a (by omega), hC, zs_other _ _ _ (by omega), hB, zs_other _ _ _ (by omega), hA, zs_other _ _ _ (by omega)]
/-! reading the chart -/
def zS_by (S : Nat → Int32) (ch : Int32) (c : Nat) : Nat := match zS_on S c with
  | none => 0
  | some t => if zbt ch t = true then 1 else 0
theorem zS_by_lt (S : Nat → Int32) (ch : Int32) (c : Nat) : zS_by S ch c < 2 := by
  unfold zS_by
  split
  · omega
  · split <;> omega
def zS_go (S : Nat → Int32) (ch : Int32) (h c : Nat) : Nat × Nat × Nat := zS_rw S c (zg_night (zN S 0 + h)) (zS_by S ch c)
theorem zC_row {X : IX} {S : Nat → Int32} (hC : zC_laid X S) (h : zI_WF S) {c hh far : Nat} (hc : c < 24) (hh1 : hh < 100) (hf : far < 2) : fn_Chart_row X (nI c) (nI hh) (nI far) = some (nI (zS_ix (zg_night (zN S 0 + hh)) far c)) := by
  have w0 := zW_0 h
  unfold fn_Chart_row fn_Chart_row_L19
  rw [hC.2.1, nI_add, ze_night (by omega), zp_b1]
  unfold zS_ix
  cases zg_night (zN S 0 + hh) with
  | true =>
    rw [zt_t, if_neg (by decide), show (2 : Int32) = nI 2 from rfl, show (24 : Int32) = nI 24 from rfl, nI_add, pk_mul, nI_add]
    congr 2
    rw [if_pos rfl]; omega
  | false =>
    rw [zt_f, if_pos rfl, show (24 : Int32) = nI 24 from rfl, pk_mul, nI_add]
    congr 2
    rw [if_neg (by decide)]; omega
theorem zC_chosen {X : IX} {S : Nat → Int32} (hC : zC_laid X S) (h : zI_WF S) {c hh : Nat} (hc : c < 24) (hh1 : hh < 100) (ch : Int32) : fn_Chart_chosenRow X (nI c) (nI hh) ch = some (nI (zS_ix (zg_night (zN S 0 + hh)) (zS_by S ch c) c)) := by
  unfold fn_Chart_chosenRow fn_Chart_chosenRow_L27
  rw [zn_ib (show c < 24 from hc) (by decide), zp_gd, zn_cl (by omega), zp_nx, (hC.2.2.2 c hc).1]
  unfold zS_by
  cases ho : zS_on S c with
  | none =>
    rw [if_pos (show zO none = (-1 : Int32) from rfl), show (0 : Int32) = nI 0 from rfl, zC_row hC h hc hh1 (by omega), zp_b1]
  | some t =>
    have ht := (zS_on_lt ho).1
    have w1 := zW_1 h
    rw [if_neg (show ¬ zO (some t) = (-1 : Int32) from zO_m1 (by omega))]
    show zu_b1 (fn_Chart_row X (nI c) (nI hh) (ch >>> (nI t &&& 31) &&& 1)) _ = _
    rw [zbt_val ch (by omega)]
    show _ = some (nI (zS_ix (zg_night (zN S 0 + hh)) (if zbt ch t = true then 1 else 0) c))
    cases zbt ch t with
    | true => rw [zt_t, show (1 : Int32) = nI 1 from rfl, zC_row hC h hc hh1 (by omega), zp_b1]; rfl
    | false => rw [zt_f, show (0 : Int32) = nI 0 from rfl, zC_row hC h hc hh1 (by omega), zp_b1]; rfl
