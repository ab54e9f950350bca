theorem zI_pr1 (k : Nat) (hk : k < 142) : zI_pr 1 k = 21 ∨ zI_pr 1 k = 24 ∨ zI_pr 1 k = 30 ∨ zI_pr 1 k = 33 ∨ (75 ≤ zI_pr 1 k ∧ zI_pr 1 k ≤ 84) := by
  have h1 : ∀ k : Fin 142, (zI_pr 1 k.val == 21 || zI_pr 1 k.val == 24 || zI_pr 1 k.val == 30 || zI_pr 1 k.val == 33 || (decide (75 ≤ zI_pr 1 k.val) && decide (zI_pr 1 k.val ≤ 84))) = true := by decide +kernel
  have h := h1 ⟨k, hk⟩
  simp only [Bool.or_eq_true, Bool.and_eq_true, beq_iff_eq, decide_eq_true_eq] at h
  omega
theorem zI_pr0 (k : Nat) (hk : k < 142) : zI_pr 0 k = 20 ∨ zI_pr 0 k = 23 ∨ zI_pr 0 k = 29 ∨ zI_pr 0 k = 32 ∨ (65 ≤ zI_pr 0 k ∧ zI_pr 0 k ≤ 74) := by
  have h1 : ∀ k : Fin 142, (zI_pr 0 k.val == 20 || zI_pr 0 k.val == 23 || zI_pr 0 k.val == 29 || zI_pr 0 k.val == 32 || (decide (65 ≤ zI_pr 0 k.val) && decide (zI_pr 0 k.val ≤ 74))) = true := by decide +kernel
  have h := h1 ⟨k, hk⟩
  simp only [Bool.or_eq_true, Bool.and_eq_true, beq_iff_eq, decide_eq_true_eq] at h
  omega
/-! one land becomes another -/
theorem zb_rows {o0 o1 : Nat} (_h0 : o0 < 3) (_h1 : o1 < 3) (hne : o0 ≠ o1) : (20 + o0 ≠ 20 + o1) := by omega
theorem ze_become_L {r0 r1 : Nat} (hne : r0 ≠ r1) (h0 : r0 < 23) (h1 : r1 < 23) (g0 : 20 ≤ r0) (g1 : 20 ≤ r1) : ∀ (d t n : Nat) (X : IX), t + d = 10 → d < n → ∃ X', fn_Land_become_L47 n r0 r1 (nI t) X = some X' ∧ (∀ u, t ≤ u → u < 10 → ∀ f, f < 9 → X' (zu_th (r0 + 6) u + 30) f = X (zu_th (r1 + 6) u + 30) f) ∧ (∀ j, 4 ≤ j → j < 10 → X' r0 j = X r1 j) ∧ (∀ a, a ≠ r0 → (∀ u, t ≤ u → u < 10 → a ≠ zu_th (r0 + 6) u + 30) → X' a = X a) := by
  intro d
  induction d with
  | zero =>
    intro t n X ht hn
    obtain ⟨m, rfl⟩ : ∃ m, n = m + 1 := ⟨n - 1, by omega⟩
    obtain rfl : t = 10 := by omega
    refine ⟨_, by
      show fn_Land_become_B47 (fn_Land_become_L47 m) r0 r1 (nI 10) X = _
      unfold fn_Land_become_B47
      rw [if_pos (show (10 : Int32) ≤ nI 10 by decide)]
      simp only [zp_nx]
      rfl, ?_, ?_, ?_⟩
    · intro u hu hu2
      omega
    · intro j hj hj2
      rcases (show j = 4 ∨ j = 5 ∨ j = 6 ∨ j = 7 ∨ j = 8 ∨ j = 9 by omega) with rfl | rfl | rfl | rfl | rfl | rfl <;> simp [zs_st, hne, Ne.symm hne]
    · intro a ha _
      rw [zs_other _ _ _ ha, zs_other _ _ _ ha, zs_other _ _ _ ha, zs_other _ _ _ ha, zs_other _ _ _ ha, zs_other _ _ _ ha]
  | succ d ih =>
    intro t n X ht hn
    obtain ⟨m, rfl⟩ : ∃ m, n = m + 1 := ⟨n - 1, by omega⟩
    obtain ⟨X', e, p1, p2, p3⟩ := ih (t + 1) m (zu_up X (zu_th (r0 + 6) t + 30) (va_cpy (X (zu_th (r1 + 6) t + 30)) (X (zu_th (r0 + 6) t + 30)) 0 0 9)) (by omega) (by omega)
    refine ⟨X', ?_, ?_, ?_, ?_⟩
    · show fn_Land_become_B47 (fn_Land_become_L47 m) r0 r1 (nI t) X = _
      unfold fn_Land_become_B47
      rw [if_neg (show ¬ (10 : Int32) ≤ nI t from nI_ge (a := t) (b := 10) (by omega) (by omega))]
      simp only [zp_nx, zn_ib (show t < 10 by omega) (by decide), zp_gd, zn_cl (show t < 2 ^ 31 by omega), nI_1]
      exact e
    · intro u hu hu2 f hf
      by_cases q : u = t
      · subst q
        rw [p3 _ (by unfold zu_th; omega) (fun w hw hw2 => by unfold zu_th; omega), zu_up_s, pk_cpy_in (by omega) (by omega)]
        congr 1
        omega
      · rw [p1 u (by omega) hu2 f hf, zu_up_n (by unfold zu_th; omega)]
    · intro j hj hj2
      rw [p2 j hj hj2, zu_up_n (by unfold zu_th; omega)]
    · intro a ha hu
      rw [p3 a ha (fun u h1 h2 => hu u (by omega) h2), zu_up_n (hu t (by omega) (by omega))]
def zR (o a : Nat) : Bool := a == 20 + o || a == 23 + o || a == 29 + o || a == 32 + o || (decide (65 + 10 * o ≤ a) && decide (a < 75 + 10 * o))
theorem zR_f {o a : Nat} (h : zR o a = false) : a ≠ 20 + o ∧ a ≠ 23 + o ∧ a ≠ 29 + o ∧ a ≠ 32 + o ∧ ¬ (65 + 10 * o ≤ a ∧ a < 75 + 10 * o) := by
  unfold zR at h
  simp only [Bool.or_eq_false_iff, Bool.and_eq_false_iff, beq_eq_false_iff_ne, decide_eq_false_iff_not, ne_eq] at h
  omega
theorem zR_of {o a : Nat} (h1 : a ≠ 20 + o) (h2 : a ≠ 23 + o) (h3 : a ≠ 29 + o) (h4 : a ≠ 32 + o) (h5 : ¬ (65 + 10 * o ≤ a ∧ a < 75 + 10 * o)) : zR o a = false := by
  unfold zR
  simp only [Bool.or_eq_false_iff, Bool.and_eq_false_iff, beq_eq_false_iff_ne, decide_eq_false_iff_not, ne_eq]
  omega
theorem ze_become {o0 o1 : Nat} (X : IX) (h0 : o0 < 3) (h1 : o1 < 3) (hne : o0 ≠ o1) : ∃ X', fn_Land_become (20 + o0) (20 + o1) X = some X' ∧ (∀ k, k < 142 → X' (zI_pr o0 k) (zI_ps k) = X (zI_pr o1 k) (zI_ps k)) ∧ ∀ a, zR o0 a = false → X' a = X a := by
  obtain ⟨Xa, ea⟩ : ∃ Xa : IX, Xa = zu_up X (20 + o0 + 3) (va_cpy (X (20 + o1 + 3)) (X (20 + o0 + 3)) 0 0 24) := ⟨_, rfl⟩
  obtain ⟨Xb, eb⟩ : ∃ Xb : IX, Xb = zu_up Xa (20 + o0 + 9) (va_cpy (Xa (20 + o1 + 9)) (Xa (20 + o0 + 9)) 0 0 12) := ⟨_, rfl⟩
  obtain ⟨Xc, ec⟩ : ∃ Xc : IX, Xc = zu_up Xb (20 + o0 + 12) (va_cpy (Xb (20 + o1 + 12)) (Xb (20 + o0 + 12)) 0 0 10) := ⟨_, rfl⟩
  obtain ⟨X', e, p1, p2, p3⟩ := ze_become_L (r0 := 20 + o0) (r1 := 20 + o1) (by omega) (by omega) (by omega) (by omega) (by omega) 10 0 400 Xc (by omega) (by omega)
  have oc : ∀ a, a ≠ 20 + o0 + 12 → Xc a = Xb a := fun a ha => by rw [ec, zu_up_n ha]
  have ob : ∀ a, a ≠ 20 + o0 + 9 → Xb a = Xa a := fun a ha => by rw [eb, zu_up_n ha]
  have oa : ∀ a, a ≠ 20 + o0 + 3 → Xa a = X a := fun a ha => by rw [ea, zu_up_n ha]
  refine ⟨X', ?_, ?_, ?_⟩
  · unfold fn_Land_become
    simp only [zp_nx]
    rw [← ea, ← eb, ← ec]
    exact e
  · intro k hk
    by_cases k6 : k < 6
    · have hs : 4 ≤ zI_ps k ∧ zI_ps k < 10 := by
        have key : ∀ i : Fin 6, 4 ≤ zI_ps i.val ∧ zI_ps i.val < 10 := by decide
        exact key ⟨k, k6⟩
      have hp : ∀ o, zI_pr o k = 20 + o := fun o => by unfold zI_pr; rw [if_pos k6]
      rw [hp, hp, p2 _ hs.1 hs.2, oc _ (by omega), ob _ (by omega), oa _ (by omega)]
    by_cases k30 : k < 30
    · obtain ⟨c, rfl⟩ : ∃ c, k = 6 + c := ⟨k - 6, by omega⟩
      rw [(zL_p6 o0 c (by omega)).1, (zL_p6 o1 c (by omega)).1, (zL_p6 0 c (by omega)).2, p3 _ (by omega) (fun u _ _ => by unfold zu_th; omega), oc _ (by omega), ob _ (by omega), ea, zu_up_s, pk_cpy_in (by omega) (by omega)]
      congr 1
      omega
    by_cases k120 : k < 120
    · obtain ⟨t, f, hf, rfl⟩ : ∃ t f, f < 9 ∧ k = 30 + 9 * t + f := ⟨(k - 30) / 9, (k - 30) % 9, by omega, by omega⟩
      rw [(zL_p30 o0 t f (by omega) hf).1, (zL_p30 o1 t f (by omega) hf).1, (zL_p30 0 t f (by omega) hf).2, p1 t (by omega) (by omega) f hf, oc _ (by unfold zu_th; omega), ob _ (by unfold zu_th; omega), oa _ (by unfold zu_th; omega)]
    by_cases k132 : k < 132
    · obtain ⟨i, rfl⟩ : ∃ i, k = 120 + i := ⟨k - 120, by omega⟩
      rw [(zL_p120 o0 i (by omega)).1, (zL_p120 o1 i (by omega)).1, (zL_p120 0 i (by omega)).2, p3 _ (by omega) (fun u _ _ => by unfold zu_th; omega), oc _ (by omega), eb, zu_up_s, pk_cpy_in (by omega) (by omega), oa _ (by omega)]
      congr 1
      omega
    · obtain ⟨i, rfl⟩ : ∃ i, k = 132 + i := ⟨k - 132, by omega⟩
      rw [(zL_p132 o0 i (by omega)).1, (zL_p132 o1 i (by omega)).1, (zL_p132 0 i (by omega)).2, p3 _ (by omega) (fun u _ _ => by unfold zu_th; omega), ec, zu_up_s, pk_cpy_in (by omega) (by omega), ob _ (by omega), oa _ (by omega)]
      congr 1
      omega
  · intro a ha
    obtain ⟨q1, q2, q3, q4, q5⟩ := zR_f ha
    rw [p3 a q1 (fun u _ hu => by unfold zu_th; omega), oc a (by omega), ob a (by omega), oa a (by omega)]
theorem zl_cp_image : ∀ (d i n : Nat) (X : IX), i + d = 142 → d < n → ∃ X', fn_Mod_image_L2 n (nI i) X = some (1, zu_st X' 95 4 1) ∧ (∀ j, i ≤ j → j < 142 → X' 97 j = X 96 j) ∧ (∀ j, j < i → X' 97 j = X 97 j) ∧ (∀ j, 142 ≤ j → X' 97 j = X 97 j) ∧ ∀ a, a ≠ 97 → X' a = X a := by
  intro d
  induction d with
  | zero =>
    intro i n X hi hn
    obtain ⟨m, rfl⟩ : ∃ m, n = m + 1 := ⟨n - 1, by omega⟩
    obtain rfl : i = 142 := by omega
    refine ⟨X, ?_, fun j h1 h2 => absurd h2 (by omega), fun _ _ => rfl, fun _ _ => rfl, fun _ _ => rfl⟩
    show fn_Mod_image_B2 (fn_Mod_image_L2 m) (nI 142) X = _
    unfold fn_Mod_image_B2
    rw [if_pos (show (142 : Int32) ≤ nI 142 by decide)]
    try simp only [zp_nx]
  | succ d ih =>
    intro i n X hi hn
    obtain ⟨m, rfl⟩ : ∃ m, n = m + 1 := ⟨n - 1, by omega⟩
    obtain ⟨X', e, p1, p2, p4, p3⟩ := ih (i + 1) m (zu_st X 97 i (X 96 i)) (by omega) (by omega)
    refine ⟨X', ?_, ?_, ?_, ?_, ?_⟩
    · show fn_Mod_image_B2 (fn_Mod_image_L2 m) (nI i) X = _
      unfold fn_Mod_image_B2
      rw [if_neg (show ¬ (142 : Int32) ≤ nI i from nI_ge (a := i) (b := 142) (by omega) (by omega))]
      simp only [zp_nx, zn_ib (show i < 142 by omega) (by decide), zp_gd, zn_cl (show i < 2 ^ 31 by omega), nI_1]
      exact e
    · intro j h1 h2
      by_cases q : j = i
      · subst q
        rw [p2 j (by omega), zs_st, if_pos ⟨rfl, rfl⟩]
      · rw [p1 j (by omega) h2, zs_other _ _ _ (by decide)]
    · intro j h1
      rw [p2 j (by omega), zs_st, if_neg (by omega)]
    · intro j h1
      rw [p4 j h1, zs_st, if_neg (by omega)]
    · intro a ha
      rw [p3 a ha, zs_other _ _ _ ha]
theorem zl_cp_undo : ∀ (d i n : Nat) (X : IX), i + d = 142 → d < n → ∃ X', fn_Mod_undo_L16 n (nI i) X = some (X' 96 0, X') ∧ (∀ j, i ≤ j → j < 142 → X' 96 j = X 97 j) ∧ (∀ j, j < i → X' 96 j = X 96 j) ∧ (∀ j, 142 ≤ j → X' 96 j = X 96 j) ∧ ∀ a, a ≠ 96 → X' a = X a := by
  intro d
  induction d with
  | zero =>
    intro i n X hi hn
    obtain ⟨m, rfl⟩ : ∃ m, n = m + 1 := ⟨n - 1, by omega⟩
    obtain rfl : i = 142 := by omega
    refine ⟨X, ?_, fun j h1 h2 => absurd h2 (by omega), fun _ _ => rfl, fun _ _ => rfl, fun _ _ => rfl⟩
    show fn_Mod_undo_B16 (fn_Mod_undo_L16 m) (nI 142) X = _
    unfold fn_Mod_undo_B16
    rw [if_pos (show (142 : Int32) ≤ nI 142 by decide)]
    try simp only [zp_nx]
  | succ d ih =>
    intro i n X hi hn
    obtain ⟨m, rfl⟩ : ∃ m, n = m + 1 := ⟨n - 1, by omega⟩
    obtain ⟨X', e, p1, p2, p4, p3⟩ := ih (i + 1) m (zu_st X 96 i (X 97 i)) (by omega) (by omega)
    refine ⟨X', ?_, ?_, ?_, ?_, ?_⟩
    · show fn_Mod_undo_B16 (fn_Mod_undo_L16 m) (nI i) X = _
      unfold fn_Mod_undo_B16
      rw [if_neg (show ¬ (142 : Int32) ≤ nI i from nI_ge (a := i) (b := 142) (by omega) (by omega))]
      simp only [zp_nx, zn_ib (show i < 142 by omega) (by decide), zp_gd, zn_cl (show i < 2 ^ 31 by omega), nI_1]
      exact e
    · intro j h1 h2
      by_cases q : j = i
      · subst q
        rw [p2 j (by omega), zs_st, if_pos ⟨rfl, rfl⟩]
      · rw [p1 j (by omega) h2, zs_other _ _ _ (by decide)]
    · intro j h1
      rw [p2 j (by omega), zs_st, if_neg (by omega)]
    · intro j h1
      rw [p4 j h1, zs_st, if_neg (by omega)]
    · intro a ha
      rw [p3 a ha, zs_other _ _ _ ha]
theorem zl_cp_puts : ∀ (d i n : Nat) (X : IX), i + d = 142 → d < n → ∃ X', fn_Mod_puts_L2 n (nI i) X = some X' ∧ (∀ j, i ≤ j → j < 142 → X' 98 j = X 96 j) ∧ (∀ j, j < i → X' 98 j = X 98 j) ∧ (∀ j, 142 ≤ j → X' 98 j = X 98 j) ∧ ∀ a, a ≠ 98 → X' a = X a := by
  intro d
  induction d with
  | zero =>
    intro i n X hi hn
    obtain ⟨m, rfl⟩ : ∃ m, n = m + 1 := ⟨n - 1, by omega⟩
    obtain rfl : i = 142 := by omega
    refine ⟨X, ?_, fun j h1 h2 => absurd h2 (by omega), fun _ _ => rfl, fun _ _ => rfl, fun _ _ => rfl⟩
    show fn_Mod_puts_B2 (fn_Mod_puts_L2 m) (nI 142) X = _
    unfold fn_Mod_puts_B2
    rw [if_pos (show (142 : Int32) ≤ nI 142 by decide)]
    try simp only [zp_nx]
  | succ d ih =>
    intro i n X hi hn
    obtain ⟨m, rfl⟩ : ∃ m, n = m + 1 := ⟨n - 1, by omega⟩
    obtain ⟨X', e, p1, p2, p4, p3⟩ := ih (i + 1) m (zu_st X 98 i (X 96 i)) (by omega) (by omega)
    refine ⟨X', ?_, ?_, ?_, ?_, ?_⟩
    · show fn_Mod_puts_B2 (fn_Mod_puts_L2 m) (nI i) X = _
      unfold fn_Mod_puts_B2
      rw [if_neg (show ¬ (142 : Int32) ≤ nI i from nI_ge (a := i) (b := 142) (by omega) (by omega))]
      simp only [zp_nx, zn_ib (show i < 142 by omega) (by decide), zp_gd, zn_cl (show i < 2 ^ 31 by omega), nI_1]
      exact e
    · intro j h1 h2
      by_cases q : j = i
      · subst q
        rw [p2 j (by omega), zs_st, if_pos ⟨rfl, rfl⟩]
      · rw [p1 j (by omega) h2, zs_other _ _ _ (by decide)]
    · intro j h1
      rw [p2 j (by omega), zs_st, if_neg (by omega)]
    · intro j h1
      rw [p4 j h1, zs_st, if_neg (by omega)]
    · intro a ha
      rw [p3 a ha, zs_other _ _ _ ha]
theorem zl_cp_putsBack : ∀ (d i n : Nat) (X : IX), i + d = 142 → d < n → ∃ X', fn_Mod_putsBack_L2 n (nI i) X = some X' ∧ (∀ j, i ≤ j → j < 142 → X' 96 j = X 98 j) ∧ (∀ j, j < i → X' 96 j = X 96 j) ∧ (∀ j, 142 ≤ j → X' 96 j = X 96 j) ∧ ∀ a, a ≠ 96 → X' a = X a := by
  intro d
  induction d with
  | zero =>
    intro i n X hi hn
    obtain ⟨m, rfl⟩ : ∃ m, n = m + 1 := ⟨n - 1, by omega⟩
    obtain rfl : i = 142 := by omega
    refine ⟨X, ?_, fun j h1 h2 => absurd h2 (by omega), fun _ _ => rfl, fun _ _ => rfl, fun _ _ => rfl⟩
    show fn_Mod_putsBack_B2 (fn_Mod_putsBack_L2 m) (nI 142) X = _
    unfold fn_Mod_putsBack_B2
    rw [if_pos (show (142 : Int32) ≤ nI 142 by decide)]
    try simp only [zp_nx]
  | succ d ih =>
    intro i n X hi hn
    obtain ⟨m, rfl⟩ : ∃ m, n = m + 1 := ⟨n - 1, by omega⟩
    obtain ⟨X', e, p1, p2, p4, p3⟩ := ih (i + 1) m (zu_st X 96 i (X 98 i)) (by omega) (by omega)
    refine ⟨X', ?_, ?_, ?_, ?_, ?_⟩
    · show fn_Mod_putsBack_B2 (fn_Mod_putsBack_L2 m) (nI i) X = _
      unfold fn_Mod_putsBack_B2
      rw [if_neg (show ¬ (142 : Int32) ≤ nI i from nI_ge (a := i) (b := 142) (by omega) (by omega))]
      simp only [zp_nx, zn_ib (show i < 142 by omega) (by decide), zp_gd, zn_cl (show i < 2 ^ 31 by omega), nI_1]
      exact e
    · intro j h1 h2
      by_cases q : j = i
      · subst q
        rw [p2 j (by omega), zs_st, if_pos ⟨rfl, rfl⟩]
      · rw [p1 j (by omega) h2, zs_other _ _ _ (by decide)]
    · intro j h1
      rw [p2 j (by omega), zs_st, if_neg (by omega)]
    · intro j h1
      rw [p4 j h1, zs_st, if_neg (by omega)]
    · intro a ha
      rw [p3 a ha, zs_other _ _ _ ha]
theorem zI_WF.cg {S T : Nat → Int32} (h : zI_WF S) (e : ∀ k, k < 142 → T k = S k) : zI_WF T := by
  obtain ⟨h0, h1, h2, h3, h4, h5, h6, h7, h8, h9⟩ := h
  have n1 := (h1.n (by omega)).2
  have n2 := (h2.n (by omega)).2
  have z : ∀ k, k < 142 → zN T k = zN S k := fun k hk => by unfold zN; rw [e k hk]
  refine ⟨by rw [e 0 (by omega)]; exact h0, by rw [e 1 (by omega)]; exact h1, by rw [e 2 (by omega)]; exact h2, by rw [e 3 (by omega)]; exact h3, by rw [e 4 (by omega)]; exact h4, fun c hc => by rw [e _ (by omega)]; exact h5 c hc, fun t ht => ?_, fun i hi => ?_, fun q hq => ?_, fun t u ht hu => ?_⟩
  · rw [z 1 (by omega)] at ht
    have h10 : t < 10 := by unfold zN at ht; omega
    unfold zI_th
    rw [e _ (by omega), e _ (by omega), e _ (by omega), e _ (by omega), e _ (by omega), e _ (by omega), e _ (by omega), e _ (by omega), e _ (by omega), z _ (by omega), z _ (by omega), z _ (by omega)]
    exact h6 t ht
  · rw [z 2 (by omega)] at hi
    have h12 : i < 12 := by unfold zN at hi; omega
    rw [e _ (by omega)]
    exact h7 i hi
  · rw [z 1 (by omega), e _ (by omega)]
    exact h8 q hq
  · rw [z 1 (by omega)] at ht hu
    have a1 : t < 10 := by unfold zN at ht; omega
    have a2 : u < 10 := by unfold zN at hu; omega
    rw [e _ (by omega), e _ (by omega)]
    exact h9 t u ht hu
theorem st_image {X : IX} {Y : LX} (hI : zI_INV X) : ∃ (v : Int32) (X1 : IX) (X2 : IX), fn_Post_image X = some (v, X1) ∧ fn_Mod_image X1 = some (v, X2) ∧ zI_INV X2 := by
  obtain ⟨h1, h2, h3, h4, h5⟩ := hI
  obtain ⟨Xa, ea, pa, qa⟩ := ze_become (o0 := 1) (o1 := 0) X (by omega) (by omega) (by omega)
  obtain ⟨Xb, eb, pb, pb2, pb3, qb⟩ := zl_cp_image 142 0 400 (zu_st Xa 0 7 1) (by omega) (by omega)
  have big : ∀ a, 95 ≤ a → zR 1 a = false := fun a ha => zR_of (by omega) (by omega) (by omega) (by omega) (by omega)
  have e96 : Xb 96 = X 96 := by rw [qb 96 (by decide), zs_other _ _ _ (by decide), qa 96 (big 96 (by omega))]
  refine ⟨1, zu_st Xa 0 7 1, zu_st Xb 95 4 1, ?_, ?_, ?_⟩
  · unfold fn_Post_image
    rw [ea, zp_b1, zp_nx]
  · unfold fn_Mod_image
    exact eb
  · have keep : ∀ (P : Nat → Nat → Bool), (∀ r j, P r j = true → zR 1 r = false ∧ r ≠ 0 ∧ r ≠ 97 ∧ r ≠ 95) → zA P X (zu_st Xb 95 4 1) := by
      intro P hP r j hr
      obtain ⟨a1, a2, a3, a4⟩ := hP r j hr
      rw [zs_other _ _ _ a4, qb r a3, zs_other _ _ _ a2, qa r a1]
    refine ⟨?_, ⟨?_, ?_, ?_⟩, ?_, ?_, ?_⟩
    · refine h1.ag (keep _ ?_)
      intro r j hr
      unfold zA_1 at hr
      simp only [Bool.or_eq_true, Bool.and_eq_true, beq_iff_eq, decide_eq_true_eq] at hr
      exact ⟨zR_of (by omega) (by omega) (by omega) (by omega) (by omega), by omega, by omega, by omega⟩
    · rw [zs_st, if_pos ⟨rfl, rfl⟩, zs_other _ _ _ (by decide), qb 0 (by decide), zs_st, if_pos ⟨rfl, rfl⟩]
    · rw [zs_other _ _ _ (by decide), qb 0 (by decide), zs_st, if_pos ⟨rfl, rfl⟩]
      exact Or.inr rfl
    · intro _
      have e97 : ∀ k, k < 142 → zu_st Xb 95 4 1 97 k = X 96 k := by
        intro k hk
        rw [zs_other _ _ _ (by decide), pb k (by omega) hk, zs_other _ _ _ (by decide), qa 96 (big 96 (by omega))]
      refine ⟨fun k hk => ?_, h1.2.cg e97⟩
      rw [e97 k hk, ← h1.1 k hk, ← pa k hk]
      have hpr := zI_pr1 k hk
      rw [zs_other _ _ _ (by omega), qb _ (by omega), zs_other _ _ _ (by omega)]
    · refine h3.ag (keep _ ?_)
      intro r j hr
      unfold zA_3 at hr
      simp only [Bool.or_eq_true, beq_iff_eq] at hr
      exact ⟨zR_of (by omega) (by omega) (by omega) (by omega) (by omega), by omega, by omega, by omega⟩
    · refine h4.ag ?_
      intro r j hr
      unfold zA_4 at hr
      simp only [Bool.or_eq_true, Bool.and_eq_true, beq_iff_eq] at hr
      rw [zs_st, if_neg (by omega), qb r (by omega), zs_other _ _ _ (by omega), qa r (zR_of (by omega) (by omega) (by omega) (by omega) (by omega))]
    · refine h5.ag (keep _ ?_)
      intro r j hr
      unfold zA_5 at hr
      simp only [Bool.or_eq_true, Bool.and_eq_true, beq_iff_eq, decide_eq_true_eq] at hr
      exact ⟨zR_of (by omega) (by omega) (by omega) (by omega) (by omega), by omega, by omega, by omega⟩
