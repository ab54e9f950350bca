/-! where items end -/
theorem zk_n_b2 (b : Nat → Nat) {L s : Nat} (h : s ≤ L) : s ≤ zk_n b L s ∧ zk_n b L s ≤ L ∧ (s < L → s < zk_n b L s) := by
  have q := zk_e_b b h
  have r := zk_n_b b h
  omega
theorem zi_ph_p {b : Nat → Nat} {L s r lo hi dv : Nat} (h : s ≤ L) : s ≤ (zi_ph b L s r lo hi dv).2.1 ∧ (zi_ph b L s r lo hi dv).2.1 ≤ L := by
  have a := zk_n_b2 b h
  have c := zk_n_b2 b a.2.1
  unfold zi_ph
  split
  · split
    · show s ≤ zk_n b L (zk_n b L s) ∧ zk_n b L (zk_n b L s) ≤ L
      omega
    · show s ≤ zk_n b L s ∧ zk_n b L s ≤ L
      omega
  · show s ≤ s ∧ s ≤ L
    omega
theorem zi_t5_p {b : Nat → Nat} {L s n : Nat} {T : Nat → Int32} (h : s ≤ L) : s ≤ (zi_t5 b L s T n).2.1 ∧ (zi_t5 b L s T n).2.1 ≤ L := by
  have a := zk_n_b2 b h
  show s ≤ (if zk_is b L s 19 = true then zk_n b L s else s) ∧ (if zk_is b L s 19 = true then zk_n b L s else s) ≤ L
  split <;> omega
theorem zi_t4_p {b : Nat → Nat} {L s n : Nat} {T : Nat → Int32} (h : s ≤ L) : s ≤ (zi_t4 b L s T n).2.1 ∧ (zi_t4 b L s T n).2.1 ≤ L := by
  have a := zi_ph_p (b := b) (r := 18) (lo := 0) (hi := 12) (dv := 8) h
  unfold zi_t4
  split
  · have c := zi_t5_p (b := b) (n := n) (T := upd T (30 + 9 * n + 5) (nI (zi_ph b L s 18 0 12 8).2.2)) a.2
    exact ⟨Nat.le_trans a.1 c.1, c.2⟩
  · exact a
theorem zi_t3_p {b : Nat → Nat} {L s n : Nat} {T : Nat → Int32} (h : s ≤ L) : s ≤ (zi_t3 b L s T n).2.1 ∧ (zi_t3 b L s T n).2.1 ≤ L := by
  have a := zi_ph_p (b := b) (r := 17) (lo := 1) (hi := 12) (dv := 5) h
  unfold zi_t3
  split
  · have c := zi_t4_p (b := b) (n := n) (T := upd T (30 + 9 * n + 3) (nI (zi_ph b L s 17 1 12 5).2.2)) a.2
    exact ⟨Nat.le_trans a.1 c.1, c.2⟩
  · exact a
theorem zi_t2_p {b : Nat → Nat} {L s n : Nat} {T : Nat → Int32} (h : s ≤ L) : s ≤ (zi_t2 b L s T n).2.1 ∧ (zi_t2 b L s T n).2.1 ≤ L := by
  have a := zi_ph_p (b := b) (r := 16) (lo := 1) (hi := 9) (dv := 2) h
  unfold zi_t2
  split
  · have c := zi_t3_p (b := b) (n := n) (T := upd T (30 + 9 * n + 2) (nI (zi_ph b L s 16 1 9 2).2.2)) a.2
    exact ⟨Nat.le_trans a.1 c.1, c.2⟩
  · exact a
theorem zi_thr_p {b : Nat → Nat} {L s k : Nat} {S : Nat → Int32} (h : s ≤ L) : (zi_thr b L s S k).2.1 ≤ L ∧ ((zi_thr b L s S k).1 = true → zk_n b L s ≤ (zi_thr b L s S k).2.1) := by
  have a := zk_n_b2 b h
  have c := zk_n_b2 b a.2.1
  have d := zk_n_b2 b c.2.1
  unfold zi_thr
  split
  · exact ⟨h, fun z => (by cases z)⟩
  · split
    · unfold zi_t1
      split
      · have e := zi_t2_p (b := b) (n := zN S 1) (T := zS_nt S (zN S 1) k (zk_v b L (zk_n b L (zk_n b L s)))) d.2.1
        exact ⟨e.2, fun _ => by omega⟩
      · exact ⟨c.2.1, fun z => (by cases z)⟩
    · exact ⟨a.2.1, fun z => (by cases z)⟩
theorem zi_stuff_p {b : Nat → Nat} {L s v : Nat} {S : Nat → Int32} (h : s ≤ L) : (zi_stuff b L s S v).2.1 ≤ L ∧ ((zi_stuff b L s S v).1 = true → zk_n b L s ≤ (zi_stuff b L s S v).2.1) := by
  have a := zk_n_b2 b h
  have c := zk_n_b2 b a.2.1
  have d := zk_n_b2 b c.2.1
  have e := zk_n_b2 b d.2.1
  unfold zi_stuff
  split
  · split
    · split
      · exact ⟨e.2.1, fun _ => by show _ ≤ zk_n b L (zk_n b L (zk_n b L (zk_n b L s))); omega⟩
      · exact ⟨d.2.1, fun z => (by cases z)⟩
    · exact ⟨c.2.1, fun _ => c.1⟩
  · exact ⟨a.2.1, fun z => (by cases z)⟩
theorem zi_set_p {b : Nat → Nat} {L s hi k : Nat} {S : Nat → Int32} (h : s ≤ L) : (zi_set b L s S hi k).2.1 ≤ L ∧ ((zi_set b L s S hi k).1 = true → zk_n b L s ≤ (zi_set b L s S hi k).2.1) := by
  have a := zk_n_b2 b h
  have c := zk_n_b2 b a.2.1
  unfold zi_set
  split
  · exact ⟨c.2.1, fun _ => c.1⟩
  · exact ⟨a.2.1, fun z => (by cases z)⟩
theorem zi_let_p {b : Nat → Nat} {L s : Nat} {S : Nat → Int32} (h : s ≤ L) : (zi_let b L s S).2.1 ≤ L ∧ ((zi_let b L s S).1 = true → zk_n b L s ≤ (zi_let b L s S).2.1) := by
  have a := zk_n_b2 b h
  have c := zk_n_b2 b a.2.1
  unfold zi_let
  split
  · exact ⟨h, fun z => (by cases z)⟩
  · split
    · exact ⟨c.2.1, fun _ => c.1⟩
    · exact ⟨a.2.1, fun z => (by cases z)⟩
theorem zk_is_lt {b : Nat → Nat} {L s r : Nat} (h : zk_is b L s r = true) : s < L := (zk_e_al (of_decide_eq_true h).1).1
theorem zi_st_lt {b : Nat → Nat} {L s v : Nat} (h : zi_st b L s = some v) : s < L := by
  unfold zi_st at h
  repeat' split at h
  all_goals first
    | (rename_i q; exact zk_is_lt q)
    | cases h
theorem zi_kd_lt {b : Nat → Nat} {L s v : Nat} (h : zi_kd b L s = some v) : s < L := by
  unfold zi_kd at h
  repeat' split at h
  all_goals first
    | (rename_i q; exact zk_is_lt q)
    | cases h
theorem zi_item_p {b : Nat → Nat} {L s : Nat} {S : Nat → Int32} (h : s ≤ L) : (zi_item b L s S).2.1 ≤ L ∧ ((zi_item b L s S).1 = true → s < (zi_item b L s S).2.1) := by
  have a := zk_n_b2 b h
  unfold zi_item
  cases hs : zi_st b L s with
  | some v =>
    have lt := zi_st_lt hs
    have q := zi_stuff_p (b := b) (S := S) (v := v) h
    exact ⟨q.1, fun z => by have := q.2 z; have := a.2.2 lt; show s < (zi_stuff b L s S v).2.1; omega⟩
  | none =>
    cases hk : zi_kd b L s with
    | some k =>
      have lt := zi_kd_lt hk
      have q := zi_thr_p (b := b) (S := S) (k := k) h
      exact ⟨q.1, fun z => by have := q.2 z; have := a.2.2 lt; show s < (zi_thr b L s S k).2.1; omega⟩
    | none =>
      show (if zk_is b L s 0 = true then zi_set b L s S 23 3 else if zk_is b L s 1 = true then zi_set b L s S 9 4 else if zk_is b L s 2 = true then zi_let b L s S else (false, s, S)).2.1 ≤ L ∧ ((if zk_is b L s 0 = true then zi_set b L s S 23 3 else if zk_is b L s 1 = true then zi_set b L s S 9 4 else if zk_is b L s 2 = true then zi_let b L s S else (false, s, S)).1 = true → s < (if zk_is b L s 0 = true then zi_set b L s S 23 3 else if zk_is b L s 1 = true then zi_set b L s S 9 4 else if zk_is b L s 2 = true then zi_let b L s S else (false, s, S)).2.1)
      by_cases h0 : zk_is b L s 0 = true
      · rw [if_pos h0]
        have lt := zk_is_lt h0
        have q := zi_set_p (b := b) (S := S) (hi := 23) (k := 3) h
        exact ⟨q.1, fun z => by have := q.2 z; have := a.2.2 lt; omega⟩
      · rw [if_neg h0]
        by_cases h1 : zk_is b L s 1 = true
        · rw [if_pos h1]
          have lt := zk_is_lt h1
          have q := zi_set_p (b := b) (S := S) (hi := 9) (k := 4) h
          exact ⟨q.1, fun z => by have := q.2 z; have := a.2.2 lt; omega⟩
        · rw [if_neg h1]
          by_cases h2 : zk_is b L s 2 = true
          · rw [if_pos h2]
            have lt := zk_is_lt h2
            have q := zi_let_p (b := b) (S := S) h
            exact ⟨q.1, fun z => by have := q.2 z; have := a.2.2 lt; omega⟩
          · rw [if_neg h2]
            exact ⟨h, fun z => (by cases z)⟩
theorem zk_k3 {b : Nat → Nat} {L s : Nat} : zk_k b L s = 3 ↔ L ≤ s := by
  unfold zk_k
  by_cases q : L ≤ s
  · rw [if_pos q]; exact ⟨fun _ => q, fun _ => rfl⟩
  · rw [if_neg q]
    refine ⟨fun z => ?_, fun z => absurd z q⟩
    repeat' split at z
    all_goals omega
theorem zk_k2 {b : Nat → Nat} {L s : Nat} : zk_k b L s = 2 ↔ (s < L ∧ b s = 59) := by
  unfold zk_k
  by_cases q : L ≤ s
  · rw [if_pos q]; exact ⟨fun z => absurd z (by omega), fun z => absurd z.1 (by omega)⟩
  · rw [if_neg q]
    by_cases w : b s = 59
    · have na : ¬ zk_al (b s) = true := by rw [w]; decide
      have nd : ¬ zk_dg (b s) = true := by rw [w]; decide
      rw [if_neg na, if_neg nd, if_pos w]
      exact ⟨fun _ => ⟨by omega, w⟩, fun _ => rfl⟩
    · refine ⟨fun z => ?_, fun z => absurd z.2 w⟩
      rw [if_neg w] at z
      repeat' split at z
      all_goals omega
theorem zk_e2 {b : Nat → Nat} {L s : Nat} (h : zk_k b L s = 2) : zk_e b L s = s + 1 := by
  have q := zk_k2.mp h
  have na : ¬ zk_al (b s) = true := by rw [q.2]; decide
  have nd : ¬ zk_dg (b s) = true := by rw [q.2]; decide
  unfold zk_e
  rw [if_neg (by omega), if_neg na, if_neg nd]
/-! a whole text -/
def zi_run (b : Nat → Nat) (L : Nat) : Nat → Nat → Nat → (Nat → Int32) → Bool × Nat × Nat × (Nat → Int32)
  | 0, it, s, S => (false, it, s, S)
  | d + 1, it, s, S => if (zi_item b L s S).1 = true then (if zk_k b L (zi_item b L s S).2.1 = 3 then (true, it, (zi_item b L s S).2.1, (zi_item b L s S).2.2) else if zk_k b L (zi_item b L s S).2.1 = 2 then zi_run b L d (it + 1) (zk_n b L (zi_item b L s S).2.1) (zi_item b L s S).2.2 else (false, it, (zi_item b L s S).2.1, S)) else (false, it, (zi_item b L s S).2.1, S)
theorem zi_run_s (b : Nat → Nat) (L d it s : Nat) (S : Nat → Int32) : zi_run b L (d + 1) it s S = if (zi_item b L s S).1 = true then (if zk_k b L (zi_item b L s S).2.1 = 3 then (true, it, (zi_item b L s S).2.1, (zi_item b L s S).2.2) else if zk_k b L (zi_item b L s S).2.1 = 2 then zi_run b L d (it + 1) (zk_n b L (zi_item b L s S).2.1) (zi_item b L s S).2.2 else (false, it, (zi_item b L s S).2.1, S)) else (false, it, (zi_item b L s S).2.1, S) := rfl
theorem zi_run_WF {b : Nat → Nat} {L : Nat} : ∀ (d it s : Nat) (S : Nat → Int32), zI_WF S → s ≤ L → zI_WF (zi_run b L d it s S).2.2.2 ∧ (zi_run b L d it s S).2.2.1 ≤ L ∧ (zi_run b L d it s S).2.1 ≤ it + d := by
  intro d
  induction d with
  | zero => intro it s S h hs; exact ⟨h, hs, by show it ≤ it + 0; omega⟩
  | succ d ih =>
    intro it s S h hs
    have p := (zi_item_p (b := b) (S := S) hs).1
    have W := zi_item_WF (b := b) (L := L) (s := s) h
    rw [zi_run_s]
    split
    · split
      · exact ⟨W, p, by show it ≤ _; omega⟩
      · split
        · have q := ih (it + 1) (zk_n b L (zi_item b L s S).2.1) (zi_item b L s S).2.2 W (zk_n_b2 b p).2.1
          exact ⟨q.1, q.2.1, by omega⟩
        · exact ⟨h, p, by show it ≤ _; omega⟩
    · exact ⟨h, p, by show it ≤ _; omega⟩
theorem zl_items {b : Nat → Nat} {L : Nat} : ∀ (d it s n : Nat) (X : IX) (S : Nat → Int32), it + d = 121 → 1 ≤ it → 2 * it ≤ s + 2 → zE X b L s S → zI_WF S → d < n → ∃ X', fn_Read_readItems_L6 n 22 (nI it) X = some (if (zi_run b L d it s S).1 = true then nI (zi_run b L d it s S).2.1 else -1 - nI (zi_run b L d it s S).2.2.1, X') ∧ ((zi_run b L d it s S).1 = true → zI_LI X' 2 (zi_run b L d it s S).2.2.2) ∧ zBT X X' := by
  intro d
  induction d with
  | zero =>
    intro it s n X S hi h1 h2 hE hW hd
    have := hE.2.1.1
    have := hE.1.1
    omega
  | succ d ih =>
    intro it s n X S hi h1 h2 hE hW hd
    obtain ⟨m, rfl⟩ : ∃ m, n = m + 1 := ⟨n - 1, by omega⟩
    have l := hE.1.1
    have p := zi_item_p (b := b) (S := S) hE.2.1.1
    obtain ⟨X5, ok, q1, q2, q3, q4, q5, q6⟩ := zl_item hE hW
    have kl := zk_k_le b L (zi_item b L s S).2.1
    have c3 : nI (zk_k b L (zi_item b L s S).2.1) = (3 : Int32) ↔ zk_k b L (zi_item b L s S).2.1 = 3 := nI_eq (b := 3) (by omega) (by omega)
    have c2 : nI (zk_k b L (zi_item b L s S).2.1) = (2 : Int32) ↔ zk_k b L (zi_item b L s S).2.1 = 2 := nI_eq (b := 2) (by omega) (by omega)
    show ∃ X', fn_Read_readItems_B6 (fn_Read_readItems_L6 m) _ _ _ = _ ∧ _
    unfold fn_Read_readItems_B6 fn_Read_readItems_L54
    rw [if_neg (show ¬ (120 : Int32) < nI it from nI_nlt (a := 120) (b := it) (by omega) (by omega)), q1, zr_b2, zi_run_s, q4.2.1, q4.2.2.2.1]
    rw [← q2]
    cases ok with
    | false => exact ⟨X5, rfl, fun z => (by cases z), q6⟩
    | true =>
      rw [zt_t, if_neg (by decide), if_pos rfl]
      by_cases k3 : zk_k b L (zi_item b L s S).2.1 = 3
      · rw [if_pos (c3.mpr k3), if_pos k3]
        exact ⟨X5, rfl, fun _ => q5 rfl, q6⟩
      · rw [if_neg (fun z => k3 (c3.mp z)), if_neg k3]
        by_cases k2 : zk_k b L (zi_item b L s S).2.1 = 2
        · rw [if_pos (c2.mpr k2), if_pos k2]
          have E5 : zE X5 b L (zi_item b L s S).2.1 (zi_item b L s S).2.2 := ⟨q3, q4, q5 rfl⟩
          obtain ⟨X6, a1, a2, a3⟩ := zl_on E5
          have nb := zk_n_b b p.1
          have e2 := zk_e2 k2
          have lt := p.2 q2.symm
          obtain ⟨X', r1, r2, r3⟩ := ih (it + 1) _ m X6 _ (by omega) (by omega) (by omega) a2 (zi_item_WF hW) (by omega)
          rw [a1, zr_b1, zr_nx, nI_1]
          exact ⟨X', r1, r2, (q6.tr a3).tr r3⟩
        · rw [if_neg (fun z => k2 (c2.mp z)), if_neg k2]
          exact ⟨X5, rfl, fun z => (by cases z), q6⟩
theorem zm_items {b : Nat → Nat} {L : Nat} : ∀ (d it s n : Nat) (X : IX) (S : Nat → Int32), it + d = 121 → 1 ≤ it → 2 * it ≤ s + 2 → zJt X b L → zJ X b L s false → X 96 = S → zI_WF S → d + 1 < n → ∃ X' v, (zu_b1 (fn_Mod_item X) fun X7 => fn_Mod_text_L24 n (nI it) X7) = fn_Mod_text_L74 v X' ∧ zJ X' b L (zi_run b L d it s S).2.2.1 (!(zi_run b L d it s S).1) ∧ ((zi_run b L d it s S).1 = true → X' 96 = (zi_run b L d it s S).2.2.2 ∧ v = nI (zi_run b L d it s S).2.1) ∧ zYU X X' := by
  intro d
  induction d with
  | zero =>
    intro it s n X S hi h1 h2 hX hJ e96 hW hd
    have := hJ.1
    have := hX.1
    omega
  | succ d ih =>
    intro it s n X S hi h1 h2 hX hJ e96 hW hd
    obtain ⟨m, rfl⟩ : ∃ m, n = m + 1 := ⟨n - 1, by omega⟩
    have l := hX.1
    have p := zi_item_p (b := b) (S := S) hJ.1
    have W := zi_item_WF (b := b) (L := L) (s := s) hW
    obtain ⟨X7, q1, q2, q3, q4⟩ := zm_item hX hJ e96 hW
    have t7 := hX.U q4
    obtain ⟨s', hs'⟩ : ∃ s', s' = (zi_item b L s S).2.1 := ⟨_, rfl⟩
    have p1 : s' ≤ L := by rw [hs']; exact p.1
    rw [q1, zr_b1, zi_run_s]
    rw [← hs'] at q2 ⊢
    show ∃ X' v, fn_Mod_text_B24 (fn_Mod_text_L24 m) (nI it) X7 = _ ∧ _
    unfold fn_Mod_text_B24
    cases ok : (zi_item b L s S).1 with
    | false =>
      rw [ok] at q2
      have q2' : zJ X7 b L s' true := q2
      rw [q2'.2.2.2, zt_t, if_neg (by decide), if_neg (by decide)]
      exact ⟨X7, nI it, rfl, q2', fun z => (by cases z), q4⟩
    | true =>
      rw [ok] at q2
      have q2' : zJ X7 b L s' false := q2
      have c1 : nI L ≤ nI s' ↔ L ≤ s' := nI_leI (by omega) (by omega)
      rw [q2'.2.2.2, zt_f, if_pos rfl, t7.2.1, q2'.2.1, if_pos rfl]
      by_cases k3 : zk_k b L s' = 3
      · rw [if_pos (c1.mpr (zk_k3.mp k3)), if_pos k3]
        exact ⟨X7, nI it, rfl, q2', fun _ => ⟨q3 ok, rfl⟩, q4⟩
      · rw [if_neg (fun z => k3 (zk_k3.mpr (c1.mp z))), if_neg k3, zm_byte t7 p1, zr_b1]
        by_cases k2 : zk_k b L s' = 2
        · rw [if_pos ((zk_bt59 t7).mpr (zk_k2.mp k2)), if_pos k2]
          obtain ⟨X8, a1, a2, a3, _⟩ := zm_needs t7 q2' true
          rw [zt_t] at a1
          have a2' : zJ X8 b L (zk_n b L s') false := a2
          have nb := zk_n_b b p1
          have e2 := zk_e2 k2
          have lt := p.2 ok
          obtain ⟨X', v, r1, r2, r3, r4⟩ := ih (it + 1) (zk_n b L s') m X8 (zi_item b L s S).2.2 (by omega) (by omega) (by omega) (t7.Y a3) a2' (by rw [a3.row (by decide)]; exact q3 ok) W (by omega)
          refine ⟨X', v, ?_, r2, r3, (q4.tr a3.U).tr r4⟩
          unfold fn_Mod_text_L61
          rw [a1, zr_b1, ← r1]
          congr 1
          funext X20
          rw [zr_nx, nI_1]
        · rw [if_neg (fun z => k2 (zk_k2.mpr ((zk_bt59 t7).mp z))), if_neg k2]
          obtain ⟨X8, a1, a2, a3, _⟩ := zm_needs t7 q2' false
          rw [zt_f] at a1
          have a2' : zJ X8 b L s' true := a2
          obtain ⟨X9, b1, b2, b3⟩ := zm_itemw (t7.Y a3) a2' (S := (zi_item b L s S).2.2) (by rw [a3.row (by decide)]; exact q3 ok) W
          obtain ⟨m', rfl⟩ : ∃ m', m = m' + 1 := ⟨m - 1, by omega⟩
          refine ⟨X9, nI (it + 1), ?_, b2, fun z => (by cases z), (q4.tr a3.U).tr b3⟩
          unfold fn_Mod_text_L61
          rw [a1, zr_b1, b1, zr_b1, zr_nx, nI_1]
          show fn_Mod_text_B24 (fn_Mod_text_L24 m') (nI (it + 1)) X9 = _
          unfold fn_Mod_text_B24
          rw [b2.2.2.2, zt_t, if_neg (by decide)]
theorem zI_emptied {X X' : IX} (hI : zI_INV X) {S : Nat → Int32} (h0 : zI_LI X' 0 S) (h96 : ∀ k, k < 142 → X' 96 k = S k) (hW : zI_WF S) (e8 : X' 8 1 = 0) (e95 : X' 95 14 = 0) (o : ∀ a j, zI_imp a j = true → zR 0 a = false → a ≠ 96 → ¬ (a = 8 ∧ j = 1) → ¬ (a = 95 ∧ j = 14) → X' a j = X a j) : zI_INV X' := by
  obtain ⟨i1, i2, i3, i4, i5⟩ := hI
  refine ⟨⟨fun k hk => ?_, hW.cg h96⟩, i2.ag (fun r j hr => ?_), i3.ag (fun r j hr => ?_), ⟨?_, ?_, ?_⟩, i5.ag (fun r j hr => ?_)⟩
  · rw [h96 k hk]; exact h0 k hk
  · unfold zA_2 at hr
    simp only [Bool.or_eq_true, Bool.and_eq_true, beq_iff_eq, decide_eq_true_eq] at hr
    exact o r j (by unfold zI_imp; simp; omega) (zR_of (by omega) (by omega) (by omega) (by omega) (by omega)) (by omega) (by omega) (by omega)
  · unfold zA_3 at hr
    simp only [Bool.or_eq_true, beq_iff_eq] at hr
    exact o r j (by unfold zI_imp; simp; omega) (zR_of (by omega) (by omega) (by omega) (by omega) (by omega)) (by omega) (by omega) (by omega)
  · rw [e95, e8]
  · rw [e8]; exact ⟨0, by omega, rfl⟩
  · rw [e8]
    intro j hj
    exact absurd hj (by rw [show (0 : Int32) = nI 0 from rfl, zn_cl (by omega)]; omega)
  · unfold zA_5 at hr
    simp only [Bool.or_eq_true, Bool.and_eq_true, beq_iff_eq, decide_eq_true_eq] at hr
    exact o r j (by unfold zI_imp; simp; omega) (zR_of (by omega) (by omega) (by omega) (by omega) (by omega)) (by omega) (by omega) (by omega)
theorem st_text {X : IX} {Y : LX} (hI : zI_INV X) : ∃ (v : Int32) (X1 : IX) (X2 : IX), fn_Post_text X = some (v, X1) ∧ fn_Mod_text X1 = some (v, X2) ∧ zI_INV X2 := by
  have hW := hI.1.2
  obtain ⟨g1, ⟨L, hL, eL⟩, g3⟩ := hI.2.2.2.1
  rw [eL, zn_cl (by omega)] at g3
  obtain ⟨b, hb⟩ : ∃ b : Nat → Nat, b = fun j => (X 9 j).toNatClampNeg := ⟨_, rfl⟩
  have b9 : ∀ j, j < L → X 9 j = nI (b j) ∧ b j ≤ 255 := fun j hj => by rw [hb]; exact (g3 j hj).2.n (by omega)
  have b4 : ∀ j, j < L → X 104 j = nI (b j) := fun j hj => by rw [(g3 j hj).1]; exact (b9 j hj).1
  -- the class
  obtain ⟨Xt, be, Lt, Tt⟩ := zT_become hI
  have Kt : zKt Xt b L := ⟨hL, by rw [Tt 8 (by decide) (by omega)]; exact eL, fun j hj => by rw [Tt 9 (by decide) (by omega)]; exact (b9 j hj).1, fun j hj => (b9 j hj).2⟩
  obtain ⟨X0, hX0⟩ : ∃ X0 : IX, X0 = zu_st Xt 8 5 0 := ⟨_, rfl⟩
  have B0 : zB Xt X0 := by rw [hX0]; exact (zB.rf Xt).st (by omega) (by omega)
  obtain ⟨X1, o1, o2, o3⟩ := zl_readOn (p := 0) (Kt.B B0) (by rw [hX0, zs_st, if_pos ⟨rfl, rfl⟩]; rfl) (by omega)
  have E1 : zE X1 b L (zk_s b L 0) (X 96) := ⟨(Kt.B B0).B o3, o2, (Lt.B B0).B o3⟩
  obtain ⟨R, hR⟩ : ∃ R, R = zi_run b L 120 1 (zk_s b L 0) (X 96) := ⟨_, rfl⟩
  have RW := zi_run_WF (b := b) (L := L) 120 1 (zk_s b L 0) (X 96) hW (zk_s_b b (by omega)).2
  obtain ⟨X4, p1, p2, p3⟩ := zl_items (b := b) (L := L) 120 1 (zk_s b L 0) 400 X1 (X 96) (by omega) (by omega) (by omega) E1 hW (by omega)
  rw [← hR] at RW p1 p2
  have rd : fn_Read_readItems 22 Xt = some (if R.1 = true then nI R.2.1 else -1 - nI R.2.2.1, X4) := by
    unfold fn_Read_readItems fn_Tape_readFirst
    rw [zr_nx, ← hX0, o1, zr_b1, zr_b1]
    exact p1
  have F4 : zBT Xt X4 := (B0.T.tr o3.T).tr p3
  -- what the reference does from any state that holds the same
  have M : ∀ X' : IX, X' 96 = X 96 → X' 95 = X 95 → X' 104 = X 104 → ∃ Xf, fn_Mod_text X' = some (if R.1 = true then nI R.2.1 else -1 - nI R.2.2.1, Xf) ∧ (∀ k, k < 142 → Xf 96 k = if R.1 = true then R.2.2.2 k else X 96 k) ∧ Xf 95 14 = 0 ∧ ∀ a j, a ≠ 96 → a ≠ 98 → (a ≠ 95 ∨ j < 14 ∨ 18 < j) → Xf a j = X' a j := by
    intro X' e96 e95 e104
    obtain ⟨Xp, c1, c2, _, c4, c5⟩ := zl_cp_puts 142 0 400 X' (by omega) (by omega)
    have c1' : fn_Mod_puts X' = some Xp := c1
    obtain ⟨Xq, hXq⟩ : ∃ Xq : IX, Xq = zu_st (zu_st Xp 95 16 0) 95 18 0 := ⟨_, rfl⟩
    have qY : zY Xp Xq := by rw [hXq]; exact ((zY.rf Xp).st (by omega) (by omega)).st (by omega) (by omega)
    have Jt : zJt Xq b L := ⟨hL, by rw [qY 95 14 (by omega), c5 95 (by decide), e95, g1]; exact eL, fun j hj => by rw [qY 104 j (by omega), c5 104 (by decide), e104]; exact b4 j hj, fun j hj => (b9 j hj).2⟩
    obtain ⟨X5, t1, t2, t3, t4⟩ := zm_token (p := 0) Jt (by rw [hXq, zs_st, if_neg (by omega), zs_st, if_pos ⟨rfl, rfl⟩]; rfl) (by omega)
    have J5 : zJ X5 b L (zk_s b L 0) false := ⟨(zk_s_b b (by omega)).2, t2, t3, by rw [t4 95 18 (by omega), hXq, zs_st, if_pos ⟨rfl, rfl⟩]; rfl⟩
    have y5 : zY Xq X5 := fun a j q => t4 a j (by omega)
    have x96 : X5 96 = X 96 := by rw [y5.row (by decide), qY.row (by decide), c5 96 (by decide), e96]
    obtain ⟨X6, v, u1, u2, u3, u4⟩ := zm_items (b := b) (L := L) 120 1 (zk_s b L 0) 400 X5 (X 96) (by omega) (by omega) (by omega) (Jt.Y y5) J5 x96 hW (by omega)
    rw [← hR] at u2 u3
    have F6 : ∀ a j, a ≠ 96 → a ≠ 98 → (a ≠ 95 ∨ j < 15 ∨ 18 < j) → X6 a j = X' a j := fun a j q1 q2 q3 => by rw [u4 a j q1 q3, y5 a j q3, qY a j q3, c5 a q2]
    have tx : fn_Mod_text X' = fn_Mod_text_L74 v X6 := by
      unfold fn_Mod_text
      rw [c1', zr_b1, zr_nx, zr_nx, ← hXq, t1, zr_b1]
      exact u1
    have s18 : zu_st X6 95 14 0 95 18 = X6 95 18 := by rw [zs_st, if_neg (by omega)]
    rw [tx]
    unfold fn_Mod_text_L74
    rw [zr_nx, s18, u2.2.2.2]
    cases hr : R.1 with
    | true =>
      rw [hr] at u3
      obtain ⟨w1, w2⟩ := u3 rfl
      refine ⟨zu_st X6 95 14 0, ?_, fun k hk => ?_, by rw [zs_st, if_pos ⟨rfl, rfl⟩], fun a j q1 q2 q3 => by rw [zs_st, if_neg (by omega)]; exact F6 a j q1 q2 (by omega)⟩
      · rw [w2]; rfl
      · rw [zs_other _ _ _ (by decide), w1, if_pos rfl]
    | false =>
      obtain ⟨Xr, d1, d2, _, d4, d5⟩ := zl_cp_putsBack 142 0 400 (zu_st X6 95 14 0) (by omega) (by omega)
      have d1' : fn_Mod_putsBack (zu_st X6 95 14 0) = some Xr := d1
      have r15 : Xr 95 15 = nI R.2.2.1 := by rw [d5 95 (by decide), zs_st, if_neg (by omega)]; exact u2.2.1
      refine ⟨Xr, ?_, fun k hk => ?_, by rw [d5 95 (by decide), zs_st, if_pos ⟨rfl, rfl⟩], fun a j q1 q2 q3 => by rw [d5 a q1, zs_st, if_neg (by omega)]; exact F6 a j q1 q2 (by omega)⟩
      · show (if zt true = 0 then _ else _) = _
        rw [zt_t, if_neg (by decide), d1', zr_b1, r15, if_neg (by decide)]
      · rw [d2 k (by omega) hk, zs_other _ _ _ (by decide), if_neg (by decide)]
        have x98 : X6 98 k = Xp 98 k := by rw [u4 98 k (by decide) (by omega), y5 98 k (by omega), qY 98 k (by omega)]
        rw [x98, c2 k (by omega) hk, e96]
  -- both together
  have prn : ∀ i, i < 142 → zI_pr 0 i ≠ 96 ∧ zI_pr 0 i ≠ 98 ∧ zI_pr 0 i ≠ 95 ∧ zI_pr 0 i ≠ 8 := fun i hi => by
    have key : ∀ i : Fin 142, zI_pr 0 i.val ≠ 96 ∧ zI_pr 0 i.val ≠ 98 ∧ zI_pr 0 i.val ≠ 95 ∧ zI_pr 0 i.val ≠ 8 := by decide +kernel
    exact key ⟨i, hi⟩
  have imp : ∀ a j, zI_imp a j = true → zR 2 a = false ∧ (a < 1 ∨ 5 < a) ∧ a ≠ 98 ∧ (a = 8 → j = 1) ∧ (a = 95 → j = 4 ∨ j = 14) := by
    intro a j q
    have : (a < 1 ∨ 5 < a) ∧ a ≠ 98 ∧ (a = 8 → j = 1) ∧ (a = 95 → j = 4 ∨ j = 14) ∧ a ≠ 22 ∧ a ≠ 25 ∧ a ≠ 31 ∧ a ≠ 34 ∧ ¬ (85 ≤ a ∧ a < 95) := by
      unfold zI_imp at q
      simp only [Bool.or_eq_true, Bool.and_eq_true, beq_iff_eq, decide_eq_true_eq] at q
      omega
    exact ⟨zR_of (by omega) (by omega) (by omega) (by omega) (by omega), this.1, this.2.1, this.2.2.1, this.2.2.2.1⟩
  cases hr : R.1 with
  | true =>
    rw [hr, if_pos rfl] at rd
    obtain ⟨X7, f1, f2, f3⟩ := ze_become (o0 := 0) (o1 := 2) X4 (by omega) (by omega) (by omega)
    have f1' : fn_Land_become 20 22 X4 = some X7 := f1
    obtain ⟨X8, hX8⟩ : ∃ X8 : IX, X8 = zu_st X7 8 1 0 := ⟨_, rfl⟩
    have row : ∀ a, zR 0 a = false → zR 2 a = false → a ≠ 8 → (a < 1 ∨ 5 < a) → X8 a = X a := fun a q1 q2 q3 q4 => by
      rw [hX8, zs_other _ _ _ q3, f3 a q1]
      funext j
      rw [F4 a j q2 (Or.inl q3), Tt a q2 q4]
    obtain ⟨Xf, m1, m2, m3, m4⟩ := M X8 (row 96 (by decide) (by decide) (by decide) (by omega)) (row 95 (by decide) (by decide) (by decide) (by omega)) (row 104 (by decide) (by decide) (by decide) (by omega))
    rw [hr, if_pos rfl] at m1
    refine ⟨nI R.2.1, X8, Xf, ?_, m1, ?_⟩
    · unfold fn_Post_text fn_Post_text_L38
      have := RW.2.2
      rw [be, zr_b1, rd, zr_b2, if_neg (nI_pos (by omega)), f1', zr_b1, zr_nx, ← hX8]
    · refine zI_emptied hI (S := R.2.2.2) (fun k hk => ?_) (fun k hk => by rw [m2 k hk, hr, if_pos rfl]) RW.1 ?_ m3 (fun a j q1 q2 q3 q4 q5 => ?_)
      · have w := prn k hk
        rw [m4 _ _ w.1 w.2.1 (Or.inl w.2.2.1), hX8, zs_other _ _ _ w.2.2.2, f2 k hk]
        exact p2 hr k hk
      · rw [m4 8 1 (by decide) (by decide) (by omega), hX8, zs_st, if_pos ⟨rfl, rfl⟩]
      · have w := imp a j q1
        have a8 : a ≠ 8 := fun e => q4 ⟨e, w.2.2.2.1 e⟩
        rw [m4 a j q3 w.2.2.1 (by omega), row a q2 w.1 a8 w.2.1]
  | false =>
    rw [hr, if_neg (show ¬ false = true by decide)] at rd
    obtain ⟨X8, hX8⟩ : ∃ X8 : IX, X8 = zu_st X4 8 1 0 := ⟨_, rfl⟩
    have row : ∀ a, zR 2 a = false → a ≠ 8 → (a < 1 ∨ 5 < a) → X8 a = X a := fun a q2 q3 q4 => by
      rw [hX8, zs_other _ _ _ q3]
      funext j
      rw [F4 a j q2 (Or.inl q3), Tt a q2 q4]
    obtain ⟨Xf, m1, m2, m3, m4⟩ := M X8 (row 96 (by decide) (by decide) (by omega)) (row 95 (by decide) (by decide) (by omega)) (row 104 (by decide) (by decide) (by omega))
    rw [hr, if_neg (show ¬ false = true by decide)] at m1
    refine ⟨-1 - nI R.2.2.1, X8, Xf, ?_, m1, ?_⟩
    · have neg : (-1 : Int32) - nI R.2.2.1 < 0 := by
        have bd := RW.2.1
        have key : ∀ i : Fin 121, (-1 : Int32) - nI i.val < 0 := by decide +kernel
        exact key ⟨R.2.2.1, by omega⟩
      unfold fn_Post_text fn_Post_text_L38
      rw [be, zr_b1, rd, zr_b2, if_pos neg, zr_nx, ← hX8]
    · refine zI_emptied hI (S := X 96) (fun k hk => ?_) (fun k hk => by rw [m2 k hk, hr, if_neg (show ¬ false = true by decide)]) hW ?_ m3 (fun a j q1 q2 q3 q4 q5 => ?_)
      · have w := prn k hk
        have w2 := zR2_pr0 k hk
        rw [m4 _ _ w.1 w.2.1 (Or.inl w.2.2.1), row _ w2.1 w.2.2.2 (Or.inr w2.2)]
        exact hI.1.1 k hk
      · rw [m4 8 1 (by decide) (by decide) (by omega), hX8, zs_st, if_pos ⟨rfl, rfl⟩]
      · have w := imp a j q1
        have a8 : a ≠ 8 := fun e => q4 ⟨e, w.2.2.2.1 e⟩
        rw [m4 a j q3 w.2.2.1 (by omega), row a w.1 a8 w.2.1]
