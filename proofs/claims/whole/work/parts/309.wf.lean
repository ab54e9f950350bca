/-- what the k-th number of a land must be -/
def zk_f (n0 f : Nat) (x : Int32) : Prop := match f with
  | 0 => zI_le x 6
  | 1 => zI_le x 23
  | 2 => zI_le x 9 ∧ 1 ≤ x.toNatClampNeg
  | 3 => zI_le x 12 ∧ 1 ≤ x.toNatClampNeg
  | 4 => zI_le x 1
  | 5 => zI_le x 12
  | 6 => zI_le x 1
  | 7 => zI_le x 1
  | _ => zI_le x (12 * n0)
def zk_ok (n0 n1 n2 k : Nat) (x : Int32) : Prop := if k = 3 then zI_le x 23 else if k = 4 then zI_le x 9 else if k = 5 then True else if k < 30 then zI_le x 3 else if k < 120 then ((k - 30) / 9 < n1 → zk_f n0 ((k - 30) % 9) x) else if k < 132 then (k - 120 < n2 → zI_le x 23) else (x = -1 ∨ ∃ n, n < n1 ∧ x = nI n)
theorem zk_fact {n0 n1 n2 t f : Nat} {x : Int32} (ht : t < 10) (hf : f < 9) : zk_ok n0 n1 n2 (30 + 9 * t + f) x ↔ (t < n1 → zk_f n0 f x) := by
  unfold zk_ok
  rw [if_neg (by omega), if_neg (by omega), if_neg (by omega), if_neg (by omega), if_pos (by omega)]
  rw [show (30 + 9 * t + f - 30) / 9 = t by omega, show (30 + 9 * t + f - 30) % 9 = f by omega]
theorem zk_stuff {n0 n1 n2 c v : Nat} (hc : c < 24) (hv : v ≤ 3) : zk_ok n0 n1 n2 (6 + c) (nI v) := by
  unfold zk_ok
  rw [if_neg (by omega), if_neg (by omega), if_neg (by omega), if_pos (by omega)]
  exact zI_le.of hv
theorem zk_let {n0 n1 n2 i : Nat} {x : Int32} (hi : i < 12) : zk_ok n0 n1 n2 (120 + i) x ↔ (i < n2 → zI_le x 23) := by
  unfold zk_ok
  rw [if_neg (by omega), if_neg (by omega), if_neg (by omega), if_neg (by omega), if_neg (by omega), if_pos (by omega), show 120 + i - 120 = i by omega]
theorem zk_spot {n0 n1 n2 q : Nat} {x : Int32} (_hq : q < 10) : zk_ok n0 n1 n2 (132 + q) x ↔ (x = -1 ∨ ∃ n, n < n1 ∧ x = nI n) := by
  unfold zk_ok
  rw [if_neg (by omega), if_neg (by omega), if_neg (by omega), if_neg (by omega), if_neg (by omega), if_neg (by omega)]
theorem zW_upd {S : Nat → Int32} (h : zI_WF S) {k : Nat} {v : Int32} (hk : 3 ≤ k) (hk2 : k < 142) (ok : zk_ok (zN S 0) (zN S 1) (zN S 2) k v) (hd : ∀ t u, t < zN S 1 → u < zN S 1 → upd S k v (30 + 9 * t + 1) = upd S k v (30 + 9 * u + 1) → t = u) : zI_WF (upd S k v) := by
  obtain ⟨h0, h1, h2, h3, h4, h5, h6, h7, h8, h9⟩ := h
  have e : ∀ i, i ≠ k → upd S k v i = S i := fun i hi => pk_un hi
  have eN : ∀ i, i ≠ k → zN (upd S k v) i = zN S i := fun i hi => by unfold zN; rw [e i hi]
  have n1 := (h1.n (by omega)).2
  have n2 := (h2.n (by omega)).2
  refine ⟨by rw [e 0 (by omega)]; exact h0, by rw [e 1 (by omega)]; exact h1, by rw [e 2 (by omega)]; exact h2, ?_, ?_, fun i hi => ?_, fun t ht => ?_, fun i hi => ?_, fun q hq => ?_, fun t u ht hu => ?_⟩
  · by_cases q : 3 = k
    · subst q; rw [pk_us]; exact ok
    · rw [e _ q]; exact h3
  · by_cases q : 4 = k
    · subst q; rw [pk_us]; exact ok
    · rw [e _ q]; exact h4
  · by_cases q : 6 + i = k
    · subst q
      rw [pk_us]
      unfold zk_ok at ok
      rwa [if_neg (by omega), if_neg (by omega), if_neg (by omega), if_pos (by omega)] at ok
    · rw [e _ q]; exact h5 i hi
  · rw [eN 1 (by omega)] at ht
    have ht10 : t < 10 := by unfold zN at ht; omega
    have key : ∀ f, f < 9 → zk_f (zN S 0) f (upd S k v (30 + 9 * t + f)) := by
      intro f hf
      by_cases q : 30 + 9 * t + f = k
      · subst q
        rw [pk_us]
        exact (zk_fact ht10 hf).mp ok ht
      · rw [e _ q]
        obtain ⟨a0, a1, a2, a3, a4, a5, a6, a7, a8⟩ := h6 t ht
        rcases (show f = 0 ∨ f = 1 ∨ f = 2 ∨ f = 3 ∨ f = 4 ∨ f = 5 ∨ f = 6 ∨ f = 7 ∨ f = 8 by omega) with rfl | rfl | rfl | rfl | rfl | rfl | rfl | rfl | rfl
        · exact a0
        · exact a1
        · exact a2
        · exact a3
        · exact a4
        · exact a5
        · exact a6
        · exact a7
        · exact a8
    unfold zI_th
    rw [eN 0 (by omega)]
    exact ⟨key 0 (by omega), key 1 (by omega), key 2 (by omega), key 3 (by omega), key 4 (by omega), key 5 (by omega), key 6 (by omega), key 7 (by omega), key 8 (by omega)⟩
  · rw [eN 2 (by omega)] at hi
    have hi12 : i < 12 := by unfold zN at hi; omega
    by_cases q : 120 + i = k
    · subst q; rw [pk_us]; exact (zk_let hi12).mp ok hi
    · rw [e _ q]; exact h7 i hi
  · rw [eN 1 (by omega)]
    by_cases q2 : 132 + q = k
    · subst q2; rw [pk_us]; exact (zk_spot hq).mp ok
    · rw [e _ q2]; exact h8 q hq
  · rw [eN 1 (by omega)] at ht hu
    exact hd t u ht hu
theorem zd_no {S : Nat → Int32} (h : zI_WF S) {k : Nat} {v : Int32} (hk2 : k < 142) (hn : ∀ t, t < 10 → k ≠ 30 + 9 * t + 1) : ∀ t u, t < zN S 1 → u < zN S 1 → upd S k v (30 + 9 * t + 1) = upd S k v (30 + 9 * u + 1) → t = u := by
  intro t u ht hu q
  have n1 := (h.2.1.n (by omega)).2
  unfold zN at ht hu
  rw [pk_un (Ne.symm (hn t (by omega))), pk_un (Ne.symm (hn u (by omega)))] at q
  exact h.2.2.2.2.2.2.2.2.2 t u ht hu q
