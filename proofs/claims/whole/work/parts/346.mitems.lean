/-! the reference reads items -/
def zYU (X X' : IX) : Prop := ∀ a j, a ≠ 96 → (a ≠ 95 ∨ j < 15 ∨ 18 < j) → X' a j = X a j
theorem zYU.rf (X : IX) : zYU X X := fun _ _ _ _ => rfl
theorem zYU.tr {X Y Z : IX} (h : zYU X Y) (h2 : zYU Y Z) : zYU X Z := fun a j q w => (h2 a j q w).trans (h a j q w)
theorem zY.U {X Y : IX} (h : zY X Y) : zYU X Y := fun a j _ w => h a j w
theorem zYU.R {X Y : IX} (h : ∀ a, a ≠ 96 → Y a = X a) : zYU X Y := fun a j q _ => by rw [h a q]
theorem zJt.U {X X' : IX} {b : Nat → Nat} {L : Nat} (h : zJt X b L) (q : zYU X X') : zJt X' b L := h.cg (q 95 14 (by omega) (by omega)) (funext fun j => q 104 j (by omega) (by omega))
theorem zJ.o {X X' : IX} {b : Nat → Nat} {L s : Nat} {w : Bool} (h : zJ X b L s w) (e : X' 95 = X 95) : zJ X' b L s w := by
  unfold zJ at h ⊢
  rw [e]
  exact h
theorem zf_w (x : Bool) : ¬ (!true && x) = true := by cases x <;> decide
theorem zm_is {b : Nat → Nat} {L s : Nat} {w : Bool} {X : IX} (hX : zJt X b L) (hJ : zJ X b L s w) : ∃ v, fn_Mod_word X = some v ∧ ∀ r, r < 20 → ∀ {α : Type} (x y : α), (if lg_cmp v (lN (zk_cd r)) = 0 then x else y) = if (!w && zk_is b L s r) = true then x else y := by
  obtain ⟨v, h1, h2⟩ := zm_word hX hJ
  refine ⟨v, h1, fun r hr α x y => ?_⟩
  by_cases q : (!w && zk_is b L s r) = true
  · rw [if_pos ((h2 r hr).mpr q), if_pos q]
  · rw [if_neg (fun z => q ((h2 r hr).mp z)), if_neg q]
theorem zm_st_ {b : Nat → Nat} {L s : Nat} {w : Bool} {X : IX} (hX : zJt X b L) (hJ : zJ X b L s w) : fn_Mod_stuffHere X = some (zO (if w = true then none else zi_st b L s)) := by
  obtain ⟨v, h1, h2⟩ := zm_is hX hJ
  have q3 := fun (x y : Option Int32) => h2 3 (by omega) x y
  have q4 := fun (x y : Option Int32) => h2 4 (by omega) x y
  have q5 := fun (x y : Option Int32) => h2 5 (by omega) x y
  have q6 := fun (x y : Option Int32) => h2 6 (by omega) x y
  have q3' : ∀ x y : Option Int32, (if lg_cmp v (7931507 : Int64) = 0 then x else y) = _ := q3
  have q4' : ∀ x y : Option Int32, (if lg_cmp v (2702827 : Int64) = 0 then x else y) = _ := q4
  have q5' : ∀ x y : Option Int32, (if lg_cmp v (8556773 : Int64) = 0 then x else y) = _ := q5
  have q6' : ∀ x y : Option Int32, (if lg_cmp v (605220 : Int64) = 0 then x else y) = _ := q6
  unfold fn_Mod_stuffHere fn_Mod_stuffHere_L54 zi_st
  rw [h1, zr_b1, q3', q4', q5', q6']
  cases w with
  | true => rfl
  | false => cases zk_is b L s 3 <;> cases zk_is b L s 4 <;> cases zk_is b L s 5 <;> cases zk_is b L s 6 <;> rfl
theorem zm_kd_ {b : Nat → Nat} {L s : Nat} {w : Bool} {X : IX} (hX : zJt X b L) (hJ : zJ X b L s w) : fn_Mod_kindHere X = some (zO (if w = true then none else zi_kd b L s)) := by
  obtain ⟨v, h1, h2⟩ := zm_is hX hJ
  have q7 : ∀ x y : Option Int32, (if lg_cmp v (21762661554 : Int64) = 0 then x else y) = _ := fun x y => h2 7 (by omega) x y
  have q8 : ∀ x y : Option Int32, (if lg_cmp v (659111367 : Int64) = 0 then x else y) = _ := fun x y => h2 8 (by omega) x y
  have q9 : ∀ x y : Option Int32, (if lg_cmp v (20186489 : Int64) = 0 then x else y) = _ := fun x y => h2 9 (by omega) x y
  have q10 : ∀ x y : Option Int32, (if lg_cmp v (7636436 : Int64) = 0 then x else y) = _ := fun x y => h2 10 (by omega) x y
  have q11 : ∀ x y : Option Int32, (if lg_cmp v (2500036 : Int64) = 0 then x else y) = _ := fun x y => h2 11 (by omega) x y
  have q12 : ∀ x y : Option Int32, (if lg_cmp v (15748 : Int64) = 0 then x else y) = _ := fun x y => h2 12 (by omega) x y
  have q13 : ∀ x y : Option Int32, (if lg_cmp v (12324 : Int64) = 0 then x else y) = _ := fun x y => h2 13 (by omega) x y
  unfold fn_Mod_kindHere fn_Mod_kindHere_L91 zi_kd
  rw [h1, zr_b1, q7, q8, q9, q10, q11, q12, q13]
  cases w with
  | true => rfl
  | false =>
    cases zk_is b L s 7 with
    | true => rfl
    | false =>
      cases zk_is b L s 8 with
      | true => rfl
      | false =>
        cases zk_is b L s 9 with
        | true => rfl
        | false =>
          cases zk_is b L s 10 with
          | true => rfl
          | false =>
            cases zk_is b L s 11 with
            | true => rfl
            | false =>
              cases zk_is b L s 12 with
              | true => rfl
              | false => cases zk_is b L s 13 <;> rfl
theorem zm_p0 (lo hi dv : Int32) (X : IX) : fn_Mod_perhaps (0 : Int32) lo hi dv X = some (dv, X) := by
  unfold fn_Mod_perhaps
  rw [if_pos rfl]
/-! stuff -/
theorem zm_fill {v hi : Nat} (hh : hi ≤ 23) : ∀ (d c n : Nat) (X : IX) (T : Nat → Int32), c + d = hi + 1 → d < n → X 96 = T → X 95 18 = 0 → ∃ X', fn_Mod_stuffItem_L45 n (nI v) (nI hi) (nI c) X = some X' ∧ X' 96 = zi_fill T v c hi ∧ ∀ a, a ≠ 96 → X' a = X a := by
  intro d
  induction d with
  | zero =>
    intro c n X T hc hd e _
    obtain ⟨m, rfl⟩ : ∃ m, n = m + 1 := ⟨n - 1, by omega⟩
    obtain rfl : c = hi + 1 := by omega
    refine ⟨X, ?_, by rw [zi_fill_0]; exact e, fun _ _ => rfl⟩
    show fn_Mod_stuffItem_B45 _ _ _ _ _ = _
    unfold fn_Mod_stuffItem_B45 fn_Mod_stuffItem_L75
    rw [if_pos ((nI_ltI (by omega) (by omega)).mpr (by omega))]
  | succ d ih =>
    intro c n X T hc hd e h18
    obtain ⟨m, rfl⟩ : ∃ m, n = m + 1 := ⟨n - 1, by omega⟩
    have e6 : (6 : Int32) + nI c = nI (6 + c) := nI_add 6 c
    obtain ⟨X', q1, q2, q3⟩ := ih (c + 1) m (zu_st X 96 (6 + c) (nI v)) (upd T (6 + c) (nI v)) (by omega) (by omega) (by rw [zs_row, e]) (by rw [zs_other _ _ _ (by decide)]; exact h18)
    rw [zi_fill_s T v (by omega)] at q2
    refine ⟨X', ?_, q2, fun a ha => by rw [q3 a ha, zs_other _ _ _ ha]⟩
    rw [← q1]
    show fn_Mod_stuffItem_B45 (fn_Mod_stuffItem_L45 m) _ _ _ _ = _
    unfold fn_Mod_stuffItem_B45
    rw [if_neg (nI_nlt (by omega) (by omega)), h18, if_pos rfl, e6, zn_ib (show 6 + c < 142 by omega) (by decide), zr_gd, zr_nx, zr_nx, nI_1, zn_cl (by omega)]
theorem zm_fillw {X : IX} {n : Nat} (hn : 0 < n) (h : X 95 18 = 1) (a x y : Int32) : fn_Mod_stuffItem_L45 n a x y X = some X := by
  obtain ⟨m, rfl⟩ : ∃ m, n = m + 1 := ⟨n - 1, by omega⟩
  show fn_Mod_stuffItem_B45 _ _ _ _ _ = _
  unfold fn_Mod_stuffItem_B45 fn_Mod_stuffItem_L75
  rw [h, if_neg (show ¬ (1 : Int32) = 0 by decide)]
  split <;> rfl
theorem zm_stuff {b : Nat → Nat} {L s v : Nat} {X : IX} {S : Nat → Int32} (hX : zJt X b L) (hJ : zJ X b L s false) (e96 : X 96 = S) : ∃ X', fn_Mod_stuffItem (nI v) X = some X' ∧ zJ X' b L (zi_stuff b L s S v).2.1 (!(zi_stuff b L s S v).1) ∧ ((zi_stuff b L s S v).1 = true → X' 96 = (zi_stuff b L s S v).2.2) ∧ zYU X X' := by
  obtain ⟨X1, a1, a2, a3, _⟩ := zm_needs hX hJ true
  rw [zt_t] at a1
  have a2' : zJ X1 b L (zk_n b L s) false := a2
  have X1t := hX.Y a3
  obtain ⟨X3, b1, b2, b3, b4⟩ := zm_number (lo := 0) (hi := 23) X1t a2' (by omega) (by omega)
  have X3t := X1t.Y b3
  have b1' : fn_Mod_number (0 : Int32) (23 : Int32) X1 = some X3 := b1
  have F3 : zY X X3 := a3.tr b3
  have x96 : X3 96 = S := by rw [F3.row (by decide)]; exact e96
  unfold fn_Mod_stuffItem fn_Mod_stuffItem_L34 zi_stuff
  rw [a1, zr_b1, b1', zr_b1, zr_nx]
  cases hn : zk_num b L (zk_n b L s) 0 23 with
  | false =>
    rw [hn] at b2
    have b2' : zJ X3 b L (zk_n b L s) true := b2
    obtain ⟨wv, w1, w2⟩ := zm_is X3t b2'
    have w14 : ∀ x y : Option IX, (if lg_cmp wv (655 : Int64) = 0 then x else y) = _ := fun x y => w2 14 (by omega) x y
    refine ⟨X3, ?_, b2', fun z => (by cases z), F3.U⟩
    rw [w1, zr_b1, w14, if_neg (zf_w _), zm_p0, zr_b2]
    exact zm_fillw (by omega) b2'.2.2.2 _ _ _
  | true =>
    have v1 := zk_num_v hn
    rw [hn] at b2 b4
    have b2' : zJ X3 b L (zk_n b L (zk_n b L s)) false := b2
    obtain ⟨wv, w1, w2⟩ := zm_is X3t b2'
    have w14 : ∀ x y : Option IX, (if lg_cmp wv (655 : Int64) = 0 then x else y) = _ := fun x y => w2 14 (by omega) x y
    have w14' : ∀ x y : Option IX, (if lg_cmp wv (655 : Int64) = 0 then x else y) = if zk_is b L (zk_n b L (zk_n b L s)) 14 = true then x else y := w14
    rw [b4 rfl, if_pos rfl, w1, zr_b1, w14']
    cases hw : zk_is b L (zk_n b L (zk_n b L s)) 14 with
    | false =>
      obtain ⟨X', q1, q2, q3⟩ := zm_fill (v := v) (hi := zk_v b L (zk_n b L s)) v1.2.2 1 (zk_v b L (zk_n b L s)) 400 X3 S (by omega) (by omega) x96 b2'.2.2.2
      refine ⟨X', ?_, b2'.o (q3 95 (by decide)), fun _ => q2, F3.U.tr (zYU.R q3)⟩
      rw [if_neg (by decide), zm_p0, zr_b2]
      exact q1
    | true =>
      obtain ⟨X4, x, c1, c2, c3, c4⟩ := zm_perhaps (lo := zk_v b L (zk_n b L s)) (hi := 23) X3t b2' (by omega) (by omega) (nI (zk_v b L (zk_n b L s)))
      have c1' : fn_Mod_perhaps (1 : Int32) (nI (zk_v b L (zk_n b L s))) (23 : Int32) (nI (zk_v b L (zk_n b L s))) X3 = some (x, X4) := c1
      rw [if_pos rfl, if_pos rfl, c1', zr_b2]
      cases hm : zk_num b L (zk_n b L (zk_n b L (zk_n b L s))) (zk_v b L (zk_n b L s)) 23 with
      | false =>
        rw [hm] at c2
        have c2' : zJ X4 b L (zk_n b L (zk_n b L (zk_n b L s))) true := c2
        exact ⟨X4, zm_fillw (by omega) c2'.2.2.2 _ _ _, c2', fun z => (by cases z), (F3.tr c3).U⟩
      | true =>
        have v3 := zk_num_v hm
        rw [hm] at c2
        have c2' : zJ X4 b L (zk_n b L (zk_n b L (zk_n b L (zk_n b L s)))) false := c2
        rw [c4 hm]
        obtain ⟨X', q1, q2, q3⟩ := zm_fill (v := v) (hi := zk_v b L (zk_n b L (zk_n b L (zk_n b L s)))) v3.2.2 (zk_v b L (zk_n b L (zk_n b L (zk_n b L s))) + 1 - zk_v b L (zk_n b L s)) (zk_v b L (zk_n b L s)) 400 X4 S (by omega) (by omega) (by rw [c3.row (by decide)]; exact x96) c2'.2.2.2
        exact ⟨X', q1, c2'.o (q3 95 (by decide)), fun _ => q2, (F3.tr c3).U.tr (zYU.R q3)⟩
/-! home, fetch, letters -/
theorem zm_set {b : Nat → Nat} {L s hi k : Nat} {X : IX} {S : Nat → Int32} (hX : zJt X b L) (hJ : zJ X b L s false) (e96 : X 96 = S) (hh : hi < 1000) : ∃ X' x, fn_Mod_perhaps (zt true) (nI 0) (nI hi) 0 X = some (x, X') ∧ zJ (zu_st X' 96 k x) b L (zi_set b L s S hi k).2.1 (!(zi_set b L s S hi k).1) ∧ ((zi_set b L s S hi k).1 = true → zu_st X' 96 k x 96 = (zi_set b L s S hi k).2.2) ∧ zYU X (zu_st X' 96 k x) := by
  obtain ⟨X4, x, c1, c2, c3, c4⟩ := zm_perhaps (lo := 0) (hi := hi) hX hJ (by omega) hh 0
  have fr : zYU X (zu_st X4 96 k x) := c3.U.tr (zYU.R (fun a ha => zs_other _ _ _ ha))
  refine ⟨X4, x, c1, ?_, ?_, fr⟩
  · refine zJ.o ?_ (zs_other _ _ _ (by decide))
    unfold zi_set
    cases hm : zk_num b L (zk_n b L s) 0 hi with
    | false => rw [hm] at c2; exact c2
    | true => rw [hm] at c2; exact c2
  · unfold zi_set
    cases hm : zk_num b L (zk_n b L s) 0 hi with
    | false => exact fun z => (by cases z)
    | true =>
      intro _
      rw [zs_row, c3.row (by decide), e96, c4 hm]
      rfl
theorem zm_letter {b : Nat → Nat} {L s : Nat} {w : Bool} {X : IX} {S : Nat → Int32} (hX : zJt X b L) (hJ : zJ X b L s w) (e96 : X 96 = S) (hW : zI_WF S) (h12 : ¬ 12 ≤ zN S 2) : ∃ X', fn_Mod_letterItem X = some X' ∧ zJ X' b L (if (!w && zk_is b L s 2) = true then (zi_let b L s S).2.1 else s) (if (!w && zk_is b L s 2) = true then !(zi_let b L s S).1 else true) ∧ ((!w && zk_is b L s 2) = true → (zi_let b L s S).1 = true → X' 96 = (zi_let b L s S).2.2) ∧ zYU X X' := by
  have n2 := zW_2 hW
  obtain ⟨wv, w1, w2⟩ := zm_is hX hJ
  have wl : ∀ x y : Option IX, (if lg_cmp wv (408572082 : Int64) = 0 then x else y) = _ := fun x y => w2 2 (by omega) x y
  unfold fn_Mod_letterItem fn_Mod_letterItem_L17 fn_Mod_letterItem_L34 fn_Mod_letterItem_L69
  rw [w1, zr_b1, wl]
  cases hq : (!w && zk_is b L s 2) with
  | false =>
    obtain ⟨X4, a1, a2, a3, _⟩ := zm_needs hX hJ false
    rw [zt_f] at a1
    have a2' : zJ X4 b L s true := by
      have : zJ X4 b L (zk_go b L s w false) (w || true) := a2
      rw [Bool.or_true] at this
      unfold zk_go at this
      rw [if_pos (by rw [Bool.not_false, Bool.or_true])] at this
      exact this
    rw [if_neg (by decide), a1, zr_b1, a2'.2.2.2, zt_t, if_neg (by decide), if_neg (by decide)]
    exact ⟨X4, rfl, a2', fun z => (by cases z), a3.U⟩
  | true =>
    have hw : w = false := by cases w <;> simp_all
    subst hw
    obtain ⟨X4, a1, a2, a3, _⟩ := zm_needs hX hJ true
    rw [zt_t] at a1
    have a2' : zJ X4 b L (zk_n b L s) false := a2
    obtain ⟨X7, b1, b2, b3, b4⟩ := zm_number (lo := 0) (hi := 23) (hX.Y a3) a2' (by omega) (by omega)
    have b1' : fn_Mod_number (0 : Int32) (23 : Int32) X4 = some X7 := b1
    have F7 : zY X X7 := a3.tr b3
    have x96 : X7 96 = S := by rw [F7.row (by decide)]; exact e96
    rw [if_pos rfl, a1, zr_b1, a2'.2.2.2, zt_f, if_pos rfl, b1', zr_b1]
    unfold zi_let
    rw [if_neg h12]
    cases hn : zk_num b L (zk_n b L s) 0 23 with
    | false =>
      rw [hn] at b2
      have b2' : zJ X7 b L (zk_n b L s) true := b2
      rw [b2'.2.2.2, zt_t, if_neg (by decide)]
      exact ⟨X7, rfl, b2', fun _ z => (by cases z), F7.U⟩
    | true =>
      rw [hn] at b2 b4
      have b2' : zJ X7 b L (zk_n b L (zk_n b L s)) false := b2
      have e6 : (120 : Int32) + nI (zN S 2) = nI (120 + zN S 2) := nI_add 120 _
      rw [b2'.2.2.2, zt_f, if_pos rfl, x96, n2.1, e6, zn_ib (show 120 + zN S 2 < 142 by omega) (by decide), zr_gd, zr_nx, zr_nx, zn_cl (by omega), b4 rfl]
      obtain ⟨Xa, hXa⟩ : ∃ Xa : IX, Xa = zu_st X7 96 (120 + zN S 2) (nI (zk_v b L (zk_n b L s))) := ⟨_, rfl⟩
      have a6 : Xa 96 2 = nI (zN S 2) := by rw [hXa, zs_st, if_neg (by omega), x96]; exact n2.1
      rw [← hXa, a6, nI_1]
      refine ⟨zu_st Xa 96 2 (nI (zN S 2 + 1)), rfl, ?_, fun _ _ => ?_, F7.U.tr (zYU.R (fun a ha => by rw [zs_other _ _ _ ha, hXa, zs_other _ _ _ ha]))⟩
      · exact b2'.o (by rw [zs_other _ _ _ (by decide), hXa, zs_other _ _ _ (by decide)])
      · rw [zs_row, hXa, zs_row, x96]
        rfl
/-! throwers -/
theorem zm_ph {b : Nat → Nat} {L s r lo hi dv : Nat} {X : IX} (hX : zJt X b L) (hJ : zJ X b L s false) (hlo : lo < 1000) (hhi : hi < 1000) : ∃ X' x, fn_Mod_perhaps (zt (zk_is b L s r)) (nI lo) (nI hi) (nI dv) X = some (x, X') ∧ zJ X' b L (zi_ph b L s r lo hi dv).2.1 (!(zi_ph b L s r lo hi dv).1) ∧ zY X X' ∧ ((zi_ph b L s r lo hi dv).1 = true → x = nI (zi_ph b L s r lo hi dv).2.2) := by
  unfold zi_ph
  cases hw : zk_is b L s r with
  | false => exact ⟨X, nI dv, rfl, hJ, zY.rf X, fun _ => rfl⟩
  | true =>
    obtain ⟨X4, x, c1, c2, c3, c4⟩ := zm_perhaps (lo := lo) (hi := hi) hX hJ hlo hhi (nI dv)
    rw [if_pos rfl]
    cases hm : zk_num b L (zk_n b L s) lo hi with
    | false => rw [hm] at c2; exact ⟨X4, x, c1, c2, c3, fun z => (by cases z)⟩
    | true => rw [hm] at c2; exact ⟨X4, x, c1, c2, c3, fun _ => c4 hm⟩
/-- once wrong, nothing more is done -/
theorem zm_w155 {X : IX} (h : X 95 18 = 1) (a c d e f g : Int32) : fn_Mod_throwerItem_L155 a c d e f g X = some X := by
  unfold fn_Mod_throwerItem_L155 fn_Mod_throwerItem_L229
  rw [h, if_neg (by decide)]
theorem zm_w117 {b : Nat → Nat} {L s : Nat} {X : IX} (hX : zJt X b L) (hJ : zJ X b L s true) (a c d e : Int32) : fn_Mod_throwerItem_L117 a c d e 0 X = some X := by
  obtain ⟨wv, w1, w2⟩ := zm_is hX hJ
  have wl : ∀ x y : Option IX, (if lg_cmp wv (759412 : Int64) = 0 then x else y) = _ := fun x y => w2 19 (by omega) x y
  unfold fn_Mod_throwerItem_L117 fn_Mod_throwerItem_L143
  rw [zm_p0, zr_b2, w1, zr_b1, wl, if_neg (zf_w _), if_pos rfl]
  exact zm_w155 hJ.2.2.2 _ _ _ _ _ _
theorem zm_w91 {b : Nat → Nat} {L s : Nat} {X : IX} (hX : zJt X b L) (hJ : zJ X b L s true) (a c d : Int32) : fn_Mod_throwerItem_L91 a c d 0 X = some X := by
  obtain ⟨wv, w1, w2⟩ := zm_is hX hJ
  have wl : ∀ x y : Option IX, (if lg_cmp wv (495763 : Int64) = 0 then x else y) = _ := fun x y => w2 18 (by omega) x y
  unfold fn_Mod_throwerItem_L91
  rw [zm_p0, zr_b2, w1, zr_b1, wl, if_neg (zf_w _)]
  exact zm_w117 hX hJ _ _ _ _
theorem zm_w66 {b : Nat → Nat} {L s : Nat} {X : IX} (hX : zJt X b L) (hJ : zJ X b L s true) (a c : Int32) : fn_Mod_throwerItem_L66 a c 0 X = some X := by
  obtain ⟨wv, w1, w2⟩ := zm_is hX hJ
  have wl : ∀ x y : Option IX, (if lg_cmp wv (6194 : Int64) = 0 then x else y) = _ := fun x y => w2 17 (by omega) x y
  unfold fn_Mod_throwerItem_L66
  rw [zm_p0, zr_b2, w1, zr_b1, wl, if_neg (zf_w _)]
  exact zm_w91 hX hJ _ _ _
theorem zk_go_w (b : Nat → Nat) (L s : Nat) (a : Bool) : zk_go b L s true a = s := by unfold zk_go; rfl
theorem zm_w37 {b : Nat → Nat} {L s : Nat} {w a : Bool} {X : IX} {S : Nat → Int32} (hX : zJt X b L) (hJ : zJ X b L s w) (e96 : X 96 = S) (hW : zI_WF S) (hwa : (w || !a) = true) (k : Int32) : ∃ X', fn_Mod_throwerItem_L37 k (zt a) X = some X' ∧ zJ X' b L s true ∧ zYU X X' := by
  obtain ⟨X7, a1, a2, a3, _⟩ := zm_needs hX hJ a
  unfold zk_go at a2
  rw [if_pos hwa, hwa] at a2
  obtain ⟨X9, b1, b2, b3, _⟩ := zm_free (S := S) (hX.Y a3) a2 (by rw [a3.row (by decide)]; exact e96) hW
  rw [zk_go_w] at b2
  have b2' : zJ X9 b L s true := b2
  have X9t := (hX.Y a3).Y b3
  obtain ⟨wv, w1, w2⟩ := zm_is X9t b2'
  have wl : ∀ x y : Option IX, (if lg_cmp wv (463922 : Int64) = 0 then x else y) = _ := fun x y => w2 16 (by omega) x y
  unfold fn_Mod_throwerItem_L37
  rw [a1, zr_b1, b1, zr_b1, zr_nx, w1, zr_b1, wl, if_neg (zf_w _)]
  exact ⟨X9, zm_w66 X9t b2' _ _, b2', (a3.tr b3).U⟩
theorem zm_t155 {X : IX} {S : Nat → Int32} (e96 : X 96 = S) (hW : zI_WF S) {n : Nat} (en : n = zN S 1) (hn : n < 10) (h18 : X 95 18 = 0) (k c : Nat) (x3 x4 x5 : Int32) (we : Bool) : ∃ X', fn_Mod_throwerItem_L155 (nI k) (nI c) x3 x4 x5 (zt we) X = some X' ∧ X' 96 = upd (upd (upd (upd (zS_nt S n k c) (30 + 9 * n + 2) x3) (30 + 9 * n + 3) x4) (30 + 9 * n + 5) x5) (30 + 9 * n + 4) (if we = true then 0 else 1) ∧ ∀ a, a ≠ 96 → X' a = X a := by
  obtain ⟨Xn, a1, a2, a3⟩ := zl_add_M e96 hW en hn k c
  have e2 : fn_Mod_at (nI n) (2 : Int32) = nI (30 + 9 * n + 2) := ze_at n 2
  have e3 : fn_Mod_at (nI n) (3 : Int32) = nI (30 + 9 * n + 3) := ze_at n 3
  have e4 : fn_Mod_at (nI n) (4 : Int32) = nI (30 + 9 * n + 4) := ze_at n 4
  have e5 : fn_Mod_at (nI n) (5 : Int32) = nI (30 + 9 * n + 5) := ze_at n 5
  have ib : ∀ f, f < 9 → zu_ib (nI (30 + 9 * n + f)) 142 = true := fun f hf => zn_ib (by omega) (by decide)
  have cl : ∀ f, f < 9 → (nI (30 + 9 * n + f)).toNatClampNeg = 30 + 9 * n + f := fun f hf => zn_cl (by omega)
  unfold fn_Mod_throwerItem_L155 fn_Mod_throwerItem_L228 fn_Mod_throwerItem_L229
  rw [h18, if_pos rfl, a1, zr_b2, e2, e3, e4, e5, zr_nx, ib 2 (by omega), zr_gd, zr_nx, zr_nx, ib 3 (by omega), zr_gd, zr_nx, zr_nx, ib 5 (by omega), zr_gd, zr_nx, zr_nx, ib 4 (by omega), zr_gd, zr_gd, zr_nx, zr_nx, cl 2 (by omega), cl 3 (by omega), cl 4 (by omega), cl 5 (by omega)]
  cases we with
  | true =>
    rw [zt_t, if_neg (by decide)]
    exact ⟨_, rfl, by rw [zs_row, zs_row, zs_row, zs_row, a2]; rfl, fun a ha => by rw [zs_other _ _ _ ha, zs_other _ _ _ ha, zs_other _ _ _ ha, zs_other _ _ _ ha, a3 a ha]⟩
  | false =>
    rw [zt_f, if_pos rfl]
    exact ⟨_, rfl, by rw [zs_row, zs_row, zs_row, zs_row, a2]; rfl, fun a ha => by rw [zs_other _ _ _ ha, zs_other _ _ _ ha, zs_other _ _ _ ha, zs_other _ _ _ ha, a3 a ha]⟩
