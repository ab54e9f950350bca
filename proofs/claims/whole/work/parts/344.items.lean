/-! the items of a text -/
def zi_fill (S : Nat → Int32) (v lo hi : Nat) : Nat → Int32 := fun j => if 6 + lo ≤ j ∧ j ≤ 6 + hi then nI v else S j
def zi_stuff (b : Nat → Nat) (L s : Nat) (S : Nat → Int32) (v : Nat) : Bool × Nat × (Nat → Int32) := if zk_num b L (zk_n b L s) 0 23 = true then (if zk_is b L (zk_n b L (zk_n b L s)) 14 = true then (if zk_num b L (zk_n b L (zk_n b L (zk_n b L s))) (zk_v b L (zk_n b L s)) 23 = true then (true, zk_n b L (zk_n b L (zk_n b L (zk_n b L s))), zi_fill S v (zk_v b L (zk_n b L s)) (zk_v b L (zk_n b L (zk_n b L (zk_n b L s))))) else (false, zk_n b L (zk_n b L (zk_n b L s)), S)) else (true, zk_n b L (zk_n b L s), zi_fill S v (zk_v b L (zk_n b L s)) (zk_v b L (zk_n b L s)))) else (false, zk_n b L s, S)
def zi_set (b : Nat → Nat) (L s : Nat) (S : Nat → Int32) (hi k : Nat) : Bool × Nat × (Nat → Int32) := if zk_num b L (zk_n b L s) 0 hi = true then (true, zk_n b L (zk_n b L s), upd S k (nI (zk_v b L (zk_n b L s)))) else (false, zk_n b L s, S)
def zi_let (b : Nat → Nat) (L s : Nat) (S : Nat → Int32) : Bool × Nat × (Nat → Int32) := if 12 ≤ zN S 2 then (false, s, S) else if zk_num b L (zk_n b L s) 0 23 = true then (true, zk_n b L (zk_n b L s), upd (upd S (120 + zN S 2) (nI (zk_v b L (zk_n b L s)))) 2 (nI (zN S 2 + 1))) else (false, zk_n b L s, S)
def zi_ph (b : Nat → Nat) (L s r lo hi dv : Nat) : Bool × Nat × Nat := if zk_is b L s r = true then (if zk_num b L (zk_n b L s) lo hi = true then (true, zk_n b L (zk_n b L s), zk_v b L (zk_n b L s)) else (false, zk_n b L s, dv)) else (true, s, dv)
def zi_t5 (b : Nat → Nat) (L s : Nat) (T : Nat → Int32) (n : Nat) : Bool × Nat × (Nat → Int32) := (true, if zk_is b L s 19 = true then zk_n b L s else s, upd T (30 + 9 * n + 4) (if zk_is b L s 19 = true then 0 else 1))
def zi_t4 (b : Nat → Nat) (L s : Nat) (T : Nat → Int32) (n : Nat) : Bool × Nat × (Nat → Int32) := if (zi_ph b L s 18 0 12 8).1 = true then zi_t5 b L (zi_ph b L s 18 0 12 8).2.1 (upd T (30 + 9 * n + 5) (nI (zi_ph b L s 18 0 12 8).2.2)) n else (false, (zi_ph b L s 18 0 12 8).2.1, T)
def zi_t3 (b : Nat → Nat) (L s : Nat) (T : Nat → Int32) (n : Nat) : Bool × Nat × (Nat → Int32) := if (zi_ph b L s 17 1 12 5).1 = true then zi_t4 b L (zi_ph b L s 17 1 12 5).2.1 (upd T (30 + 9 * n + 3) (nI (zi_ph b L s 17 1 12 5).2.2)) n else (false, (zi_ph b L s 17 1 12 5).2.1, T)
def zi_t2 (b : Nat → Nat) (L s : Nat) (T : Nat → Int32) (n : Nat) : Bool × Nat × (Nat → Int32) := if (zi_ph b L s 16 1 9 2).1 = true then zi_t3 b L (zi_ph b L s 16 1 9 2).2.1 (upd T (30 + 9 * n + 2) (nI (zi_ph b L s 16 1 9 2).2.2)) n else (false, (zi_ph b L s 16 1 9 2).2.1, T)
def zi_t1 (b : Nat → Nat) (L s : Nat) (S : Nat → Int32) (k : Nat) : Bool × Nat × (Nat → Int32) := if zk_fc b L s S = true then zi_t2 b L (zk_n b L s) (zS_nt S (zN S 1) k (zk_v b L s)) (zN S 1) else (false, s, S)
def zi_thr (b : Nat → Nat) (L s : Nat) (S : Nat → Int32) (k : Nat) : Bool × Nat × (Nat → Int32) := if 10 ≤ zN S 1 then (false, s, S) else if zk_is b L (zk_n b L s) 15 = true then zi_t1 b L (zk_n b L (zk_n b L s)) S k else (false, zk_n b L s, S)
def zi_st (b : Nat → Nat) (L s : Nat) : Option Nat := if zk_is b L s 3 = true then some 0 else if zk_is b L s 4 = true then some 1 else if zk_is b L s 5 = true then some 2 else if zk_is b L s 6 = true then some 3 else none
def zi_kd (b : Nat → Nat) (L s : Nat) : Option Nat := if zk_is b L s 7 = true then some 0 else if zk_is b L s 8 = true then some 1 else if zk_is b L s 9 = true then some 2 else if zk_is b L s 10 = true then some 3 else if zk_is b L s 11 = true then some 4 else if zk_is b L s 12 = true then some 5 else if zk_is b L s 13 = true then some 6 else none
def zi_item (b : Nat → Nat) (L s : Nat) (S : Nat → Int32) : Bool × Nat × (Nat → Int32) := match zi_st b L s with
  | some v => zi_stuff b L s S v
  | none => match zi_kd b L s with
    | some k => zi_thr b L s S k
    | none => if zk_is b L s 0 = true then zi_set b L s S 23 3 else if zk_is b L s 1 = true then zi_set b L s S 9 4 else if zk_is b L s 2 = true then zi_let b L s S else (false, s, S)
/-! what is well formed stays so -/
theorem zk_num_v {b : Nat → Nat} {L s lo hi : Nat} (h : zk_num b L s lo hi = true) : zk_k b L s = 1 ∧ lo ≤ zk_v b L s ∧ zk_v b L s ≤ hi := of_decide_eq_true h
theorem zi_fill_WF {S : Nat → Int32} (h : zI_WF S) {v lo hi : Nat} (hv : v ≤ 3) (hh : hi ≤ 23) : zI_WF (zi_fill S v lo hi) := by
  refine zW_stuffs h (fun k hk => ?_) (fun c hc => ?_)
  · unfold zi_fill
    rw [if_neg (by omega)]
  · unfold zi_fill
    split
    · exact ⟨v, hv, rfl⟩
    · exact h.2.2.2.2.2.1 c hc
theorem zi_stuff_WF {b : Nat → Nat} {L s : Nat} {S : Nat → Int32} (h : zI_WF S) {v : Nat} (hv : v ≤ 3) : zI_WF (zi_stuff b L s S v).2.2 := by
  unfold zi_stuff
  split
  · rename_i q1
    have v1 := zk_num_v q1
    split
    · split
      · rename_i q3
        exact zi_fill_WF h hv (zk_num_v q3).2.2
      · exact h
    · exact zi_fill_WF h hv v1.2.2
  · exact h
theorem zi_set_WF3 {b : Nat → Nat} {L s : Nat} {S : Nat → Int32} (h : zI_WF S) : zI_WF (zi_set b L s S 23 3).2.2 := by
  unfold zi_set
  split
  · rename_i q
    exact zW_upd h (by omega) (by omega) (show zk_ok _ _ _ 3 _ from zI_le.of (zk_num_v q).2.2) (zd_no h (by omega) (fun u _ => by omega))
  · exact h
theorem zi_set_WF4 {b : Nat → Nat} {L s : Nat} {S : Nat → Int32} (h : zI_WF S) : zI_WF (zi_set b L s S 9 4).2.2 := by
  unfold zi_set
  split
  · rename_i q
    exact zW_upd h (by omega) (by omega) (show zk_ok _ _ _ 4 _ from zI_le.of (zk_num_v q).2.2) (zd_no h (by omega) (fun u _ => by omega))
  · exact h
theorem zi_let_WF {b : Nat → Nat} {L s : Nat} {S : Nat → Int32} (h : zI_WF S) : zI_WF (zi_let b L s S).2.2 := by
  have n2 := zW_2 h
  unfold zi_let
  split
  · exact h
  · rename_i q0
    split
    · rename_i q
      have v1 := zk_num_v q
      show zI_WF (upd (upd S (120 + zN S 2) (nI (zk_v b L (zk_n b L s)))) 2 (nI (zN S 2 + 1)))
      refine zW_letters h (n := zN S 2 + 1) (by omega) pk_us (fun k k2 kr => ?_) (fun i hi => ?_)
      · rw [pk_un k2, pk_un (by omega)]
      · rw [pk_un (by omega)]
        by_cases w : i = zN S 2
        · subst w; rw [pk_us]; exact ⟨_, v1.2.2, rfl⟩
        · rw [pk_un (by omega)]; exact h.2.2.2.2.2.2.2.1 i (by omega)
    · exact h
theorem zi_ph_b {b : Nat → Nat} {L s r lo hi dv : Nat} (h1 : lo ≤ dv) (h2 : dv ≤ hi) : lo ≤ (zi_ph b L s r lo hi dv).2.2 ∧ (zi_ph b L s r lo hi dv).2.2 ≤ hi := by
  unfold zi_ph
  split
  · split
    · rename_i q
      exact (zk_num_v q).2
    · exact ⟨h1, h2⟩
  · exact ⟨h1, h2⟩
theorem zW_fact {S : Nat → Int32} (h : zI_WF S) {t f : Nat} {v : Int32} (ht : t < 10) (hf : f < 9) (h1 : f ≠ 1) (hv : zk_f (zN S 0) f v) : zI_WF (upd S (30 + 9 * t + f) v) := zW_upd h (by omega) (by omega) ((zk_fact ht hf).mpr (fun _ => hv)) (zd_no h (by omega) (fun u _ => by omega))
theorem zi_t5_WF {b : Nat → Nat} {L s n : Nat} {T : Nat → Int32} (h : zI_WF T) (hn : n < 10) : zI_WF (zi_t5 b L s T n).2.2 := by
  refine zW_fact h hn (by omega) (by omega) ?_
  split
  · exact ⟨0, by omega, rfl⟩
  · exact ⟨1, by omega, rfl⟩
theorem zi_t4_WF {b : Nat → Nat} {L s n : Nat} {T : Nat → Int32} (h : zI_WF T) (hn : n < 10) : zI_WF (zi_t4 b L s T n).2.2 := by
  unfold zi_t4
  have q := zi_ph_b (b := b) (L := L) (s := s) (r := 18) (lo := 0) (hi := 12) (dv := 8) (by omega) (by omega)
  split
  · exact zi_t5_WF (zW_fact h hn (by omega) (by omega) (show zI_le _ 12 from ⟨_, q.2, rfl⟩)) hn
  · exact h
theorem zi_t3_WF {b : Nat → Nat} {L s n : Nat} {T : Nat → Int32} (h : zI_WF T) (hn : n < 10) : zI_WF (zi_t3 b L s T n).2.2 := by
  unfold zi_t3
  have q := zi_ph_b (b := b) (L := L) (s := s) (r := 17) (lo := 1) (hi := 12) (dv := 5) (by omega) (by omega)
  split
  · exact zi_t4_WF (zW_fact h hn (by omega) (by omega) (show zI_le _ 12 ∧ _ from ⟨⟨_, q.2, rfl⟩, by rw [zn_cl (by omega)]; exact q.1⟩)) hn
  · exact h
theorem zi_t2_WF {b : Nat → Nat} {L s n : Nat} {T : Nat → Int32} (h : zI_WF T) (hn : n < 10) : zI_WF (zi_t2 b L s T n).2.2 := by
  unfold zi_t2
  have q := zi_ph_b (b := b) (L := L) (s := s) (r := 16) (lo := 1) (hi := 9) (dv := 2) (by omega) (by omega)
  split
  · exact zi_t3_WF (zW_fact h hn (by omega) (by omega) (show zI_le _ 9 ∧ _ from ⟨⟨_, q.2, rfl⟩, by rw [zn_cl (by omega)]; exact q.1⟩)) hn
  · exact h
theorem zk_fc_v {b : Nat → Nat} {L s : Nat} {S : Nat → Int32} (h : zk_fc b L s S = true) : zk_num b L s 0 23 = true ∧ zk_v b L s ≤ 23 ∧ zS_sd S (zk_v b L s) = none := by
  unfold zk_fc at h
  rw [Bool.and_eq_true] at h
  refine ⟨h.1, (zk_num_v h.1).2.2, ?_⟩
  cases q : zS_sd S (zk_v b L s) with
  | none => rfl
  | some u => rw [q] at h; cases h.2
theorem zi_thr_WF {b : Nat → Nat} {L s k : Nat} {S : Nat → Int32} (h : zI_WF S) (hk : k ≤ 6) : zI_WF (zi_thr b L s S k).2.2 := by
  unfold zi_thr
  split
  · exact h
  · rename_i q0
    split
    · unfold zi_t1
      split
      · rename_i q
        have fv := zk_fc_v q
        exact zi_t2_WF (zS_nt_WF h rfl (by omega) hk fv.2.1 (fun u hu => zS_sd_n fv.2.2 u hu)) (by omega)
      · exact h
    · exact h
theorem zi_st_b {b : Nat → Nat} {L s v : Nat} (h : zi_st b L s = some v) : v ≤ 3 := by
  unfold zi_st at h
  repeat' split at h
  all_goals first
    | cases h; omega
    | cases h
theorem zi_kd_b {b : Nat → Nat} {L s v : Nat} (h : zi_kd b L s = some v) : v ≤ 6 := by
  unfold zi_kd at h
  repeat' split at h
  all_goals first
    | cases h; omega
    | cases h
theorem zi_item_WF {b : Nat → Nat} {L s : Nat} {S : Nat → Int32} (h : zI_WF S) : zI_WF (zi_item b L s S).2.2 := by
  unfold zi_item
  cases hs : zi_st b L s with
  | some v => exact zi_stuff_WF h (zi_st_b hs)
  | none =>
    show zI_WF (match zi_kd b L s with
      | some k => zi_thr b L s S k
      | none => _).2.2
    cases hk : zi_kd b L s with
    | some k => exact zi_thr_WF h (zi_kd_b hk)
    | none =>
      show zI_WF (if zk_is b L s 0 = true then zi_set b L s S 23 3 else if zk_is b L s 1 = true then zi_set b L s S 9 4 else if zk_is b L s 2 = true then zi_let b L s S else (false, s, S)).2.2
      split
      · exact zi_set_WF3 h
      · split
        · exact zi_set_WF4 h
        · split
          · exact zi_let_WF h
          · exact h
/-! the class reads them -/
def zE (X : IX) (b : Nat → Nat) (L s : Nat) (S : Nat → Int32) : Prop := zKt X b L ∧ zK X b L s ∧ zI_LI X 2 S
def zBT (X X' : IX) : Prop := ∀ a j, zR 2 a = false → (a ≠ 8 ∨ j < 2 ∨ 5 < j) → X' a j = X a j
theorem zBT.rf (X : IX) : zBT X X := fun _ _ _ _ => rfl
theorem zBT.tr {X Y Z : IX} (h : zBT X Y) (h2 : zBT Y Z) : zBT X Z := fun a j q w => (h2 a j q w).trans (h a j q w)
theorem zB.T {X Y : IX} (h : zB X Y) : zBT X Y := fun a j _ w => h a j w
theorem zBT.st {X Y : IX} {r j : Nat} {v : Int32} (h : zBT X Y) (hr : zR 2 r = true) : zBT X (zu_st Y r j v) := by
  intro a i q w
  rw [zs_other _ _ _ (fun e => by rw [e, hr] at q; cases q)]
  exact h a i q w
theorem zBT.R {X Y : IX} (h : ∀ a, zR 2 a = false → Y a = X a) : zBT X Y := fun a j q _ => by rw [h a q]
theorem zK.o {X X' : IX} {b : Nat → Nat} {L s : Nat} (h : zK X b L s) (e : X' 8 = X 8) : zK X' b L s := by
  unfold zK at h ⊢
  rw [e]
  exact h
theorem zKt.o {X X' : IX} {b : Nat → Nat} {L : Nat} (h : zKt X b L) (e : X' 8 = X 8) (e9 : X' 9 = X 9) : zKt X' b L := h.cg (by rw [e]) e9
theorem zI_LI.B {X X' : IX} {S : Nat → Int32} (h : zI_LI X 2 S) (q : zB X X') : zI_LI X' 2 S := zI_LI.cg (fun a ha => q.row (by omega)) h
theorem zR2_8 : zR 2 8 = false ∧ zR 2 9 = false := by decide
/-- on to the next token -/
theorem zl_on {b : Nat → Nat} {L s : Nat} {X : IX} {S : Nat → Int32} (h : zE X b L s S) : ∃ X', fn_Tape_readOn X = some X' ∧ zE X' b L (zk_n b L s) S ∧ zBT X X' := by
  obtain ⟨X', q1, q2, q3⟩ := zl_next h.1 h.2.1
  exact ⟨X', q1, ⟨h.1.B q3, q2, h.2.2.B q3⟩, q3.T⟩
/-- a number of the land is put -/
theorem zl_put {b : Nat → Nat} {L s : Nat} {X : IX} {S : Nat → Int32} (h : zE X b L s S) {k : Nat} (hk : k < 142) (v : Int32) : zE (zu_st X (zI_pr 2 k) (zI_ps k) v) b L s (upd S k v) ∧ zBT X (zu_st X (zI_pr 2 k) (zI_ps k) v) := by
  have r := zR2_pr k hk
  have n8 : 8 ≠ zI_pr 2 k := fun e => by rw [← e] at r; rw [zR2_8.1] at r; cases r
  have n9 : 9 ≠ zI_pr 2 k := fun e => by rw [← e] at r; rw [zR2_8.2] at r; cases r
  exact ⟨⟨h.1.o (zs_other _ _ _ n8) (zs_other _ _ _ n9), h.2.1.o (zs_other _ _ _ n8), zI_LI_put2 h.2.2 hk v⟩, (zBT.rf X).st r⟩
theorem zl_word_ {b : Nat → Nat} {L s : Nat} {X : IX} {S : Nat → Int32} (h : zE X b L s S) {r : Nat} (hr : r < 20) : fn_Tape_isWord X r = some (zt (zk_is b L s r)) := zl_isWord h.1 h.2.1 hr
theorem zl_set {b : Nat → Nat} {L s hi k : Nat} {X : IX} {S : Nat → Int32} (h : zE X b L s S) (hh : hi < 1000) (hk : k < 142) (f : Nat → IX → Option (Int32 × IX)) (hf : ∀ X, f 22 X = zu_b1 (fn_Tape_readOn X) fun X1 => zu_b1 (fn_Tape_isNumber X1 (nI 0) (nI hi)) fun v3 => if v3 = 0 then some ((0 : Int32), X1) else zu_nx (zu_st X1 (zI_pr 2 k) (zI_ps k) (X1 8 4)) fun X6 => zu_b1 (fn_Tape_readOn X6) fun X7 => some ((1 : Int32), X7)) : ∃ X' ok, f 22 X = some (zt ok, X') ∧ ok = (zi_set b L s S hi k).1 ∧ zKt X' b L ∧ zK X' b L (zi_set b L s S hi k).2.1 ∧ (ok = true → zI_LI X' 2 (zi_set b L s S hi k).2.2) ∧ zBT X X' := by
  obtain ⟨X1, a1, a2, a3⟩ := zl_on h
  rw [hf, a1, zr_b1, zl_isNum a2.2.1 (by omega) hh, zr_b1]
  unfold zi_set
  cases hn : zk_num b L (zk_n b L s) 0 hi with
  | false => exact ⟨X1, false, rfl, rfl, a2.1, a2.2.1, fun z => (by cases z), a3⟩
  | true =>
    rw [zt_t, if_neg (by decide), zr_nx, a2.2.1.2.2.2.2 (zk_num_v hn).1]
    obtain ⟨p1, p2⟩ := zl_put a2 hk (nI (zk_v b L (zk_n b L s)))
    obtain ⟨X2, b1, b2, b3⟩ := zl_on p1
    rw [b1, zr_b1]
    exact ⟨X2, true, rfl, rfl, b2.1, b2.2.1, fun _ => b2.2.2, (a3.tr p2).tr b3⟩
theorem zl_home {b : Nat → Nat} {L s : Nat} {X : IX} {S : Nat → Int32} (h : zE X b L s S) : ∃ X' ok, fn_Read_readHome 22 X = some (zt ok, X') ∧ ok = (zi_set b L s S 23 3).1 ∧ zKt X' b L ∧ zK X' b L (zi_set b L s S 23 3).2.1 ∧ (ok = true → zI_LI X' 2 (zi_set b L s S 23 3).2.2) ∧ zBT X X' := zl_set h (by omega) (by omega) fn_Read_readHome (fun _ => rfl)
theorem zl_fetch {b : Nat → Nat} {L s : Nat} {X : IX} {S : Nat → Int32} (h : zE X b L s S) : ∃ X' ok, fn_Read_readFetch 22 X = some (zt ok, X') ∧ ok = (zi_set b L s S 9 4).1 ∧ zKt X' b L ∧ zK X' b L (zi_set b L s S 9 4).2.1 ∧ (ok = true → zI_LI X' 2 (zi_set b L s S 9 4).2.2) ∧ zBT X X' := zl_set h (by omega) (by omega) fn_Read_readFetch (fun _ => rfl)
theorem zl_let {b : Nat → Nat} {L s : Nat} {X : IX} {S : Nat → Int32} (h : zE X b L s S) (hW : zI_WF S) : ∃ X' ok, fn_Read_readLetter 22 X = some (zt ok, X') ∧ ok = (zi_let b L s S).1 ∧ zKt X' b L ∧ zK X' b L (zi_let b L s S).2.1 ∧ (ok = true → zI_LI X' 2 (zi_let b L s S).2.2) ∧ zBT X X' := by
  have n2 := zW_2 hW
  have x5 : X 22 5 = nI (zN S 2) := by rw [(zL_h (o := 2) rfl h.2.2).2.2.1]; exact n2.1
  have c12 : nI (zN S 2) < (12 : Int32) ↔ zN S 2 < 12 := nI_ltI (b := 12) (by omega) (by omega)
  unfold fn_Read_readLetter zi_let
  rw [x5]
  by_cases q : zN S 2 < 12
  · rw [if_pos (c12.mpr q), if_neg (by omega)]
    obtain ⟨X1, a1, a2, a3⟩ := zl_on h
    have in1 : fn_Tape_isNumber X1 (0 : Int32) (23 : Int32) = _ := zl_isNum (lo := 0) (hi := 23) a2.2.1 (by omega) (by omega)
    rw [a1, zr_b1, in1, zr_b1]
    cases hn : zk_num b L (zk_n b L s) 0 23 with
    | false => exact ⟨X1, false, rfl, rfl, a2.1, a2.2.1, fun z => (by cases z), a3⟩
    | true =>
      rw [zt_t, if_neg (by decide), a2.2.1.2.2.2.2 (zk_num_v hn).1, if_pos rfl]
      obtain ⟨v, hv⟩ : ∃ v, v = zk_v b L (zk_n b L s) := ⟨_, rfl⟩
      rw [← hv]
      have y5 : X1 22 5 = nI (zN S 2) := by rw [(zL_h (o := 2) rfl a2.2.2).2.2.1]; exact n2.1
      obtain ⟨p1, p2⟩ := zl_put a2 (k := 120 + zN S 2) (by omega) (nI v)
      have hp := zL_p120 2 (zN S 2) (by omega)
      rw [hp.1, hp.2] at p1 p2
      have z5 : zu_st X1 (20 + 2 + 9) (zN S 2) (nI v) 22 5 = nI (zN S 2) := by rw [zs_other _ _ _ (by decide)]; exact y5
      obtain ⟨r1, r2⟩ := zl_put p1 (k := 2) (by omega) (nI (zN S 2 + 1))
      have e5 : zu_st (zu_st X1 (20 + 2 + 9) (zN S 2) (nI v)) (zI_pr 2 2) (zI_ps 2) (nI (zN S 2 + 1)) 22 5 = nI (zN S 2 + 1) := by
        show zu_st _ 22 5 _ 22 5 = _
        rw [zs_st, if_pos ⟨rfl, rfl⟩]
      have ad : fn_Land_addLetter 22 (nI v) X1 = some (nI (zN S 2), zu_st (zu_st X1 (20 + 2 + 9) (zN S 2) (nI v)) (zI_pr 2 2) (zI_ps 2) (nI (zN S 2 + 1))) := by
        unfold fn_Land_addLetter
        rw [y5, if_pos (c12.mpr q), zn_ib q (by decide), zr_gd, zr_nx, zn_cl (by omega)]
        show zu_nx (zu_st (zu_st X1 (20 + 2 + 9) (zN S 2) (nI v)) 22 5 (zu_st X1 (20 + 2 + 9) (zN S 2) (nI v) 22 5 + 1)) _ = _
        rw [z5, nI_1, zr_nx]
        show some (zu_st (zu_st X1 (20 + 2 + 9) (zN S 2) (nI v)) (zI_pr 2 2) (zI_ps 2) (nI (zN S 2 + 1)) 22 5 - 1, _) = _
        rw [e5, nI_pred]
        rfl
      rw [ad, zr_b2]
      obtain ⟨X2, b1, b2, b3⟩ := zl_on r1
      rw [b1, zr_b1]
      exact ⟨X2, true, rfl, rfl, b2.1, b2.2.1, fun _ => b2.2.2, ((a3.tr p2).tr r2).tr b3⟩
  · rw [if_neg (fun z => q (c12.mp z)), if_pos (by omega)]
    exact ⟨X, false, rfl, rfl, h.1, h.2.1, fun z => (by cases z), zBT.rf X⟩
