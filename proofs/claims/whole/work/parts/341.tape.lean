/-! the tape and its tokens -/
def zk_run (P : Nat → Bool) (b : Nat → Nat) : Nat → Nat → Nat
  | 0, p => p
  | d + 1, p => if P (b p) = true then zk_run P b d (p + 1) else p
theorem zk_run_b (P : Nat → Bool) (b : Nat → Nat) : ∀ d p, p ≤ zk_run P b d p ∧ zk_run P b d p ≤ p + d ∧ (∀ j, p ≤ j → j < zk_run P b d p → P (b j) = true) ∧ (zk_run P b d p < p + d → P (b (zk_run P b d p)) = false) := by
  intro d
  induction d with
  | zero => intro p; exact ⟨Nat.le_refl _, Nat.le_refl _, fun j h1 h2 => absurd h2 (Nat.not_lt.mpr h1), fun h => absurd h (by show ¬ p < p + 0; omega)⟩
  | succ d ih =>
    intro p
    have e : zk_run P b (d + 1) p = if P (b p) = true then zk_run P b d (p + 1) else p := rfl
    rw [e]
    by_cases q : P (b p) = true
    · rw [if_pos q]
      obtain ⟨h1, h2, h3, h4⟩ := ih (p + 1)
      refine ⟨by omega, by omega, fun j a c => ?_, fun h => h4 (by omega)⟩
      by_cases w : j = p
      · subst w; exact q
      · exact h3 j (by omega) c
    · rw [if_neg q]
      exact ⟨Nat.le_refl _, by omega, fun j a c => absurd c (by omega), fun _ => eq_false_of_ne_true q⟩
def zk_bl (c : Nat) : Bool := decide (c = 32)
def zk_al (c : Nat) : Bool := decide (97 ≤ c ∧ c ≤ 122)
def zk_dg (c : Nat) : Bool := decide (48 ≤ c ∧ c ≤ 57)
def zk_s (b : Nat → Nat) (L p : Nat) : Nat := zk_run zk_bl b (L - p) p
def zk_e (b : Nat → Nat) (L s : Nat) : Nat := if L ≤ s then s else if zk_al (b s) = true then zk_run zk_al b (L - s) s else if zk_dg (b s) = true then zk_run zk_dg b (L - s) s else s + 1
def zk_k (b : Nat → Nat) (L s : Nat) : Nat := if L ≤ s then 3 else if zk_al (b s) = true then 0 else if zk_dg (b s) = true then 1 else if b s = 59 then 2 else 4
theorem zk_k_le (b : Nat → Nat) (L s : Nat) : zk_k b L s ≤ 4 := by
  unfold zk_k
  repeat' split
  all_goals omega
def zk_nv (b : Nat → Nat) : Nat → Nat → Nat → Nat
  | 0, _, a => a
  | d + 1, p, a => if zk_dg (b p) = true then zk_nv b d (p + 1) (min 1000 (a * 10 + (b p - 48))) else a
def zk_v (b : Nat → Nat) (L s : Nat) : Nat := zk_nv b (L - s) s 0
def zk_n (b : Nat → Nat) (L s : Nat) : Nat := zk_s b L (zk_e b L s)
theorem zk_s_b (b : Nat → Nat) {L p : Nat} (h : p ≤ L) : p ≤ zk_s b L p ∧ zk_s b L p ≤ L := by
  have q := zk_run_b zk_bl b (L - p) p
  unfold zk_s
  omega
theorem zk_e_b (b : Nat → Nat) {L s : Nat} (h : s ≤ L) : s ≤ zk_e b L s ∧ zk_e b L s ≤ L ∧ (s < L → s < zk_e b L s) := by
  unfold zk_e
  by_cases h1 : L ≤ s
  · rw [if_pos h1]; omega
  · rw [if_neg h1]
    by_cases h2 : zk_al (b s) = true
    · rw [if_pos h2]
      have q := zk_run_b zk_al b (L - s) s
      refine ⟨q.1, by omega, fun _ => ?_⟩
      obtain ⟨d, hd⟩ : ∃ d, L - s = d + 1 := ⟨L - s - 1, by omega⟩
      rw [hd]
      show s < (if zk_al (b s) = true then zk_run zk_al b d (s + 1) else s)
      rw [if_pos h2]
      have := (zk_run_b zk_al b d (s + 1)).1
      omega
    · rw [if_neg h2]
      by_cases h3 : zk_dg (b s) = true
      · rw [if_pos h3]
        have q := zk_run_b zk_dg b (L - s) s
        refine ⟨q.1, by omega, fun _ => ?_⟩
        obtain ⟨d, hd⟩ : ∃ d, L - s = d + 1 := ⟨L - s - 1, by omega⟩
        rw [hd]
        show s < (if zk_dg (b s) = true then zk_run zk_dg b d (s + 1) else s)
        rw [if_pos h3]
        have := (zk_run_b zk_dg b d (s + 1)).1
        omega
      · rw [if_neg h3]; omega
theorem zk_n_b (b : Nat → Nat) {L s : Nat} (h : s ≤ L) : zk_e b L s ≤ zk_n b L s ∧ zk_n b L s ≤ L := by
  have q := zk_e_b b h
  exact zk_s_b b q.2.1
theorem zk_nv_le (b : Nat → Nat) : ∀ d p a, a ≤ 1000 → zk_nv b d p a ≤ 1000 := by
  intro d
  induction d with
  | zero => intro p a h; exact h
  | succ d ih =>
    intro p a h
    show (if zk_dg (b p) = true then _ else _) ≤ 1000
    split
    · exact ih _ _ (by omega)
    · exact h
/-- the bytes that lie there -/
def zKt (X : IX) (b : Nat → Nat) (L : Nat) : Prop := L ≤ 120 ∧ X 8 1 = nI L ∧ (∀ j, j < L → X 9 j = nI (b j)) ∧ ∀ j, j < L → b j ≤ 255
/-- the class stands on the token that begins at s -/
def zK (X : IX) (b : Nat → Nat) (L s : Nat) : Prop := s ≤ L ∧ X 8 3 = nI s ∧ X 8 5 = nI (zk_e b L s) ∧ X 8 2 = nI (zk_k b L s) ∧ (zk_k b L s = 1 → X 8 4 = nI (zk_v b L s))
def zB (X X' : IX) : Prop := ∀ a j, (a ≠ 8 ∨ j < 2 ∨ 5 < j) → X' a j = X a j
theorem zB.rf (X : IX) : zB X X := fun _ _ _ => rfl
theorem zB.tr {X Y Z : IX} (h : zB X Y) (h2 : zB Y Z) : zB X Z := fun a j q => (h2 a j q).trans (h a j q)
theorem zB.st {X Y : IX} {j : Nat} {v : Int32} (h : zB X Y) (h1 : 2 ≤ j) (h2 : j ≤ 5) : zB X (zu_st Y 8 j v) := by
  intro a i q
  rw [zs_st, if_neg (by omega)]
  exact h a i q
theorem zB.row {X X' : IX} (h : zB X X') {a : Nat} (ha : a ≠ 8) : X' a = X a := funext fun j => h a j (Or.inl ha)
theorem zKt.cg {X X' : IX} {b : Nat → Nat} {L : Nat} (h : zKt X b L) (e1 : X' 8 1 = X 8 1) (e9 : X' 9 = X 9) : zKt X' b L := ⟨h.1, by rw [e1]; exact h.2.1, fun j hj => by rw [e9]; exact h.2.2.1 j hj, h.2.2.2⟩
theorem zKt.B {X X' : IX} {b : Nat → Nat} {L : Nat} (h : zKt X b L) (q : zB X X') : zKt X' b L := h.cg (q 8 1 (by omega)) (q.row (by decide))
theorem ze_al {c : Nat} (hc : c ≤ 255) : fn_Tape_isLetterByte (nI c) = some (zt (zk_al c)) := by
  unfold fn_Tape_isLetterByte fn_Tape_isLetterByte_L16 fn_Tape_isLetterByte_L17 zk_al
  have c1 : nI c < (97 : Int32) ↔ c < 97 := nI_ltI (b := 97) (by omega) (by omega)
  have c2 : (122 : Int32) < nI c ↔ 122 < c := nI_ltI (a := 122) (by omega) (by omega)
  by_cases q1 : c < 97
  · rw [if_pos (c1.mpr q1), decide_eq_false (by omega)]; rfl
  · rw [if_neg (fun z => q1 (c1.mp z))]
    by_cases q2 : 122 < c
    · rw [if_pos (c2.mpr q2), decide_eq_false (by omega)]; rfl
    · rw [if_neg (fun z => q2 (c2.mp z)), decide_eq_true (by omega)]; rfl
theorem ze_dg {c : Nat} (hc : c ≤ 255) : fn_Tape_isDigit (nI c) = some (zt (zk_dg c)) := by
  unfold fn_Tape_isDigit fn_Tape_isDigit_L16 fn_Tape_isDigit_L17 zk_dg
  have c1 : nI c < (48 : Int32) ↔ c < 48 := nI_ltI (b := 48) (by omega) (by omega)
  have c2 : (57 : Int32) < nI c ↔ 57 < c := nI_ltI (a := 57) (by omega) (by omega)
  by_cases q1 : c < 48
  · rw [if_pos (c1.mpr q1), decide_eq_false (by omega)]; rfl
  · rw [if_neg (fun z => q1 (c1.mp z))]
    by_cases q2 : 57 < c
    · rw [if_pos (c2.mpr q2), decide_eq_false (by omega)]; rfl
    · rw [if_neg (fun z => q2 (c2.mp z)), decide_eq_true (by omega)]; rfl
theorem zl_word {b : Nat → Nat} {L : Nat} : ∀ (d p n : Nat) (X : IX), zKt X b L → X 8 5 = nI p → p + d = L → d < n → ∃ X', fn_Tape_readWord_L5 n X = some X' ∧ X' 8 5 = nI (zk_run zk_al b d p) ∧ ∀ a j, ¬ (a = 8 ∧ j = 5) → X' a j = X a j := by
  intro d
  induction d with
  | zero =>
    intro p n X hX h5 hp hd
    obtain ⟨m, rfl⟩ : ∃ m, n = m + 1 := ⟨n - 1, by omega⟩
    have l := hX.1
    refine ⟨X, ?_, h5, fun _ _ _ => rfl⟩
    show fn_Tape_readWord_B5 _ _ = _
    unfold fn_Tape_readWord_B5 fn_Tape_readWord_L44
    rw [hX.2.1, h5, if_pos ((nI_leI (by omega) (by omega)).mpr (by omega))]
  | succ d ih =>
    intro p n X hX h5 hp hd
    obtain ⟨m, rfl⟩ : ∃ m, n = m + 1 := ⟨n - 1, by omega⟩
    have l := hX.1
    have bp := hX.2.2.2 p (by omega)
    show ∃ X' : IX, fn_Tape_readWord_B5 (fn_Tape_readWord_L5 m) _ = _ ∧ X' 8 5 = nI (if zk_al (b p) = true then zk_run zk_al b d (p + 1) else p) ∧ _
    unfold fn_Tape_readWord_B5 fn_Tape_readWord_L44
    rw [hX.2.1, h5, if_neg (nI_ge (a := p) (by omega) (by omega)), zn_ib (show p < 120 by omega) (by decide), zr_gd, zn_cl (by omega), hX.2.2.1 p (by omega), ze_al bp, zr_b1]
    cases hq : zk_al (b p) with
    | false => exact ⟨X, rfl, h5, fun _ _ _ => rfl⟩
    | true =>
      rw [zt_t, if_neg (by decide), zr_nx, nI_1]
      obtain ⟨X', q1, q2, q3⟩ := ih (p + 1) m (zu_st X 8 5 (nI (p + 1))) (hX.cg (by rw [zs_st, if_neg (by omega)]) (zs_other _ _ _ (by decide))) (by rw [zs_st, if_pos ⟨rfl, rfl⟩]) (by omega) (by omega)
      exact ⟨X', q1, q2, fun a j q => by rw [q3 a j q, zs_st, if_neg q]⟩
theorem zl_num {b : Nat → Nat} {L : Nat} : ∀ (d p n a : Nat) (X : IX), zKt X b L → X 8 5 = nI p → X 8 4 = nI a → a ≤ 1000 → p + d = L → d < n → ∃ X', fn_Tape_readNumber_L10 n X = some X' ∧ X' 8 5 = nI (zk_run zk_dg b d p) ∧ X' 8 4 = nI (zk_nv b d p a) ∧ ∀ a j, ¬ (a = 8 ∧ (j = 5 ∨ j = 4)) → X' a j = X a j := by
  intro d
  induction d with
  | zero =>
    intro p n a X hX h5 h4 ha hp hd
    obtain ⟨m, rfl⟩ : ∃ m, n = m + 1 := ⟨n - 1, by omega⟩
    have l := hX.1
    refine ⟨X, ?_, h5, h4, fun _ _ _ => rfl⟩
    show fn_Tape_readNumber_B10 _ _ = _
    unfold fn_Tape_readNumber_B10 fn_Tape_readNumber_L79
    rw [hX.2.1, h5, if_pos ((nI_leI (by omega) (by omega)).mpr (by omega))]
  | succ d ih =>
    intro p n a X hX h5 h4 ha hp hd
    obtain ⟨m, rfl⟩ : ∃ m, n = m + 1 := ⟨n - 1, by omega⟩
    have l := hX.1
    have bp := hX.2.2.2 p (by omega)
    show ∃ X' : IX, fn_Tape_readNumber_B10 (fn_Tape_readNumber_L10 m) _ = _ ∧ X' 8 5 = nI (if zk_dg (b p) = true then zk_run zk_dg b d (p + 1) else p) ∧ X' 8 4 = nI (if zk_dg (b p) = true then zk_nv b d (p + 1) (min 1000 (a * 10 + (b p - 48))) else a) ∧ _
    unfold fn_Tape_readNumber_B10 fn_Tape_readNumber_L79
    rw [hX.2.1, h5, if_neg (nI_ge (a := p) (by omega) (by omega)), zn_ib (show p < 120 by omega) (by decide), zr_gd, zn_cl (by omega), hX.2.2.1 p (by omega), ze_dg bp, zr_b1, h4]
    cases hq : zk_dg (b p) with
    | false => exact ⟨X, rfl, h5, h4, fun _ _ _ => rfl⟩
    | true =>
      have dq : 48 ≤ b p ∧ b p ≤ 57 := of_decide_eq_true hq
      have ev : nI a * (10 : Int32) + nI (b p) - (48 : Int32) = nI (a * 10 + (b p - 48)) := by
        rw [show (10 : Int32) = nI 10 from rfl, show (48 : Int32) = nI 48 from rfl, pk_mul, nI_add, pk_sub (by omega)]
        congr 1
        omega
      have cv : nI (a * 10 + (b p - 48)) < (1000 : Int32) ↔ a * 10 + (b p - 48) < 1000 := nI_ltI (b := 1000) (by omega) (by omega)
      have mv : (if nI (a * 10 + (b p - 48)) < (1000 : Int32) then nI (a * 10 + (b p - 48)) else (1000 : Int32)) = nI (min 1000 (a * 10 + (b p - 48))) := by
        by_cases z : a * 10 + (b p - 48) < 1000
        · rw [if_pos (cv.mpr z)]; congr 1; omega
        · rw [if_neg (fun y => z (cv.mp y)), show min 1000 (a * 10 + (b p - 48)) = 1000 by omega]; rfl
      obtain ⟨Xa, hXa⟩ : ∃ Xa : IX, Xa = zu_st X 8 4 (nI (min 1000 (a * 10 + (b p - 48)))) := ⟨_, rfl⟩
      have a5 : Xa 8 5 = nI p := by rw [hXa, zs_st, if_neg (by omega)]; exact h5
      obtain ⟨Xb, hXb⟩ : ∃ Xb : IX, Xb = zu_st Xa 8 5 (nI (p + 1)) := ⟨_, rfl⟩
      rw [zt_t, if_neg (by decide), zr_gd, ev, zr_nx, mv, zr_nx, ← hXa, a5, nI_1, zr_nx, ← hXb]
      obtain ⟨X', q1, q2, q3, q4⟩ := ih (p + 1) m (min 1000 (a * 10 + (b p - 48))) Xb (hX.cg (by rw [hXb, zs_st, if_neg (by omega), hXa, zs_st, if_neg (by omega)]) (by rw [hXb, zs_other _ _ _ (by decide), hXa, zs_other _ _ _ (by decide)])) (by rw [hXb, zs_st, if_pos ⟨rfl, rfl⟩]) (by rw [hXb, zs_st, if_neg (by omega), hXa, zs_st, if_pos ⟨rfl, rfl⟩]) (by omega) (by omega) (by omega)
      exact ⟨X', q1, q2, q3, fun a j q => by rw [q4 a j q, hXb, zs_st, if_neg (by omega), hXa, zs_st, if_neg (by omega)]⟩
theorem zl_46 {b : Nat → Nat} {L s : Nat} {X : IX} (hX : zKt X b L) (hs : s ≤ L) (h3 : X 8 3 = nI s) : ∃ X', fn_Tape_readOn_L46 X = some X' ∧ zK X' b L s ∧ zB X X' := by
  have l := hX.1
  obtain ⟨Y, hY⟩ : ∃ Y : IX, Y = zu_st X 8 5 (nI s) := ⟨_, rfl⟩
  have yB : zB X Y := by rw [hY]; exact (zB.rf X).st (by omega) (by omega)
  have yt := hX.B yB
  have y3 : Y 8 3 = nI s := by rw [hY, zs_st, if_neg (by omega)]; exact h3
  have y5 : Y 8 5 = nI s := by rw [hY, zs_st, if_pos ⟨rfl, rfl⟩]
  unfold fn_Tape_readOn_L46 fn_Tape_readOn_L150
  rw [h3, zr_nx, ← hY, y3, yt.2.1]
  by_cases q : s < L
  · have bs := hX.2.2.2 s q
    have nL : ¬ L ≤ s := by omega
    rw [if_pos ((nI_ltI (by omega) (by omega)).mpr q), zn_ib (show s < 120 by omega) (by decide), zr_gd, zn_cl (by omega), yt.2.2.1 s q, ze_al bs, zr_b1]
    cases ha : zk_al (b s) with
    | true =>
      rw [zt_t, if_neg (by decide)]
      unfold fn_Tape_readWord
      obtain ⟨X', q1, q2, q3⟩ := zl_word (b := b) (L := L) (L - s) s 400 (zu_st Y 8 2 0) (yt.cg (by rw [zs_st, if_neg (by omega)]) (zs_other _ _ _ (by decide))) (by rw [zs_st, if_neg (by omega)]; exact y5) (by omega) (by omega)
      rw [zr_nx, q1, zr_b1]
      refine ⟨X', rfl, ⟨hs, ?_, ?_, ?_, fun z => ?_⟩, yB.tr (fun a j w => by rw [q3 a j (by omega), zs_st, if_neg (by omega)])⟩
      · rw [q3 8 3 (by omega), zs_st, if_neg (by omega)]; exact y3
      · rw [q2]; unfold zk_e; rw [if_neg nL, if_pos ha]
      · rw [q3 8 2 (by omega), zs_st, if_pos ⟨rfl, rfl⟩]; unfold zk_k; rw [if_neg nL, if_pos ha]; rfl
      · unfold zk_k at z; rw [if_neg nL, if_pos ha] at z; omega
    | false =>
      have ha' : ¬ zk_al (b s) = true := by rw [ha]; decide
      rw [zt_f, if_pos rfl, zr_gd, ze_dg bs, zr_b1]
      cases hd : zk_dg (b s) with
      | true =>
        rw [zt_t, if_neg (by decide)]
        unfold fn_Tape_readNumber
        obtain ⟨X', q1, q2, q3, q4⟩ := zl_num (b := b) (L := L) (L - s) s 400 0 (zu_st (zu_st Y 8 2 1) 8 4 0) (yt.cg (by rw [zs_st, if_neg (by omega), zs_st, if_neg (by omega)]) (by rw [zs_other _ _ _ (by decide), zs_other _ _ _ (by decide)])) (by rw [zs_st, if_neg (by omega), zs_st, if_neg (by omega)]; exact y5) (by rw [zs_st, if_pos ⟨rfl, rfl⟩]; rfl) (by omega) (by omega) (by omega)
        rw [zr_nx, zr_nx, q1, zr_b1]
        refine ⟨X', rfl, ⟨hs, ?_, ?_, ?_, fun _ => q3⟩, yB.tr (fun a j w => by rw [q4 a j (by omega), zs_st, if_neg (by omega), zs_st, if_neg (by omega)])⟩
        · rw [q4 8 3 (by omega), zs_st, if_neg (by omega), zs_st, if_neg (by omega)]; exact y3
        · rw [q2]; unfold zk_e; rw [if_neg nL, if_neg ha', if_pos hd]
        · rw [q4 8 2 (by omega), zs_st, if_neg (by omega), zs_st, if_pos ⟨rfl, rfl⟩]; unfold zk_k; rw [if_neg nL, if_neg ha', if_pos hd]; rfl
      | false =>
        have hd' : ¬ zk_dg (b s) = true := by rw [hd]; decide
        have ee : zk_e b L s = s + 1 := by unfold zk_e; rw [if_neg nL, if_neg ha', if_neg hd']
        have kk : zk_k b L s = if b s = 59 then 2 else 4 := by unfold zk_k; rw [if_neg nL, if_neg ha', if_neg hd']
        have c59 : nI (b s) = (59 : Int32) ↔ b s = 59 := nI_eq (b := 59) (by omega) (by omega)
        rw [zt_f, if_pos rfl, zr_gd]
        have fin : ∀ k : Nat, k = zk_k b L s → k ≠ 1 → ∃ X', fn_Tape_readOn_L137 (nI k) Y = some X' ∧ zK X' b L s ∧ zB X X' := by
          intro k hk k1
          unfold fn_Tape_readOn_L137 fn_Tape_readOn_L150
          rw [zr_nx, zr_nx, zs_st, if_neg (by omega), y5, nI_1]
          refine ⟨_, rfl, ⟨hs, ?_, ?_, ?_, fun z => absurd z (by omega)⟩, (yB.st (by omega) (by omega)).st (by omega) (by omega)⟩
          · rw [zs_st, if_neg (by omega), zs_st, if_neg (by omega)]; exact y3
          · rw [zs_st, if_pos ⟨rfl, rfl⟩, ee]
          · rw [zs_st, if_neg (by omega), zs_st, if_pos ⟨rfl, rfl⟩, hk]
        by_cases w : b s = 59
        · rw [if_pos (c59.mpr w)]; exact fin 2 (by rw [kk, if_pos w]) (by omega)
        · rw [if_neg (fun z => w (c59.mp z))]; exact fin 4 (by rw [kk, if_neg w]) (by omega)
  · have sL : L ≤ s := by omega
    rw [if_neg (fun z => q ((nI_ltI (by omega) (by omega)).mp z)), zr_nx]
    refine ⟨_, rfl, ⟨hs, ?_, ?_, ?_, fun z => ?_⟩, yB.st (by omega) (by omega)⟩
    · rw [zs_st, if_neg (by omega)]; exact y3
    · rw [zs_st, if_neg (by omega), y5]; unfold zk_e; rw [if_pos sL]
    · rw [zs_st, if_pos ⟨rfl, rfl⟩]; unfold zk_k; rw [if_pos sL]; rfl
    · unfold zk_k at z; rw [if_pos sL] at z; omega
theorem zl_skip {b : Nat → Nat} {L : Nat} : ∀ (d p n : Nat) (X : IX), zKt X b L → X 8 3 = nI p → p + d = L → d < n → ∃ X', fn_Tape_readOn_L8 n X = some X' ∧ zK X' b L (zk_run zk_bl b d p) ∧ zB X X' := by
  intro d
  induction d with
  | zero =>
    intro p n X hX h3 hp hd
    obtain ⟨m, rfl⟩ : ∃ m, n = m + 1 := ⟨n - 1, by omega⟩
    have l := hX.1
    show ∃ X' : IX, fn_Tape_readOn_B8 _ _ = _ ∧ _
    unfold fn_Tape_readOn_B8
    rw [hX.2.1, h3, if_pos ((nI_leI (by omega) (by omega)).mpr (by omega))]
    exact zl_46 hX (show p ≤ L by omega) h3
  | succ d ih =>
    intro p n X hX h3 hp hd
    obtain ⟨m, rfl⟩ : ∃ m, n = m + 1 := ⟨n - 1, by omega⟩
    have l := hX.1
    have bp := hX.2.2.2 p (by omega)
    have c32 : nI (b p) = (32 : Int32) ↔ b p = 32 := nI_eq (b := 32) (by omega) (by omega)
    show ∃ X' : IX, fn_Tape_readOn_B8 (fn_Tape_readOn_L8 m) _ = _ ∧ zK X' b L (if zk_bl (b p) = true then zk_run zk_bl b d (p + 1) else p) ∧ _
    unfold fn_Tape_readOn_B8
    rw [hX.2.1, h3, if_neg (nI_ge (a := p) (by omega) (by omega)), zn_ib (show p < 120 by omega) (by decide), zr_gd, zn_cl (by omega), hX.2.2.1 p (by omega)]
    by_cases w : b p = 32
    · have wb : zk_bl (b p) = true := decide_eq_true w
      rw [if_pos (c32.mpr w), zr_nx, nI_1, if_pos wb]
      have yB : zB X (zu_st X 8 3 (nI (p + 1))) := (zB.rf X).st (by omega) (by omega)
      obtain ⟨X', q1, q2, q3⟩ := ih (p + 1) m _ (hX.B yB) (by rw [zs_st, if_pos ⟨rfl, rfl⟩]) (by omega) (by omega)
      exact ⟨X', q1, q2, yB.tr q3⟩
    · have wb : ¬ zk_bl (b p) = true := fun z => w (of_decide_eq_true z)
      rw [if_neg (fun z => w (c32.mp z)), if_neg wb]
      exact zl_46 hX (by omega) h3
theorem zl_readOn {b : Nat → Nat} {L p : Nat} {X : IX} (hX : zKt X b L) (h5 : X 8 5 = nI p) (hp : p ≤ L) : ∃ X', fn_Tape_readOn X = some X' ∧ zK X' b L (zk_s b L p) ∧ zB X X' := by
  have l := hX.1
  have yB : zB X (zu_st X 8 3 (nI p)) := (zB.rf X).st (by omega) (by omega)
  obtain ⟨X', q1, q2, q3⟩ := zl_skip (b := b) (L := L) (L - p) p 400 _ (hX.B yB) (by rw [zs_st, if_pos ⟨rfl, rfl⟩]) (by omega) (by omega)
  refine ⟨X', ?_, q2, yB.tr q3⟩
  unfold fn_Tape_readOn
  rw [h5, zr_nx]
  exact q1
theorem zl_next {b : Nat → Nat} {L s : Nat} {X : IX} (hX : zKt X b L) (hK : zK X b L s) : ∃ X', fn_Tape_readOn X = some X' ∧ zK X' b L (zk_n b L s) ∧ zB X X' := zl_readOn hX hK.2.2.1 (zk_e_b b hK.1).2.1
/-! words and numbers -/
def zk_b (r i : Nat) : Nat := ((zs_byt.getD r []).getD i 0).toNatClampNeg
def zk_len (r : Nat) : Nat := zs_len.getD r 0
theorem zk_len_P : ∀ r : Fin 20, fn_Str_length r.val = some (nI (zk_len r.val)) ∧ zk_len r.val ≤ 7 ∧ 1 ≤ zk_len r.val := by decide +kernel
theorem zk_chr_P : ∀ r : Fin 20, ∀ i : Fin 7, i.val < zk_len r.val → fn_Str_charAt r.val (nI i.val) = some (nI (zk_b r.val i.val)) ∧ 97 ≤ zk_b r.val i.val ∧ zk_b r.val i.val ≤ 122 := by decide +kernel
def zk_is (b : Nat → Nat) (L s r : Nat) : Bool := decide (zk_k b L s = 0 ∧ zk_e b L s - s = zk_len r ∧ ∀ i, i < zk_len r → b (s + i) = zk_b r i)
theorem zl_isW {b : Nat → Nat} {L s r : Nat} {X : IX} (hX : zKt X b L) (h3 : X 8 3 = nI s) (hr : r < 20) (hl : s + zk_len r ≤ L) : ∀ (d i n : Nat), i + d = zk_len r → d < n → fn_Tape_isWord_L27 X n r (nI i) = some (zt (decide (∀ j, j < zk_len r → i ≤ j → b (s + j) = zk_b r j))) := by
  have l := hX.1
  have len := zk_len_P ⟨r, hr⟩
  simp only [] at len
  intro d
  induction d with
  | zero =>
    intro i n hi hd
    obtain ⟨m, rfl⟩ : ∃ m, n = m + 1 := ⟨n - 1, by omega⟩
    show fn_Tape_isWord_B27 _ _ _ _ = _
    unfold fn_Tape_isWord_B27
    rw [len.1, zr_b1, if_pos ((nI_leI (by omega) (by omega)).mpr (by omega)), decide_eq_true (fun j h1 h2 => absurd h1 (by omega))]
    rfl
  | succ d ih =>
    intro i n hi hd
    obtain ⟨m, rfl⟩ : ∃ m, n = m + 1 := ⟨n - 1, by omega⟩
    have ch := zk_chr_P ⟨r, hr⟩ ⟨i, by omega⟩ (by show i < zk_len r; omega)
    simp only [] at ch
    have bp := hX.2.2.2 (s + i) (by omega)
    have ce : nI (b (s + i)) = nI (zk_b r i) ↔ b (s + i) = zk_b r i := nI_eq (by omega) (by omega)
    show fn_Tape_isWord_B27 X (fn_Tape_isWord_L27 X m) _ _ = _
    unfold fn_Tape_isWord_B27
    rw [len.1, zr_b1, if_neg (nI_ge (a := i) (by omega) (by omega)), h3, nI_add, zn_ib (show s + i < 120 by omega) (by decide), zr_gd, ch.1, zr_b1, zn_cl (by omega), hX.2.2.1 (s + i) (by omega), zr_nx, nI_1]
    by_cases w : b (s + i) = zk_b r i
    · rw [if_pos (ce.mpr w), ih (i + 1) m (by omega) (by omega)]
      refine congrArg (fun x => some (zt x)) (decide_eq_decide.mpr ⟨fun h j h1 h2 => ?_, fun h j h1 h2 => h j h1 (by omega)⟩)
      by_cases e : j = i
      · subst e; exact w
      · exact h j h1 (by omega)
    · rw [if_neg (fun z => w (ce.mp z)), decide_eq_false (fun h => w (h i (by omega) (by omega)))]
      rfl
theorem zl_isWord {b : Nat → Nat} {L s r : Nat} {X : IX} (hX : zKt X b L) (hK : zK X b L s) (hr : r < 20) : fn_Tape_isWord X r = some (zt (zk_is b L s r)) := by
  have l := hX.1
  have len := zk_len_P ⟨r, hr⟩
  simp only [] at len
  have eb := zk_e_b b hK.1
  have k4 := zk_k_le b L s
  have c0 : nI (zk_k b L s) = (0 : Int32) ↔ zk_k b L s = 0 := nI_eq (b := 0) (by omega) (by omega)
  unfold fn_Tape_isWord fn_Tape_isWord_L23 zk_is
  rw [hK.2.2.2.1, hK.2.2.1, hK.2.1, pk_sub eb.1, len.1, zr_b1]
  have c1 : nI (zk_e b L s - s) = nI (zk_len r) ↔ zk_e b L s - s = zk_len r := nI_eq (by omega) (by omega)
  by_cases w0 : zk_k b L s = 0
  · rw [if_pos (c0.mpr w0)]
    by_cases w1 : zk_e b L s - s = zk_len r
    · have L27 := zl_isW hX hK.2.1 hr (by omega) (zk_len r) 0 400 (by omega) (by omega)
      rw [nI_0] at L27
      rw [if_pos (c1.mpr w1), L27]
      exact congrArg (fun x => some (zt x)) (decide_eq_decide.mpr ⟨fun h => ⟨w0, w1, fun i hi => h i hi (by omega)⟩, fun h j h1 _ => h.2.2 j h1⟩)
    · rw [if_neg (fun z => w1 (c1.mp z)), decide_eq_false (fun h => w1 h.2.1)]
      rfl
  · rw [if_neg (fun z => w0 (c0.mp z)), decide_eq_false (fun h => w0 h.1)]
    rfl
def zk_num (b : Nat → Nat) (L s lo hi : Nat) : Bool := decide (zk_k b L s = 1 ∧ lo ≤ zk_v b L s ∧ zk_v b L s ≤ hi)
theorem zl_isNum {b : Nat → Nat} {L s lo hi : Nat} {X : IX} (hK : zK X b L s) (h1 : lo < 1000) (h2 : hi < 1000) : fn_Tape_isNumber X (nI lo) (nI hi) = some (zt (zk_num b L s lo hi)) := by
  have k4 := zk_k_le b L s
  have c1 : nI (zk_k b L s) = (1 : Int32) ↔ zk_k b L s = 1 := nI_eq (b := 1) (by omega) (by omega)
  have vb : zk_v b L s ≤ 1000 := zk_nv_le b _ _ _ (by omega)
  unfold fn_Tape_isNumber fn_Tape_isNumber_L24 fn_Tape_isNumber_L25 zk_num
  rw [hK.2.2.2.1]
  by_cases w : zk_k b L s = 1
  · rw [if_pos (c1.mpr w), hK.2.2.2.2 w, ze_isWithin, zr_b1, zw_iff (by omega) (by omega) (by omega)]
    by_cases q : lo ≤ zk_v b L s ∧ zk_v b L s ≤ hi
    · rw [decide_eq_true q, decide_eq_true ⟨w, q⟩]; rfl
    · rw [decide_eq_false q, decide_eq_false (fun z => q z.2)]; rfl
  · rw [if_neg (fun z => w (c1.mp z)), decide_eq_false (fun z => w z.1)]; rfl
