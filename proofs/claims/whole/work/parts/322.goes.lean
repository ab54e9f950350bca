/-! bits -/
def zbt (a : Int32) (u : Nat) : Bool := a.toBitVec.getLsbD u
theorem zbt_or (a b : Int32) (u : Nat) : zbt (a ||| b) u = (zbt a u || zbt b u) := by
  unfold zbt
  rw [Int32.toBitVec_or, BitVec.getLsbD_or]
theorem zbt_and (a b : Int32) (u : Nat) : zbt (a &&& b) u = (zbt a u && zbt b u) := by
  unfold zbt
  rw [Int32.toBitVec_and, BitVec.getLsbD_and]
theorem zbt_0 (u : Nat) : zbt 0 u = false := by
  unfold zbt
  show (0#32).getLsbD u = false
  exact BitVec.getLsbD_zero
theorem zbt_sh : ∀ i : Fin 24, ∀ u : Fin 24, ∀ b : Fin 2, zbt (nI b.val <<< (nI i.val &&& 31)) u.val = (decide (i.val = u.val) && decide (b.val = 1)) := by decide +kernel
theorem zbt_1 {i u : Nat} (hi : i < 24) (hu : u < 24) : zbt ((1 : Int32) <<< (nI i &&& 31)) u = decide (i = u) := by
  have q := zbt_sh ⟨i, hi⟩ ⟨u, hu⟩ 1
  rw [show decide (((1 : Fin 2) : Nat) = 1) = true from rfl, Bool.and_true] at q
  exact q
theorem zbt_val {u : Nat} (a : Int32) (hu : u < 24) : (a >>> (nI u &&& 31)) &&& (1 : Int32) = zt (zbt a u) := by
  have hs : ((nI u &&& 31 : Int32).toBitVec.smod 32).toNat = u := by
    have key : ∀ u : Fin 24, ((nI u.val &&& 31 : Int32).toBitVec.smod 32).toNat = u.val := by decide +kernel
    exact key ⟨u, hu⟩
  rw [pk_and _ 1 rfl]
  have e1 : (a >>> (nI u &&& 31)).toBitVec.toNat % 2 ^ 1 = if zbt a u = true then 1 else 0 := by
    have q : (a >>> (nI u &&& 31)).toBitVec.getLsbD 0 = zbt a u := by
      unfold zbt
      rw [Int32.toBitVec_shiftRight, BitVec.sshiftRight', show ((nI u &&& 31 : Int32).toBitVec.smod 32).toNat = u from hs, BitVec.getLsbD_sshiftRight]
      simp
      omega
    rw [← q, BitVec.getLsbD, Nat.testBit_zero]
    simp only [decide_eq_true_eq, Nat.pow_one]
    split <;> omega
  rw [e1]
  cases zbt a u <;> rfl
theorem zbt_has {u : Nat} (a : Int32) (hu : u < 24) : fn_Mod_has a (nI u) = some (zt (zbt a u)) := by
  unfold fn_Mod_has fn_Mod_has_L14
  rw [zbt_val a hu]
  cases zbt a u <;> rfl
/-! the choices -/
def zS_cl (S : Nat → Int32) : Nat → Nat → Int32 → Int32
  | 0, _, a => a
  | d + 1, t, a => zS_cl S d (t + 1) (a ||| (nI (zF S t 6) <<< (nI t &&& 31)))
def zS_cs (S : Nat → Int32) : Int32 := zS_cl S (zN S 1) 0 0
theorem zS_cl_P {X : IX} {S : Nat → Int32} {o r : Nat} (hr : r = 20 + o) (hL : zI_LI X o S) (h : zI_WF S) : ∀ (d t n : Nat) (a : Int32), t + d = zN S 1 → d < n → fn_Land_choiceSet_L4 X n r a (nI t) = some (zS_cl S d t a) := by
  have n1 := zW_1 h
  have t1 : X r 4 = nI (zN S 1) := by rw [(zL_h hr hL).2.1]; exact n1.1
  intro d
  induction d with
  | zero =>
    intro t n a ht hd
    obtain ⟨m, rfl⟩ : ∃ m, n = m + 1 := ⟨n - 1, by omega⟩
    show fn_Land_choiceSet_B4 _ _ _ _ _ = _
    unfold fn_Land_choiceSet_B4
    rw [t1, if_pos ((nI_leI (by omega) (by omega)).mpr (by omega))]
    rfl
  | succ d ih =>
    intro t n a ht hd
    obtain ⟨m, rfl⟩ : ∃ m, n = m + 1 := ⟨n - 1, by omega⟩
    show fn_Land_choiceSet_B4 X (fn_Land_choiceSet_L4 X m) _ _ _ = _
    unfold fn_Land_choiceSet_B4
    rw [t1, if_neg (nI_ge (a := t) (by omega) (by omega))]
    simp only [zn_ib (show t < 10 by omega) (by decide), zp_gd, zn_cl (show t < 2 ^ 31 by omega), zf_P hr hL h (show t < zN S 1 by omega) (show 6 < 9 by omega), zp_nx, nI_1]
    exact ih (t + 1) m _ (by omega) (by omega)
theorem ze_cs {X : IX} {S : Nat → Int32} {o r : Nat} (hr : r = 20 + o) (hL : zI_LI X o S) (h : zI_WF S) : fn_Land_choiceSet X r = some (zS_cs S) := zS_cl_P hr hL h _ 0 400 0 (by omega) (by have := (zW_1 h).2; omega)
theorem zS_cl_b {S : Nat → Int32} (h : zI_WF S) {u : Nat} (hu : u < 10) : ∀ (d t : Nat) (a : Int32), t + d = zN S 1 → zbt (zS_cl S d t a) u = (zbt a u || decide (t ≤ u ∧ u < t + d ∧ zF S u 6 = 1)) := by
  have n1 := zW_1 h
  intro d
  induction d with
  | zero =>
    intro t a _
    show zbt a u = _
    rw [decide_eq_false (by omega), Bool.or_false]
  | succ d ih =>
    intro t a ht
    show zbt (zS_cl S d (t + 1) _) u = _
    have b := zF_all h (show t < zN S 1 by omega)
    have q := zbt_sh ⟨t, by omega⟩ ⟨u, by omega⟩ ⟨zF S t 6, by omega⟩
    simp only [] at q
    rw [ih (t + 1) _ (by omega), zbt_or, q]
    by_cases e : t = u
    · subst e
      rw [decide_eq_true (rfl : t = t), decide_eq_false (show ¬ (t + 1 ≤ t ∧ t < t + 1 + d ∧ zF S t 6 = 1) by omega), Bool.or_false, Bool.true_and]
      congr 1
      rw [decide_eq_decide]
      omega
    · rw [decide_eq_false e, Bool.false_and, Bool.or_false]
      congr 1
      rw [decide_eq_decide]
      omega
theorem zS_cs_b {S : Nat → Int32} (h : zI_WF S) {u : Nat} (hu : u < zN S 1) : zbt (zS_cs S) u = decide (zF S u 6 = 1) := by
  have n1 := zW_1 h
  unfold zS_cs
  rw [zS_cl_b h (by omega) _ 0 0 (by omega), zbt_0, Bool.false_or, decide_eq_decide]
  omega
/-! where a letter goes from a cell -/
def zS_on (S : Nat → Int32) (c : Nat) : Option Nat := match zS_hand S c with
  | none => none
  | some t => if zF S t 1 = c then some t else none
def zS_un (S : Nat → Int32) (c : Nat) : Nat := if zS_st S c = true then c else if zN S (6 + c) = 3 then (if c < zN S 3 then c + 1 else c - 1) else c
def zS_rw (S : Nat → Int32) (c : Nat) (ng : Bool) (far : Nat) : Nat × Nat × Nat := match zS_hand S c with
  | none => (zS_un S c, c, 12)
  | some t => if zF S t 1 = c then (zR_told S t far ng, zR_short S t far ng, zR_sure S t far ng) else (zF S t 1, c, if zN S (6 + c) = 2 then 6 else 12)
theorem zS_on_lt {S : Nat → Int32} {c t : Nat} (h : zS_on S c = some t) : t < zN S 1 ∧ zF S t 1 = c ∧ zS_hand S c = some t := by
  unfold zS_on at h
  cases hh : zS_hand S c with
  | none => rw [hh] at h; cases h
  | some u =>
    rw [hh] at h
    simp only [] at h
    split at h
    · cases h
      rename_i q
      exact ⟨zS_hand_lt hh, q, rfl⟩
    · cases h
theorem zS_rw_b {S : Nat → Int32} (h : zI_WF S) {c far : Nat} {ng : Bool} (hc : c < 24) : (zS_rw S c ng far).1 < 24 ∧ (zS_rw S c ng far).2.1 < 24 ∧ (zS_rw S c ng far).2.2 ≤ 12 := by
  have a := zW_3 h
  unfold zS_rw
  cases hh : zS_hand S c with
  | none =>
    refine ⟨?_, hc, Nat.le_refl _⟩
    show zS_un S c < 24
    unfold zS_un
    repeat' split
    all_goals omega
  | some t =>
    have ht := zS_hand_lt hh
    have b := zF_all h ht
    simp only []
    split
    · have b1 := zR_told_le h (far := far) (ng := ng) ht
      have b2 := zR_short_le h (far := far) (ng := ng) ht
      exact ⟨by show zR_told _ _ _ _ < 24; omega, by show zR_short _ _ _ _ < 24; omega, zR_sure_le h ht⟩
    · refine ⟨by show zF S t 1 < 24; omega, hc, ?_⟩
      show (if zN S (6 + c) = 2 then 6 else 12) ≤ 12
      split <;> omega
/-! the reference's way -/
def zV (X X' : IX) : Prop := ∀ a b, (a ≠ 95 ∨ b < 5 ∨ 8 < b) → X' a b = X a b
theorem zV.rf (X : IX) : zV X X := fun _ _ _ => rfl
theorem zV.tr {X Y Z : IX} (h : zV X Y) (h2 : zV Y Z) : zV X Z := fun a b q => (h2 a b q).trans (h a b q)
theorem zV.st {X Y : IX} {j : Nat} {v : Int32} (h : zV X Y) (h1 : 5 ≤ j) (h2 : j ≤ 8) : zV X (zu_st Y 95 j v) := by
  intro a b q
  rw [zs_st, if_neg (by omega)]
  exact h a b q
theorem zV.row {X X' : IX} (h : zV X X') {a : Nat} (ha : a ≠ 95) : X' a = X a := funext fun b => h a b (Or.inl ha)
theorem zV.keep {X X' : IX} (h : zV X X') : zI_keep X X' := by
  intro r j q
  refine h r j ?_
  unfold zI_imp at q
  by_cases e : r = 95
  · subst e
    simp at q
    omega
  · exact Or.inl e
def zM_at (X' : IX) (S : Nat → Int32) (c : Nat) (r : Nat × Nat × Nat) : Prop := X' 95 5 = nI r.1 ∧ X' 95 7 = nI r.2.1 ∧ X' 95 6 = nI r.2.2 ∧ X' 95 8 = zO (zS_on S c)
theorem zm_L69 {X : IX} {S : Nat → Int32} (e : X 96 = S) (h : zI_WF S) {t by_ k : Nat} (ht : t < zN S 1) (hb : by_ < 2) (hk : k < 24) : fn_Mod_goes_L69 (nI k) (nI t) (nI by_) X = some (zu_st (zu_st (zu_st (zu_st X 95 8 (nI t)) 95 5 (nI (zR_told S t by_ (zg_night k)))) 95 7 (nI (zR_short S t by_ (zg_night k)))) 95 6 (nI (zR_sure S t by_ (zg_night k)))) := by
  have q1 : ∀ Y : IX, Y 96 = S → fn_Mod_landing Y (nI t) (nI by_) (nI k) (0 : Int32) = some (nI (zR_told S t by_ (zg_night k))) := fun Y eY => zm_landing eY h false ht hb hk (by decide)
  have q2 : ∀ Y : IX, Y 96 = S → fn_Mod_landing Y (nI t) (nI by_) (nI k) (1 : Int32) = some (nI (zR_short S t by_ (zg_night k))) := fun Y eY => zm_landing eY h true ht hb hk (by decide)
  have r1 : ∀ (Y : IX) (j : Nat) (v : Int32), Y 96 = S → zu_st Y 95 j v 96 = S := fun Y j v eY => by rw [zs_other _ _ _ (by decide)]; exact eY
  unfold fn_Mod_goes_L69 fn_Mod_goes_L200
  simp only [zp_nx]
  rw [q1 _ (r1 _ _ _ e), zp_b1, q2 _ (r1 _ _ _ (r1 _ _ _ e)), zp_b1, zm_sure (r1 _ _ _ (r1 _ _ _ (r1 _ _ _ e))) h ht hb hk, zp_b1]
theorem zm_goes {X : IX} {S : Nat → Int32} (e : X 96 = S) (h : zI_WF S) {c k by_ : Nat} (hc : c < 24) (hk : k < 24) (hb : by_ < 2) {a3 : Int32} (ha : a3 = nI by_ ∨ (a3 = -1 ∧ ∀ t, zS_on S c = some t → zF S t 6 = by_)) : ∃ X', fn_Mod_goes (nI c) (nI k) a3 X = some X' ∧ zM_at X' S c (zS_rw S c (zg_night k) by_) ∧ zV X X' := by
  obtain ⟨X4, e4⟩ : ∃ X4 : IX, X4 = zu_st (zu_st (zu_st (zu_st X 95 5 (nI c)) 95 7 (nI c)) 95 6 (12 : Int32)) 95 8 (-1 : Int32) := ⟨_, rfl⟩
  have v4 : zV X X4 := by rw [e4]; exact ((((zV.rf X).st (by omega) (by omega)).st (by omega) (by omega)).st (by omega) (by omega)).st (by omega) (by omega)
  have g5 : X4 95 5 = nI c := by rw [e4, zs_st, if_neg (by decide), zs_st, if_neg (by decide), zs_st, if_neg (by decide), zs_st, if_pos (by decide)]
  have g7 : X4 95 7 = nI c := by rw [e4, zs_st, if_neg (by decide), zs_st, if_neg (by decide), zs_st, if_pos (by decide)]
  have g6 : X4 95 6 = nI 12 := by rw [e4, zs_st, if_neg (by decide), zs_st, if_pos (by decide)]; rfl
  have g8 : X4 95 8 = (-1 : Int32) := by rw [e4, zs_st, if_pos (by decide)]
  have e96 : X4 96 = S := by rw [v4.row (by decide)]; exact e
  have e6 : (6 : Int32) + nI c = nI (6 + c) := nI_add 6 c
  have w3 := zW_3 h
  have w6 := zW_6 h hc
  unfold fn_Mod_goes
  simp only [zp_nx, ← e4, zm_st e96 h hc, zp_b1]
  cases hs : zS_st S c with
  | true =>
    refine ⟨X4, rfl, ?_, v4⟩
    have hh : zS_hand S c = none := by unfold zS_hand; rw [hs]; rfl
    unfold zM_at zS_rw zS_on
    rw [hh]
    refine ⟨?_, g7, g6, g8⟩
    show _ = nI (zS_un S c)
    unfold zS_un
    rw [hs]
    exact g5
  | false =>
    rw [zt_f, if_pos rfl, zm_near e96 h hc, zp_b1]
    have hh : zS_hand S c = zS_hl S c (zN S 1) 0 none := by unfold zS_hand; rw [hs]; rfl
    rw [← hh]
    cases hd : zS_hand S c with
    | none =>
      rw [if_pos (show zO none < (0 : Int32) by decide)]
      unfold fn_Mod_goes_L121 fn_Mod_goes_L197 fn_Mod_goes_L200
      rw [if_pos (show zO none < (0 : Int32) by decide), e6, zn_ib (show 6 + c < 142 by omega) (by decide), zp_gd, zn_cl (by omega), e96, w6.1, w3.1]
      have c1 : nI (zN S (6 + c)) = (3 : Int32) ↔ zN S (6 + c) = 3 := nI_eq (b := 3) (by omega) (by omega)
      have c2 : nI (zN S 3) ≤ nI c ↔ zN S 3 ≤ c := nI_leI (by omega) (by omega)
      simp only [c1, c2, zp_nx]
      have rest : ∀ (v : Nat) (X' : IX), X' 95 5 = nI v → X' 95 7 = X4 95 7 → X' 95 6 = X4 95 6 → X' 95 8 = X4 95 8 → v = zS_un S c → zM_at X' S c (zS_rw S c (zg_night k) by_) := by
        intro v X' x5 x7 x6 x8 hv
        unfold zM_at zS_rw zS_on
        rw [hd]
        exact ⟨by rw [x5, hv], by rw [x7, g7], by rw [x6, g6], by rw [x8, g8]; rfl⟩
      have un : zS_un S c = if zN S (6 + c) = 3 then (if c < zN S 3 then c + 1 else c - 1) else c := by unfold zS_un; rw [hs]; rfl
      have nh : c ≠ zN S 3 := fun q => by
        have := of_decide_eq_false hs
        exact this (Or.inl q)
      by_cases q1 : zN S (6 + c) = 3
      · rw [if_pos q1]
        by_cases q2 : zN S 3 ≤ c
        · rw [if_pos q2]
          refine ⟨_, rfl, ?_, v4.st (by omega) (by omega)⟩
          refine rest (c - 1) _ ?_ ?_ ?_ ?_ (by rw [un, if_pos q1, if_neg (by omega)])
          · rw [zs_st, if_pos (by decide)]
            obtain ⟨c', rfl⟩ : ∃ c', c = c' + 1 := ⟨c - 1, by omega⟩
            exact nI_pred c'
          · rw [zs_st, if_neg (by decide)]
          · rw [zs_st, if_neg (by decide)]
          · rw [zs_st, if_neg (by decide)]
        · rw [if_neg q2]
          refine ⟨_, rfl, ?_, v4.st (by omega) (by omega)⟩
          refine rest (c + 1) _ ?_ ?_ ?_ ?_ (by rw [un, if_pos q1, if_pos (by omega)])
          · rw [zs_st, if_pos (by decide), nI_1]
          · rw [zs_st, if_neg (by decide)]
          · rw [zs_st, if_neg (by decide)]
          · rw [zs_st, if_neg (by decide)]
      · rw [if_neg q1]
        exact ⟨X4, rfl, rest c X4 g5 rfl rfl rfl (by rw [un, if_neg q1]), v4⟩
    | some t =>
      have ht := zS_hand_lt hd
      have b := zF_all h ht
      have f1 : fn_Mod_its X4 (zO (some t)) (1 : Int32) = some (nI (zF S t 1)) := zf_M e96 h ht (f := 1) (by omega)
      have f6 : fn_Mod_its X4 (zO (some t)) (6 : Int32) = some (nI (zF S t 6)) := zf_M e96 h ht (f := 6) (by omega)
      have nneg : ¬ zO (some t) < (0 : Int32) := nI_pos (by omega)
      rw [if_neg nneg, f1, zp_b1]
      have c1 : nI (zF S t 1) = nI c ↔ zF S t 1 = c := nI_eq (by omega) (by omega)
      simp only [c1]
      by_cases q1 : zF S t 1 = c
      · rw [if_pos q1]
        have on : zS_on S c = some t := by unfold zS_on; rw [hd]; exact if_pos q1
        have L := zm_L69 e96 h ht hb hk
        have both : (if (0 : Int32) ≤ a3 then fn_Mod_goes_L69 (nI k) (zO (some t)) a3 X4 else zu_b1 (fn_Mod_its X4 (zO (some t)) (6 : Int32)) fun v15 => fn_Mod_goes_L69 (nI k) (zO (some t)) v15 X4) = fn_Mod_goes_L69 (nI k) (nI t) (nI by_) X4 := by
          rcases ha with ha | ⟨ha, hb2⟩
          · rw [ha, if_pos (zn_0le (by omega))]; rfl
          · rw [ha, if_neg (by decide), f6, zp_b1, hb2 t on]; rfl
        rw [both, L]
        refine ⟨_, rfl, ?_, ?_⟩
        · unfold zM_at zS_rw
          rw [on, hd]
          simp only [q1, ↓reduceIte]
          refine ⟨?_, ?_, ?_, ?_⟩
          · rw [zs_st, if_neg (by decide), zs_st, if_neg (by decide), zs_st, if_pos (by decide)]
          · rw [zs_st, if_neg (by decide), zs_st, if_pos (by decide)]
          · rw [zs_st, if_pos (by decide)]
          · rw [zs_st, if_neg (by decide), zs_st, if_neg (by decide), zs_st, if_neg (by decide), zs_st, if_pos (by decide)]
            rfl
        · exact (((v4.st (by omega) (by omega)).st (by omega) (by omega)).st (by omega) (by omega)).st (by omega) (by omega)
      · rw [if_neg q1]
        unfold fn_Mod_goes_L121 fn_Mod_goes_L158 fn_Mod_goes_L200
        have r96 : zu_st X4 95 5 (nI (zF S t 1)) 96 = S := by rw [zs_other _ _ _ (by decide)]; exact e96
        rw [if_neg nneg, f1, zp_b1, zp_nx, e6, zn_ib (show 6 + c < 142 by omega) (by decide), zp_gd, zn_cl (by omega), r96, w6.1]
        have c2 : nI (zN S (6 + c)) = (2 : Int32) ↔ zN S (6 + c) = 2 := nI_eq (b := 2) (by omega) (by omega)
        simp only [c2, zp_nx]
        have on : zS_on S c = none := by unfold zS_on; rw [hd]; exact if_neg q1
        have fin : ∀ w : Nat, w = (if zN S (6 + c) = 2 then 6 else 12) → ∃ X', some (zu_st (zu_st X4 95 5 (nI (zF S t 1))) 95 6 (nI w)) = some X' ∧ zM_at X' S c (zS_rw S c (zg_night k) by_) ∧ zV X X' := by
          intro w hw
          refine ⟨_, rfl, ?_, (v4.st (by omega) (by omega)).st (by omega) (by omega)⟩
          unfold zM_at zS_rw
          rw [on, hd]
          simp only [q1, ↓reduceIte]
          refine ⟨?_, ?_, ?_, ?_⟩
          · rw [zs_st, if_neg (by decide), zs_st, if_pos (by decide)]
          · rw [zs_st, if_neg (by decide), zs_st, if_neg (by decide), g7]
          · rw [zs_st, if_pos (by decide), hw]
          · rw [zs_st, if_neg (by decide), zs_st, if_neg (by decide), g8]
            rfl
        by_cases q2 : zN S (6 + c) = 2
        · rw [if_pos q2]; exact fin 6 (by rw [if_pos q2])
        · rw [if_neg q2]; exact fin 12 (by rw [if_neg q2])
