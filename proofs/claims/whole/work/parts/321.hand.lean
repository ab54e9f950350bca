/-! who throws a letter on a cell, or fetches it -/
def zO (h : Option Nat) : Int32 := match h with
  | none => -1
  | some t => nI t
def zS_ps (S : Nat → Int32) (c : Nat) : Nat := if c = zN S 3 then 0 else if zN S (6 + c) = 1 then 1 else 2
def zS_st (S : Nat → Int32) (c : Nat) : Bool := decide (c = zN S 3 ∨ zN S (6 + c) = 1)
def zd (a b : Nat) : Nat := (a - b) + (b - a)
def zS_ok (S : Nat → Int32) (c t : Nat) : Bool := decide (zF S t 7 = 0 ∧ zd (zF S t 1) c ≤ zN S 4)
def zS_nr (S : Nat → Int32) (c t u : Nat) : Bool := decide (zd (zF S t 1) c < zd (zF S u 1) c ∨ (zd (zF S t 1) c = zd (zF S u 1) c ∧ zF S t 1 < zF S u 1))
def zS_nh (S : Nat → Int32) (c t : Nat) (h : Option Nat) : Bool := match h with
  | none => true
  | some u => zS_nr S c t u
def zS_hl (S : Nat → Int32) (c : Nat) : Nat → Nat → Option Nat → Option Nat
  | 0, _, h => h
  | d + 1, t, h => zS_hl S c d (t + 1) (if (zS_ok S c t && zS_nh S c t h) = true then some t else h)
def zS_hand (S : Nat → Int32) (c : Nat) : Option Nat := if zS_st S c = true then none else zS_hl S c (zN S 1) 0 none
theorem zS_hl_lt {S : Nat → Int32} {c m : Nat} : ∀ (d t : Nat) (h : Option Nat), t + d = m → (∀ u, h = some u → u < m) → ∀ u, zS_hl S c d t h = some u → u < m := by
  intro d
  induction d with
  | zero => intro t h _ hh; exact hh
  | succ d ih =>
    intro t h ht hh
    refine ih (t + 1) _ (by omega) ?_
    intro u
    split
    · intro e; cases e; omega
    · exact hh u
theorem zS_hand_lt {S : Nat → Int32} {c t : Nat} (h : zS_hand S c = some t) : t < zN S 1 := by
  unfold zS_hand at h
  split at h
  · cases h
  · exact zS_hl_lt _ 0 none (by omega) (fun u e => by cases e) t h
theorem zS_hand_st {S : Nat → Int32} {c t : Nat} (h : zS_hand S c = some t) : zS_st S c = false := by
  unfold zS_hand at h
  split at h
  · cases h
  · rename_i q
    exact eq_false_of_ne_true q
theorem zW_3 {S : Nat → Int32} (h : zI_WF S) : S 3 = nI (zN S 3) ∧ zN S 3 ≤ 23 := h.2.2.2.1.n (by omega)
theorem zW_4 {S : Nat → Int32} (h : zI_WF S) : S 4 = nI (zN S 4) ∧ zN S 4 ≤ 9 := h.2.2.2.2.1.n (by omega)
theorem zW_6 {S : Nat → Int32} (h : zI_WF S) {c : Nat} (hc : c < 24) : S (6 + c) = nI (zN S (6 + c)) ∧ zN S (6 + c) ≤ 3 := (h.2.2.2.2.2.1 c hc).n (by omega)
theorem zW_0 {S : Nat → Int32} (h : zI_WF S) : S 0 = nI (zN S 0) ∧ zN S 0 ≤ 9999 := h.1.n (by omega)
theorem zW_1 {S : Nat → Int32} (h : zI_WF S) : S 1 = nI (zN S 1) ∧ zN S 1 ≤ 10 := h.2.1.n (by omega)
theorem zW_2 {S : Nat → Int32} (h : zI_WF S) : S 2 = nI (zN S 2) ∧ zN S 2 ≤ 12 := h.2.2.1.n (by omega)
theorem ze_ps {X : IX} {S : Nat → Int32} {o r : Nat} (hr : r = 20 + o) (hL : zI_LI X o S) (h : zI_WF S) {c : Nat} (hc : c < 24) : fn_Land_placeSort X r (nI c) = some (nI (zS_ps S c)) := by
  have a := zW_3 h
  have b := zW_6 h hc
  unfold fn_Land_placeSort fn_Land_placeSort_L25
  rw [(zL_h hr hL).2.2.2.1, a.1, zn_ib (show c < 24 from hc) (by decide), zp_gd, zn_cl (by omega), zL_stuff hr hL hc, b.1]
  have c1 : nI c = nI (zN S 3) ↔ c = zN S 3 := nI_eq (by omega) (by omega)
  have c2 : nI (zN S (6 + c)) = (1 : Int32) ↔ zN S (6 + c) = 1 := nI_eq (b := 1) (by omega) (by omega)
  simp only [c1, c2]
  unfold zS_ps
  split
  · rfl
  · split <;> rfl
theorem ze_st {X : IX} {S : Nat → Int32} {o r : Nat} (hr : r = 20 + o) (hL : zI_LI X o S) (h : zI_WF S) {c : Nat} (hc : c < 24) : fn_Land_staysOn X r (nI c) = some (zt (zS_st S c)) := by
  unfold fn_Land_staysOn fn_Land_staysOn_L14
  rw [ze_ps hr hL h hc, zp_b1]
  unfold zS_ps zS_st
  by_cases d1 : c = zN S 3
  · simp only [d1, ↓reduceIte, true_or]; rfl
  · by_cases d2 : zN S (6 + c) = 1
    · simp only [d1, d2, ↓reduceIte, or_true]; rfl
    · simp only [d1, d2, ↓reduceIte, or_false]; rfl
theorem zm_st {X : IX} {S : Nat → Int32} (e : X 96 = S) (h : zI_WF S) {c : Nat} (hc : c < 24) : fn_Mod_isStaying X (nI c) = some (zt (zS_st S c)) := by
  have a := zW_3 h
  have b := zW_6 h hc
  unfold fn_Mod_isStaying fn_Mod_isStaying_L23 fn_Mod_isStaying_L28
  have e6 : (6 : Int32) + nI c = nI (6 + c) := nI_add 6 c
  rw [e, a.1, e6, zn_ib (show 6 + c < 142 by omega) (by decide), zp_gd, zn_cl (by omega), b.1]
  have c1 : nI c = nI (zN S 3) ↔ c = zN S 3 := nI_eq (by omega) (by omega)
  have c2 : nI (zN S (6 + c)) = (1 : Int32) ↔ zN S (6 + c) = 1 := nI_eq (b := 1) (by omega) (by omega)
  simp only [c1, c2]
  unfold zS_st
  by_cases d1 : c = zN S 3
  · simp only [d1, ↓reduceIte, true_or]; rfl
  · by_cases d2 : zN S (6 + c) = 1
    · simp only [d1, d2, ↓reduceIte, or_true]; rfl
    · simp only [d1, d2, ↓reduceIte, or_false]; rfl
theorem zd_P : ∀ a : Fin 24, ∀ b : Fin 24, (if 0 ≤ (nI a.val - nI b.val) then (nI a.val - nI b.val) else 0 - (nI a.val - nI b.val)) = nI (zd a.val b.val) ∧ fn_Mod_size (nI a.val - nI b.val) = nI (zd a.val b.val) ∧ zd a.val b.val ≤ 23 := by decide +kernel
theorem ze_aw {X : IX} {S : Nat → Int32} {o r : Nat} (hr : r = 20 + o) (hL : zI_LI X o S) (h : zI_WF S) {t c : Nat} (ht : t < zN S 1) (hc : c < 24) : fn_Land_away X r (nI t) (nI c) = some (nI (zd (zF S t 1) c)) := by
  have a := zF_all h ht
  unfold fn_Land_away
  rw [zn_ib (show t < 10 from a.1) (by decide), zp_gd, zn_cl (by omega), zf_P hr hL h ht (by omega), zp_nx]
  exact congrArg some (zd_P ⟨zF S t 1, by omega⟩ ⟨c, hc⟩).1
theorem zd_le {S : Nat → Int32} (h : zI_WF S) {t c : Nat} (ht : t < zN S 1) (hc : c < 24) : zd (zF S t 1) c ≤ 23 := by
  have a := zF_all h ht
  unfold zd
  omega
theorem ze_nr {X : IX} {S : Nat → Int32} {o r : Nat} (hr : r = 20 + o) (hL : zI_LI X o S) (h : zI_WF S) {t u c : Nat} (ht : t < zN S 1) (hu : u < zN S 1) (hc : c < 24) : fn_Land_isNearer X r (nI t) (nI u) (nI c) = some (zt (zS_nr S c t u)) := by
  have a := zF_all h ht
  have b := zF_all h hu
  have d1 := zd_le h ht hc
  have d2 := zd_le h hu hc
  unfold fn_Land_isNearer fn_Land_isNearer_L66 fn_Land_isNearer_L35
  simp only [ze_aw hr hL h ht hc, ze_aw hr hL h hu hc, zp_b1, zn_ib (show t < 10 from a.1) (by decide), zn_ib (show u < 10 from b.1) (by decide), zp_gd, zn_cl (show t < 2 ^ 31 by omega), zn_cl (show u < 2 ^ 31 by omega), zf_P hr hL h ht (show 1 < 9 by omega), zf_P hr hL h hu (show 1 < 9 by omega), zp_01_0, zp_01_1]
  have c1 : nI (zd (zF S t 1) c) = nI (zd (zF S u 1) c) ↔ zd (zF S t 1) c = zd (zF S u 1) c := nI_eq (by omega) (by omega)
  have c2 : nI (zF S u 1) ≤ nI (zF S t 1) ↔ zF S u 1 ≤ zF S t 1 := nI_leI (by omega) (by omega)
  have c3 : nI (zd (zF S u 1) c) ≤ nI (zd (zF S t 1) c) ↔ zd (zF S u 1) c ≤ zd (zF S t 1) c := nI_leI (by omega) (by omega)
  simp only [c1, c2, c3]
  unfold zS_nr
  by_cases q1 : zd (zF S t 1) c = zd (zF S u 1) c
  · rw [if_pos q1]
    by_cases q2 : zF S u 1 ≤ zF S t 1
    · rw [if_pos q2, decide_eq_false (by omega)]; rfl
    · rw [if_neg q2, decide_eq_true (by omega)]; rfl
  · rw [if_neg q1]
    by_cases q2 : zd (zF S u 1) c ≤ zd (zF S t 1) c
    · rw [if_pos q2, decide_eq_false (by omega)]; rfl
    · rw [if_neg q2, decide_eq_true (by omega)]; rfl
theorem ze_ill {X : IX} {S : Nat → Int32} {o r : Nat} (hr : r = 20 + o) (hL : zI_LI X o S) (h : zI_WF S) {t : Nat} (ht : t < zN S 1) : fn_Thr_isIll X (zu_th (r + 6) t) = some (zt (decide (zF S t 7 = 1))) := by
  have a := zF_all h ht
  unfold fn_Thr_isIll fn_Thr_isIll_L16
  rw [zf_P hr hL h ht (by omega)]
  rcases (show zF S t 7 = 0 ∨ zF S t 7 = 1 by omega) with e | e
  · rw [e]; rfl
  · rw [e]; rfl
theorem zO_m1 {t : Nat} (ht : t < 2 ^ 31) : nI t ≠ (-1 : Int32) := by
  intro q
  have := congrArg Int32.toInt q
  rw [nI_toInt ht] at this
  have e1 : (-1 : Int32).toInt = -1 := rfl
  omega
theorem zS_hl_P {X : IX} {S : Nat → Int32} {o r : Nat} (hr : r = 20 + o) (hL : zI_LI X o S) (h : zI_WF S) {c : Nat} (hc : c < 24) : ∀ (d t n : Nat) (hd : Option Nat), t + d = zN S 1 → d < n → (∀ u, hd = some u → u < zN S 1) → fn_Land_handFor_L14 X n r (nI c) (zO hd) (nI t) = some (zO (zS_hl S c d t hd)) := by
  have n1 := zW_1 h
  have f4 := zW_4 h
  have t1 : X r 4 = nI (zN S 1) := by rw [(zL_h hr hL).2.1]; exact n1.1
  have t7 : X r 7 = nI (zN S 4) := by rw [(zL_h hr hL).2.2.2.2.1]; exact f4.1
  intro d
  induction d with
  | zero =>
    intro t n hd ht hdn _
    obtain ⟨m, rfl⟩ : ∃ m, n = m + 1 := ⟨n - 1, by omega⟩
    show fn_Land_handFor_B14 _ _ _ _ _ _ = _
    unfold fn_Land_handFor_B14
    rw [t1, if_pos ((nI_leI (by omega) (by omega)).mpr (by omega))]
    rfl
  | succ d ih =>
    intro t n hd ht hdn hh
    obtain ⟨m, rfl⟩ : ∃ m, n = m + 1 := ⟨n - 1, by omega⟩
    have ht' : t < zN S 1 := by omega
    have a := zF_all h ht'
    have dl := zd_le h ht' hc
    have i1 := ih (t + 1) m hd (by omega) (by omega) hh
    have i2 := ih (t + 1) m (some t) (by omega) (by omega) (fun u e => by cases e; exact ht')
    have i2' : fn_Land_handFor_L14 X m r (nI c) (nI t) (nI (t + 1)) = _ := i2
    show fn_Land_handFor_B14 X (fn_Land_handFor_L14 X m) _ _ _ _ = some (zO (zS_hl S c d (t + 1) (if (zS_ok S c t && zS_nh S c t hd) = true then some t else hd)))
    unfold fn_Land_handFor_B14 fn_Land_handFor_L62 fn_Land_handFor_L64
    rw [t1, if_neg (nI_ge (a := t) (by omega) (by omega)), t7]
    have c1 : nI (zN S 4) < nI (zd (zF S t 1) c) ↔ zN S 4 < zd (zF S t 1) c := nI_ltI (by omega) (by omega)
    simp only [zn_ib (show t < 10 from a.1) (by decide), zp_gd, zn_cl (show t < 2 ^ 31 by omega), ze_ill hr hL h ht', zp_b1, ze_aw hr hL h ht' hc, zp_nx, nI_1, i1, i2', c1]
    by_cases q1 : zF S t 7 = 1
    · rw [show decide (zF S t 7 = 1) = true from decide_eq_true q1, zt_t, if_neg (by decide), show zS_ok S c t = false from decide_eq_false (by omega)]
      rfl
    · rw [show decide (zF S t 7 = 1) = false from decide_eq_false q1, zt_f, if_pos rfl]
      by_cases q2 : zN S 4 < zd (zF S t 1) c
      · rw [if_pos q2, show zS_ok S c t = false from decide_eq_false (by omega)]
        rfl
      · rw [if_neg q2, show zS_ok S c t = true from decide_eq_true (by omega)]
        cases hd with
        | none => rfl
        | some u =>
          have hu := hh u rfl
          have b := zF_all h hu
          show (if nI u = (-1 : Int32) then _ else _) = _
          rw [if_neg (zO_m1 (by omega))]
          show zu_b1 (fn_Land_isNearer X r (nI t) (nI u) (nI c)) _ = _
          rw [ze_nr hr hL h ht' hu hc, zp_b1]
          show _ = some (zO (zS_hl S c d (t + 1) (if (true && zS_nr S c t u) = true then some t else some u)))
          cases zS_nr S c t u <;> rfl
theorem ze_hand {X : IX} {S : Nat → Int32} {o r : Nat} (hr : r = 20 + o) (hL : zI_LI X o S) (h : zI_WF S) {c : Nat} (hc : c < 24) : fn_Land_handFor X r (nI c) = some (zO (zS_hand S c)) := by
  have n1 := (zW_1 h).2
  unfold fn_Land_handFor
  rw [ze_st hr hL h hc, zp_b1]
  unfold zS_hand
  cases zS_st S c with
  | true => rfl
  | false => exact zS_hl_P hr hL h hc _ 0 400 none (by omega) (by omega) (fun u e => by cases e)
theorem zS_hl_M {X : IX} {S : Nat → Int32} (e : X 96 = S) (h : zI_WF S) {c : Nat} (hc : c < 24) : ∀ (d t n : Nat) (hd : Option Nat), t + d = zN S 1 → d < n → (∀ u, hd = some u → u < zN S 1) → fn_Mod_nearest_L4 X n (nI c) (zO hd) (nI t) = some (zO (zS_hl S c d t hd)) := by
  have n1 := zW_1 h
  have f4 := zW_4 h
  have t1 : X 96 1 = nI (zN S 1) := by rw [e]; exact n1.1
  have t7 : X 96 4 = nI (zN S 4) := by rw [e]; exact f4.1
  intro d
  induction d with
  | zero =>
    intro t n hd ht hdn _
    obtain ⟨m, rfl⟩ : ∃ m, n = m + 1 := ⟨n - 1, by omega⟩
    show fn_Mod_nearest_B4 _ _ _ _ _ = _
    unfold fn_Mod_nearest_B4
    rw [t1, if_pos ((nI_leI (by omega) (by omega)).mpr (by omega))]
    rfl
  | succ d ih =>
    intro t n hd ht hdn hh
    obtain ⟨m, rfl⟩ : ∃ m, n = m + 1 := ⟨n - 1, by omega⟩
    have ht' : t < zN S 1 := by omega
    have a := zF_all h ht'
    have dl := zd_le h ht' hc
    have i1 := ih (t + 1) m hd (by omega) (by omega) hh
    have i2 := ih (t + 1) m (some t) (by omega) (by omega) (fun u e => by cases e; exact ht')
    have i2' : fn_Mod_nearest_L4 X m (nI c) (nI t) (nI (t + 1)) = _ := i2
    have f1 : fn_Mod_its X (nI t) (1 : Int32) = _ := zf_M e h ht' (f := 1) (by omega)
    have f7 : fn_Mod_its X (nI t) (7 : Int32) = _ := zf_M e h ht' (f := 7) (by omega)
    show fn_Mod_nearest_B4 X (fn_Mod_nearest_L4 X m) _ _ _ = some (zO (zS_hl S c d (t + 1) (if (zS_ok S c t && zS_nh S c t hd) = true then some t else hd)))
    unfold fn_Mod_nearest_B4 fn_Mod_nearest_L52
    rw [t1, if_neg (nI_ge (a := t) (by omega) (by omega)), t7]
    have c1 : nI (zN S 4) < nI (zd (zF S t 1) c) ↔ zN S 4 < zd (zF S t 1) c := nI_ltI (by omega) (by omega)
    have sz := (zd_P ⟨zF S t 1, by omega⟩ ⟨c, hc⟩).2.1
    simp only [] at sz
    simp only [f1, f7, zp_b1, sz, zp_nx, c1]
    have c7 : (nI (zF S t 7) = (0 : Int32)) ↔ zF S t 7 = 0 := nI_eq (b := 0) (by omega) (by omega)
    simp only [c7]
    have flow : ∀ fl : Bool, fn_Mod_nearest_L53 X (fn_Mod_nearest_L4 X m) (nI c) (zO hd) (nI t) (nI (zd (zF S t 1) c)) (zt fl) = some (zO (zS_hl S c d (t + 1) (if (fl && zS_nh S c t hd) = true then some t else hd))) := by
      intro fl
      unfold fn_Mod_nearest_L53 fn_Mod_nearest_L75 fn_Mod_nearest_L111 fn_Mod_nearest_L115 fn_Mod_nearest_L116
      simp only [zp_nx, nI_1, i1, i2']
      cases hd with
      | none =>
        rw [if_neg (show ¬ (0 : Int32) ≤ zO none by decide), if_pos (show nI (zd (zF S t 1) c) < (99 : Int32) from (nI_ltI (b := 99) (by omega) (by omega)).mpr (by omega))]
        cases fl <;> rfl
      | some u =>
        have hu := hh u rfl
        have b := zF_all h hu
        have dl2 := zd_le h hu hc
        have g1 : fn_Mod_its X (zO (some u)) (1 : Int32) = some (nI (zF S u 1)) := zf_M e h hu (f := 1) (by omega)
        have sz2 := (zd_P ⟨zF S u 1, by omega⟩ ⟨c, hc⟩).2.1
        simp only [] at sz2
        rw [if_pos (show (0 : Int32) ≤ zO (some u) from zn_0le (by omega))]
        simp only [g1, f1, zp_b1, sz2]
        have c2 : nI (zd (zF S t 1) c) < nI (zd (zF S u 1) c) ↔ zd (zF S t 1) c < zd (zF S u 1) c := nI_ltI (by omega) (by omega)
        have c3 : nI (zd (zF S t 1) c) = nI (zd (zF S u 1) c) ↔ zd (zF S t 1) c = zd (zF S u 1) c := nI_eq (by omega) (by omega)
        have c4 : nI (zF S u 1) ≤ nI (zF S t 1) ↔ zF S u 1 ≤ zF S t 1 := nI_leI (by omega) (by omega)
        simp only [c2, c3, c4]
        show _ = some (zO (zS_hl S c d (t + 1) (if (fl && zS_nr S c t u) = true then some t else some u)))
        cases fl with
        | false => rfl
        | true =>
          rw [if_neg (show ¬ zt true = 0 by decide)]
          unfold zS_nr
          by_cases q1 : zd (zF S t 1) c < zd (zF S u 1) c
          · rw [if_pos q1, decide_eq_true (Or.inl q1)]; rfl
          · rw [if_neg q1]
            by_cases q2 : zd (zF S t 1) c = zd (zF S u 1) c
            · rw [if_pos q2]
              by_cases q3 : zF S u 1 ≤ zF S t 1
              · rw [if_pos q3, decide_eq_false (by omega)]; rfl
              · rw [if_neg q3, decide_eq_true (by omega)]; rfl
            · rw [if_neg q2, decide_eq_false (by omega)]; rfl
    have fl0 : fn_Mod_nearest_L53 X (fn_Mod_nearest_L4 X m) (nI c) (zO hd) (nI t) (nI (zd (zF S t 1) c)) 0 = _ := flow false
    have fl1 : fn_Mod_nearest_L53 X (fn_Mod_nearest_L4 X m) (nI c) (zO hd) (nI t) (nI (zd (zF S t 1) c)) 1 = _ := flow true
    rw [fl0, fl1]
    by_cases q1 : zF S t 7 = 0
    · rw [if_pos q1]
      by_cases q2 : zN S 4 < zd (zF S t 1) c
      · rw [if_pos q2, show zS_ok S c t = false from decide_eq_false (by omega)]
      · rw [if_neg q2, show zS_ok S c t = true from decide_eq_true (by omega)]
    · rw [if_neg q1, show zS_ok S c t = false from decide_eq_false (by omega)]
theorem zm_near {X : IX} {S : Nat → Int32} (e : X 96 = S) (h : zI_WF S) {c : Nat} (hc : c < 24) : fn_Mod_nearest X (nI c) = some (zO (zS_hl S c (zN S 1) 0 none)) := zS_hl_M e h hc _ 0 400 none (by omega) (by have := (zW_1 h).2; omega) (fun u e => by cases e)
theorem st_next {X : IX} {Y : LX} (hI : zI_INV X) (a1 : Int32) : ∃ (v : Int32) (X1 : IX) (X2 : IX), fn_Post_next a1 X = some (v, X1) ∧ fn_Mod_next a1 X1 = some (v, X2) ∧ zI_INV X2 := by
  have n10 : ((1 : Int32) = 0) = False := by decide
  obtain ⟨X1, X2, e1, e2, e3, e4⟩ := zI_both2 hI (f := -1000001) 0 (by decide) (by decide)
  obtain ⟨X1s, X2s, s1, s2, s3, s4⟩ := zI_both2 hI (f := -1000004) 3 (by decide) (by decide)
  rcases (Bool.eq_false_or_eq_true (zw 0 a1 23)).symm with hg | hg
  · refine ⟨-1000001, X1, X2, ?_, ?_, e3⟩
    · cases h1 : zw 0 a1 23 <;> first
        | exact absurd hg (by rw [h1]; decide)
        | simp only [fn_Post_next, ze_isCell, h1, zp_b1, zp_b2, zp_nx, zt_f, zt_t, e1, n10, Bool.and_true, Bool.and_false, Bool.true_and, Bool.false_and, ↓reduceIte]
    · cases h1 : zw 0 a1 23 <;> first
        | exact absurd hg (by rw [h1]; decide)
        | simp only [fn_Mod_next, ze_mCell, h1, zp_b1, zp_b2, zp_nx, zt_f, zt_t, e2, n10, Bool.and_true, Bool.and_false, Bool.true_and, Bool.false_and, ↓reduceIte]
  have h1 := hg
  obtain ⟨c, hc, rfl⟩ := zw_n (m := 23) (by decide) h1
  have hW := hI.1.2
  have hn := (zI_1 hI).2
  have ph := ze_hand rfl hI.1.1 hW (show c < 24 by omega)
  have m96 : X1s 96 = X 96 := s4 96 (by decide)
  have qs := zm_st m96 hW (show c < 24 by omega)
  have qn := zm_near m96 hW (show c < 24 by omega)
  have qs' := zm_st (X := X) rfl hW (show c < 24 by omega)
  have qn' := zm_near (X := X) rfl hW (show c < 24 by omega)
  cases hh : zS_hand (X 96) c with
  | none =>
    refine ⟨-1000004, X1s, X2s, ?_, ?_, s3⟩
    · rw [hh] at ph
      simp only [fn_Post_next, fn_Post_next_L38, ze_isCell, h1, zp_b1, zp_b2, zt_t, n10, ↓reduceIte, ph, if_pos (show zO none = (-1 : Int32) from rfl), s1]
    · simp only [fn_Mod_next, fn_Mod_next_L31, fn_Mod_next_L46, ze_mCell, h1, zp_b1, zp_b2, zt_t, n10, ↓reduceIte, qs, qn, s2]
      unfold zS_hand at hh
      cases hs : zS_st (X 96) c with
      | true => rfl
      | false =>
        rw [hs] at hh
        have hh' : zS_hl (X 96) c (zN (X 96) 1) 0 none = none := hh
        rw [hh']
        rfl
  | some t =>
    have ht := zS_hand_lt hh
    refine ⟨nI t, X, X, ?_, ?_, hI⟩
    · rw [hh] at ph
      simp only [fn_Post_next, fn_Post_next_L38, ze_isCell, h1, zp_b1, zp_b2, zt_t, n10, ↓reduceIte, ph, if_neg (show ¬ zO (some t) = (-1 : Int32) from zO_m1 (by omega))]
      rfl
    · have hs := zS_hand_st hh
      unfold zS_hand at hh
      rw [hs] at hh
      have hh' : zS_hl (X 96) c (zN (X 96) 1) 0 none = some t := hh
      simp only [fn_Mod_next, fn_Mod_next_L31, fn_Mod_next_L46, ze_mCell, h1, zp_b1, zp_b2, zt_t, n10, ↓reduceIte, qs', qn', hs, hh', zt_f, if_pos (show (0 : Int32) ≤ zO (some t) from zn_0le (by omega))]
      rfl
