/-! gifts -/
theorem zsu_mono {p q : Nat → Nat} : ∀ n, (∀ t, t < n → p t ≤ q t) → zsu p n ≤ zsu q n := by
  intro n
  induction n with
  | zero => intro _; exact Nat.le_refl _
  | succ n ih =>
    intro h
    have a := ih (fun t ht => h t (by omega))
    have b := h n (by omega)
    show zsu p n + p n ≤ zsu q n + q n
    omega
theorem zsu_strict {p q : Nat → Nat} : ∀ n a, a < n → (∀ t, t < n → p t ≤ q t) → p a < q a → zsu p n < zsu q n := by
  intro n
  induction n with
  | zero => intro a ha; omega
  | succ n ih =>
    intro a ha h hs
    have b := h n (by omega)
    show zsu p n + p n < zsu q n + q n
    by_cases e : a = n
    · subst e
      have := zsu_mono a (fun t ht => h t (by omega))
      omega
    · have := ih a (by omega) (fun t ht => h t (by omega)) hs
      omega
def zgi (w : Nat → Nat) (M t : Nat) : Nat := if w t = M then 0 else 1
def zgc (w : Nat → Nat) (M n : Nat) : Nat := zsu (zgi w M) n
theorem zgc_le (w : Nat → Nat) (M : Nat) : ∀ n, zgc w M n ≤ n := by
  intro n
  induction n with
  | zero => exact Nat.le_refl _
  | succ n ih =>
    show zsu (zgi w M) n + zgi w M n ≤ n + 1
    have : zgi w M n ≤ 1 := by unfold zgi; split <;> omega
    unfold zgc at ih
    omega
theorem zgc_0 {w : Nat → Nat} {M n : Nat} (h : zgc w M n = 0) : ∀ t, t < n → w t = M := by
  intro t ht
  have := zsu_ge (zgi w M) n t ht
  unfold zgc at h
  have z : zgi w M t = 0 := by omega
  unfold zgi at z
  by_cases e : w t = M
  · exact e
  · rw [if_neg e] at z; omega
def zMa (w : Nat → Nat) : Nat → Nat → Nat → Nat
  | 0, _, b => b
  | d + 1, t, b => zMa w d (t + 1) (if w t ≤ w b then b else t)
def zMi (w : Nat → Nat) : Nat → Nat → Nat → Nat
  | 0, _, b => b
  | d + 1, t, b => zMi w d (t + 1) (if w b ≤ w t then b else t)
theorem zMa_lt (w : Nat → Nat) {n : Nat} : ∀ d t b, t + d = n → b < n → zMa w d t b < n := by
  intro d
  induction d with
  | zero => intro t b _ hb; exact hb
  | succ d ih =>
    intro t b ht hb
    refine ih (t + 1) _ (by omega) ?_
    split <;> omega
theorem zMi_lt (w : Nat → Nat) {n : Nat} : ∀ d t b, t + d = n → b < n → zMi w d t b < n := by
  intro d
  induction d with
  | zero => intro t b _ hb; exact hb
  | succ d ih =>
    intro t b ht hb
    refine ih (t + 1) _ (by omega) ?_
    split <;> omega
def zgm (w : Nat → Nat) (n : Nat) : Nat := zMa w (n - 1) 1 0
def zgl (w : Nat → Nat) (n : Nat) : Nat := zMi w (n - 1) 1 0
def zgg (w : Nat → Nat) (M n : Nat) : Nat := min (w (zgm w n) - M) (M - w (zgl w n))
def zgw (w : Nat → Nat) (M n : Nat) : Nat → Nat := fun t => if t = zgm w n then w t - zgg w M n else if t = zgl w n then w t + zgg w M n else w t
def zG (M n : Nat) : Nat → (Nat → Nat) → Nat → Nat
  | 0, _, k => k
  | f + 1, w, k => if M < w (zgm w n) ∧ w (zgl w n) < M then zG M n f (zgw w M n) (k + 1) else k
theorem zgw_dec {w : Nat → Nat} {M n : Nat} (hn : 0 < n) (h1 : M < w (zgm w n)) (h2 : w (zgl w n) < M) : zgc (zgw w M n) M n < zgc w M n := by
  have a := zMa_lt w (n := n) (n - 1) 1 0 (by omega) hn
  have b := zMi_lt w (n := n) (n - 1) 1 0 (by omega) hn
  have a' : zgm w n < n := a
  have b' : zgl w n < n := b
  have ne : zgl w n ≠ zgm w n := by
    intro e
    rw [e] at h2
    omega
  have vm : zgw w M n (zgm w n) = w (zgm w n) - zgg w M n := if_pos rfl
  have vl : zgw w M n (zgl w n) = w (zgl w n) + zgg w M n := by
    unfold zgw
    rw [if_neg ne, if_pos rfl]
  have le : ∀ t, t < n → zgi (zgw w M n) M t ≤ zgi w M t := by
    intro t ht
    by_cases e1 : t = zgm w n
    · have z : zgi w M t = 1 := by unfold zgi; rw [if_neg (by rw [e1]; omega)]
      have : zgi (zgw w M n) M t ≤ 1 := by unfold zgi; split <;> omega
      omega
    · by_cases e2 : t = zgl w n
      · have z : zgi w M t = 1 := by unfold zgi; rw [if_neg (by rw [e2]; omega)]
        have : zgi (zgw w M n) M t ≤ 1 := by unfold zgi; split <;> omega
        omega
      · have z : zgw w M n t = w t := by unfold zgw; rw [if_neg e1, if_neg e2]
        unfold zgi
        rw [z]
        exact Nat.le_refl _
  by_cases q : w (zgm w n) - M ≤ M - w (zgl w n)
  · have g : zgg w M n = w (zgm w n) - M := by unfold zgg; omega
    refine zsu_strict n (zgm w n) a' le ?_
    unfold zgi
    rw [if_pos (by omega), if_neg (by omega)]
    omega
  · have g : zgg w M n = M - w (zgl w n) := by unfold zgg; omega
    refine zsu_strict n (zgl w n) b' le ?_
    unfold zgi
    rw [if_pos (by omega), if_neg (by omega)]
    omega
theorem zgw_b {w : Nat → Nat} {M n B : Nat} (hM : M ≤ B) (hw : ∀ t, t < n → w t ≤ B) (h2 : w (zgl w n) < M) : ∀ t, t < n → zgw w M n t ≤ B := by
  intro t ht
  have := hw t ht
  unfold zgw
  split
  · omega
  · split
    · rename_i e
      have : zgg w M n ≤ M - w (zgl w n) := by unfold zgg; omega
      rw [e]
      omega
    · omega
/-! in the class -/
theorem zl_mst {X : IX} {w : Nat → Nat} {n B : Nat} (hn : n ≤ 10) (hB : B < 2 ^ 30) (hw : ∀ t, t < n → w t ≤ B) (x4 : X 22 4 = nI n) (xw : ∀ t, t < n → X (zu_th (22 + 6) t + 30) 8 = nI (w t)) : ∀ (d t f b : Nat), t + d = n → d < f → b < n → fn_Land_withMostThanks_L9 X f 22 (zu_th (22 + 6) b) (nI t) = some (zu_th (22 + 6) (zMa w d t b)) := by
  intro d
  induction d with
  | zero =>
    intro t f b ht hf hb
    obtain ⟨m, rfl⟩ : ∃ m, f = m + 1 := ⟨f - 1, by omega⟩
    show fn_Land_withMostThanks_B9 _ _ _ _ _ = _
    unfold fn_Land_withMostThanks_B9
    rw [x4, if_pos ((nI_leI (by omega) (by omega)).mpr (by omega))]
    rfl
  | succ d ih =>
    intro t f b ht hf hb
    obtain ⟨m, rfl⟩ : ∃ m, f = m + 1 := ⟨f - 1, by omega⟩
    have w1 := hw t (by omega)
    have w2 := hw b hb
    have c1 : nI (w t) ≤ nI (w b) ↔ w t ≤ w b := nI_leI (by omega) (by omega)
    show fn_Land_withMostThanks_B9 X (fn_Land_withMostThanks_L9 X m) _ _ _ = some (zu_th (22 + 6) (zMa w d (t + 1) _))
    unfold fn_Land_withMostThanks_B9 fn_Land_withMostThanks_L46
    rw [x4, if_neg (nI_ge (a := t) (by omega) (by omega)), zn_ib (show t < 10 by omega) (by decide), zr_gd, zr_gd, zn_cl (by omega), xw t (by omega), xw b hb, zr_nx, zr_nx, nI_1]
    by_cases q : w t ≤ w b
    · rw [if_pos (c1.mpr q), if_pos q]; exact ih (t + 1) m b (by omega) (by omega) hb
    · rw [if_neg (fun z => q (c1.mp z)), if_neg q]; exact ih (t + 1) m t (by omega) (by omega) (by omega)
theorem zl_lst {X : IX} {w : Nat → Nat} {n B : Nat} (hn : n ≤ 10) (hB : B < 2 ^ 30) (hw : ∀ t, t < n → w t ≤ B) (x4 : X 22 4 = nI n) (xw : ∀ t, t < n → X (zu_th (22 + 6) t + 30) 8 = nI (w t)) : ∀ (d t f b : Nat), t + d = n → d < f → b < n → fn_Land_withLeastThanks_L9 X f 22 (zu_th (22 + 6) b) (nI t) = some (zu_th (22 + 6) (zMi w d t b)) := by
  intro d
  induction d with
  | zero =>
    intro t f b ht hf hb
    obtain ⟨m, rfl⟩ : ∃ m, f = m + 1 := ⟨f - 1, by omega⟩
    show fn_Land_withLeastThanks_B9 _ _ _ _ _ = _
    unfold fn_Land_withLeastThanks_B9
    rw [x4, if_pos ((nI_leI (by omega) (by omega)).mpr (by omega))]
    rfl
  | succ d ih =>
    intro t f b ht hf hb
    obtain ⟨m, rfl⟩ : ∃ m, f = m + 1 := ⟨f - 1, by omega⟩
    have w1 := hw t (by omega)
    have w2 := hw b hb
    have c1 : nI (w b) ≤ nI (w t) ↔ w b ≤ w t := nI_leI (by omega) (by omega)
    show fn_Land_withLeastThanks_B9 X (fn_Land_withLeastThanks_L9 X m) _ _ _ = some (zu_th (22 + 6) (zMi w d (t + 1) _))
    unfold fn_Land_withLeastThanks_B9 fn_Land_withLeastThanks_L46
    rw [x4, if_neg (nI_ge (a := t) (by omega) (by omega)), zn_ib (show t < 10 by omega) (by decide), zr_gd, zr_gd, zn_cl (by omega), xw t (by omega), xw b hb, zr_nx, zr_nx, nI_1]
    by_cases q : w b ≤ w t
    · rw [if_pos (c1.mpr q), if_pos q]; exact ih (t + 1) m b (by omega) (by omega) hb
    · rw [if_neg (fun z => q (c1.mp z)), if_neg q]; exact ih (t + 1) m t (by omega) (by omega) (by omega)
theorem zg_le0 {a b : Nat} (ha : a < 2 ^ 30) (hb : b < 2 ^ 30) : (nI a - nI b ≤ (0 : Int32)) ↔ a ≤ b := by
  rw [zn_le, pk_sub_toInt ha hb]
  have e0 : (0 : Int32).toInt = 0 := rfl
  rw [e0]
  omega
theorem zg_lt0 {a b : Nat} (ha : a < 2 ^ 30) (hb : b < 2 ^ 30) : ((0 : Int32) < nI a - nI b) ↔ b < a := by
  rw [zn_lt, pk_sub_toInt ha hb]
  have e0 : (0 : Int32).toInt = 0 := rfl
  rw [e0]
  omega
theorem zl_gf_P {M n B : Nat} (hn : n ≤ 10) (hn0 : 0 < n) (hB : B < 2 ^ 29) (hM : M ≤ B) : ∀ (u g f k : Nat) (w : Nat → Nat) (X : IX), zgc w M n ≤ u → u + g ≤ 10 → u < f → (∀ t, t < n → w t ≤ B) → X 22 4 = nI n → (∀ t, t < n → X (zu_th (22 + 6) t + 30) 8 = nI (w t)) → ∃ X', fn_Post_gifts_L43 f (nI M) (nI k) (nI g) X = some (nI (zG M n u w k), X') ∧ zT X X' := by
  intro u
  induction u with
  | zero =>
    intro g f k w X hu hg hf hw x4 xw
    obtain ⟨m, rfl⟩ : ∃ m, f = m + 1 := ⟨f - 1, by omega⟩
    refine ⟨X, ?_, zT.rf X⟩
    have all := zgc_0 (show zgc w M n = 0 by omega)
    have ma : fn_Land_withMostThanks X 22 = some (zu_th (22 + 6) (zgm w n)) := zl_mst hn (show B < 2 ^ 30 by omega) hw x4 xw (n - 1) 1 400 0 (by omega) (by omega) hn0
    have mi : fn_Land_withLeastThanks X 22 = some (zu_th (22 + 6) (zgl w n)) := zl_lst hn (show B < 2 ^ 30 by omega) hw x4 xw (n - 1) 1 400 0 (by omega) (by omega) hn0
    have a' : zgm w n < n := zMa_lt w (n - 1) 1 0 (by omega) hn0
    show fn_Post_gifts_B43 _ _ _ _ _ = _
    unfold fn_Post_gifts_B43 fn_Post_gifts_L142
    rw [ma, zr_b1, mi, zr_b1, zr_nx, zr_nx, xw _ a', all _ a', if_pos ((zg_le0 (by omega) (by omega)).mpr (Nat.le_refl M))]
    split <;> rfl
  | succ u ih =>
    intro g f k w X hu hg hf hw x4 xw
    obtain ⟨m, rfl⟩ : ∃ m, f = m + 1 := ⟨f - 1, by omega⟩
    have ma : fn_Land_withMostThanks X 22 = some (zu_th (22 + 6) (zgm w n)) := zl_mst hn (show B < 2 ^ 30 by omega) hw x4 xw (n - 1) 1 400 0 (by omega) (by omega) hn0
    have mi : fn_Land_withLeastThanks X 22 = some (zu_th (22 + 6) (zgl w n)) := zl_lst hn (show B < 2 ^ 30 by omega) hw x4 xw (n - 1) 1 400 0 (by omega) (by omega) hn0
    have a' : zgm w n < n := zMa_lt w (n - 1) 1 0 (by omega) hn0
    have b' : zgl w n < n := zMi_lt w (n - 1) 1 0 (by omega) hn0
    have wa := hw _ a'
    have wb := hw _ b'
    show ∃ X', fn_Post_gifts_B43 (fn_Post_gifts_L43 m) _ _ _ _ = some (nI (if M < w (zgm w n) ∧ w (zgl w n) < M then zG M n u (zgw w M n) (k + 1) else k), X') ∧ _
    unfold fn_Post_gifts_B43 fn_Post_gifts_L142
    rw [if_neg (show ¬ (10 : Int32) ≤ nI g from nI_ge (a := g) (b := 10) (by omega) (by omega)), ma, zr_b1, mi, zr_b1, zr_nx, zr_nx, xw _ a', xw _ b']
    by_cases q1 : w (zgm w n) ≤ M
    · rw [if_pos ((zg_le0 (by omega) (by omega)).mpr q1), if_neg (by omega)]
      exact ⟨X, rfl, zT.rf X⟩
    · rw [if_neg (fun z => q1 ((zg_le0 (by omega) (by omega)).mp z))]
      by_cases q2 : w (zgl w n) < M
      · rw [if_pos ((zg_lt0 (by omega) (by omega)).mpr q2), if_pos (show M < w (zgm w n) ∧ w (zgl w n) < M from ⟨by omega, q2⟩)]
        have ne : zgl w n ≠ zgm w n := by
          intro e
          rw [e] at q2
          omega
        have gv : (if nI M - nI (w (zgl w n)) < nI (w (zgm w n)) - nI M then nI M - nI (w (zgl w n)) else nI (w (zgm w n)) - nI M) = nI (zgg w M n) := by
          rw [pk_sub (by omega), pk_sub (by omega)]
          have c : nI (M - w (zgl w n)) < nI (w (zgm w n) - M) ↔ M - w (zgl w n) < w (zgm w n) - M := nI_ltI (by omega) (by omega)
          unfold zgg
          by_cases z : M - w (zgl w n) < w (zgm w n) - M
          · rw [if_pos (c.mpr z)]; congr 1; omega
          · rw [if_neg (fun y => z (c.mp y))]; congr 1; omega
        have gl : zgg w M n ≤ w (zgm w n) := by unfold zgg; omega
        obtain ⟨Xa, hXa⟩ : ∃ Xa : IX, Xa = zu_st X (zu_th (22 + 6) (zgm w n) + 30) 8 (nI (w (zgm w n) - zgg w M n)) := ⟨_, rfl⟩
        have xl : Xa (zu_th (22 + 6) (zgl w n) + 30) 8 = nI (w (zgl w n)) := by
          rw [hXa, zs_other _ _ _ (by unfold zu_th; omega)]
          exact xw _ b'
        obtain ⟨Xb, hXb⟩ : ∃ Xb : IX, Xb = zu_st Xa (zu_th (22 + 6) (zgl w n) + 30) 8 (nI (w (zgl w n) + zgg w M n)) := ⟨_, rfl⟩
        have rr : ∀ t, t < n → zR 2 (zu_th (22 + 6) t + 30) = true := by
          intro t ht
          have := zR2_pr (30 + 9 * t + 8) (by omega)
          rw [(zL_p30 2 t 8 (by omega) (by omega)).1] at this
          exact this
        have Tb : zT X Xb := by
          rw [hXb, hXa]
          exact ((zT.rf X).st (rr _ a')).st (rr _ b')
        obtain ⟨X', p1, p2⟩ := ih (g + 1) m (k + 1) (zgw w M n) Xb (by have := zgw_dec hn0 (show M < w (zgm w n) by omega) q2; omega) (by omega) (by omega) (zgw_b hM hw q2) (by rw [hXb, zs_other _ _ _ (by unfold zu_th; omega), hXa, zs_other _ _ _ (by unfold zu_th; omega)]; exact x4) (fun t ht => by
          unfold zgw
          by_cases e1 : t = zgm w n
          · rw [if_pos e1, e1, hXb, zs_other _ _ _ (by unfold zu_th; omega), hXa, zs_st, if_pos ⟨rfl, rfl⟩]
          · rw [if_neg e1]
            by_cases e2 : t = zgl w n
            · rw [if_pos e2, e2, hXb, zs_st, if_pos ⟨rfl, rfl⟩]
            · rw [if_neg e2, hXb, zs_other _ _ _ (by unfold zu_th; omega), hXa, zs_other _ _ _ (by unfold zu_th; omega)]
              exact xw t ht)
        refine ⟨X', ?_, Tb.tr p2⟩
        rw [gv, zr_nx, pk_sub gl, zr_nx, ← hXa, xl, nI_add, zr_nx, ← hXb, zr_nx, zr_nx, nI_1, nI_1]
        exact p1
      · rw [if_neg (fun z => q2 ((zg_lt0 (by omega) (by omega)).mp z)), if_neg (by omega)]
        exact ⟨X, rfl, zT.rf X⟩
/-! in the reference -/
theorem zm_mm (k45 : Int32 → Int32 → Int32 → IX → Option (Int32 × IX)) {X : IX} {w : Nat → Nat} {n B : Nat} (hn : n ≤ 10) (hB : B < 2 ^ 30) (hw : ∀ t, t < n → w t ≤ B) (x1 : X 96 1 = nI n) (xw : ∀ t, t < n → X 103 t = nI (w t)) (M k : Int32) : ∀ (d t f b c : Nat), t + d = n → d < f → b < n → c < n → fn_Mod_gifts_L59 k45 f M k (nI b) (nI c) (nI t) X = (if nI (w (zMa w d t b)) - M ≤ 0 then fn_Mod_gifts_L164 k45 M k (nI (zMa w d t b)) (nI (zMi w d t c)) (nI (w (zMa w d t b)) - M) (M - nI (w (zMi w d t c))) X else if M - nI (w (zMi w d t c)) ≤ 0 then fn_Mod_gifts_L164 k45 M k (nI (zMa w d t b)) (nI (zMi w d t c)) (nI (w (zMa w d t b)) - M) (M - nI (w (zMi w d t c))) X else fn_Mod_gifts_L165 k45 M k (nI (zMa w d t b)) (nI (zMi w d t c)) (nI (w (zMa w d t b)) - M) (M - nI (w (zMi w d t c))) 1 X) := by
  intro d
  induction d with
  | zero =>
    intro t f b c ht hf hb hc
    obtain ⟨m, rfl⟩ : ∃ m, f = m + 1 := ⟨f - 1, by omega⟩
    show fn_Mod_gifts_B59 _ _ _ _ _ _ _ _ = _
    unfold fn_Mod_gifts_B59
    rw [x1, if_pos ((nI_leI (by omega) (by omega)).mpr (by omega)), zn_ib (show b < 10 by omega) (by decide), zr_gd, zr_nx, zn_ib (show c < 10 by omega) (by decide), zr_gd, zr_nx, zn_cl (by omega), zn_cl (by omega), xw b hb, xw c hc]
    rfl
  | succ d ih =>
    intro t f b c ht hf hb hc
    obtain ⟨m, rfl⟩ : ∃ m, f = m + 1 := ⟨f - 1, by omega⟩
    have w1 := hw t (by omega)
    have w2 := hw b hb
    have w3 := hw c hc
    have c1 : nI (w t) ≤ nI (w b) ↔ w t ≤ w b := nI_leI (by omega) (by omega)
    have c2 : nI (w c) ≤ nI (w t) ↔ w c ≤ w t := nI_leI (by omega) (by omega)
    have sa : zMa w (d + 1) t b = zMa w d (t + 1) (if w t ≤ w b then b else t) := rfl
    have si : zMi w (d + 1) t c = zMi w d (t + 1) (if w c ≤ w t then c else t) := rfl
    have hb2 : (if w t ≤ w b then b else t) < n := by split <;> omega
    have hc2 : (if w c ≤ w t then c else t) < n := by split <;> omega
    rw [sa, si, ← ih (t + 1) m _ _ (by omega) (by omega) hb2 hc2]
    show fn_Mod_gifts_B59 k45 (fn_Mod_gifts_L59 k45 m) _ _ _ _ _ _ = _
    unfold fn_Mod_gifts_B59 fn_Mod_gifts_L94 fn_Mod_gifts_L120
    rw [x1, if_neg (nI_ge (a := t) (by omega) (by omega)), zn_ib (show t < 10 by omega) (by decide), zn_ib (show b < 10 by omega) (by decide), zn_ib (show c < 10 by omega) (by decide), zr_gd, zr_gd, zn_cl (show t < 2 ^ 31 by omega), zn_cl (show b < 2 ^ 31 by omega), zn_cl (show c < 2 ^ 31 by omega), xw t (by omega), xw b hb, xw c hc]
    simp only [zr_gd, zr_nx, nI_1, c1, c2]
    by_cases q1 : w t ≤ w b
    · by_cases q2 : w c ≤ w t
      · simp only [if_pos q1, if_pos q2]
      · simp only [if_pos q1, if_neg q2]
    · by_cases q2 : w c ≤ w t
      · simp only [if_neg q1, if_pos q2]
      · simp only [if_neg q1, if_neg q2]
theorem zl_gf_M {M n B : Nat} (hn : n ≤ 10) (hn0 : 0 < n) (hB : B < 2 ^ 29) (hM : M ≤ B) : ∀ (u f k : Nat) (w : Nat → Nat) (X : IX), zgc w M n ≤ u → u + 1 < f → (∀ t, t < n → w t ≤ B) → X 96 1 = nI n → (∀ t, t < n → X 103 t = nI (w t)) → ∃ X', fn_Mod_gifts_L45 f (nI M) (nI k) 1 X = some (nI (zG M n u w k), X') ∧ ∀ a, a ≠ 103 → X' a = X a := by
  have stop : ∀ (f k : Nat) (X : IX), 0 < f → fn_Mod_gifts_L45 f (nI M) (nI k) 0 X = some (nI k, X) := by
    intro f k X hf
    obtain ⟨m, rfl⟩ : ∃ m, f = m + 1 := ⟨f - 1, by omega⟩
    rfl
  have st : ∀ (m k : Nat) (a b c d : Int32) (X : IX), 0 < m → fn_Mod_gifts_L164 (fn_Mod_gifts_L45 m) (nI M) (nI k) a b c d X = some (nI k, X) := by
    intro m k a b c d X hm
    unfold fn_Mod_gifts_L164 fn_Mod_gifts_L165 fn_Mod_gifts_L215
    rw [if_pos rfl]
    exact stop m k X hm
  intro u
  induction u with
  | zero =>
    intro f k w X hu hf hw x1 xw
    obtain ⟨m, rfl⟩ : ∃ m, f = m + 1 := ⟨f - 1, by omega⟩
    have all := zgc_0 (show zgc w M n = 0 by omega)
    have a' : zgm w n < n := zMa_lt w (n - 1) 1 0 (by omega) hn0
    have L := zm_mm (fn_Mod_gifts_L45 m) hn (show B < 2 ^ 30 by omega) hw x1 xw (nI M) (nI k) (n - 1) 1 400 0 0 (by omega) (by omega) hn0 hn0
    have L' : fn_Mod_gifts_L59 (fn_Mod_gifts_L45 m) 400 (nI M) (nI k) (0 : Int32) (0 : Int32) (1 : Int32) X = _ := L
    refine ⟨X, ?_, fun _ _ => rfl⟩
    show fn_Mod_gifts_B45 (fn_Mod_gifts_L45 m) _ _ _ _ = _
    unfold fn_Mod_gifts_B45
    have wa : w (zMa w (n - 1) 1 0) = M := all _ a'
    rw [if_neg (by decide), L', wa, if_pos ((zg_le0 (by omega) (by omega)).mpr (Nat.le_refl M)), st m k _ _ _ _ X (by omega)]
    rfl
  | succ u ih =>
    intro f k w X hu hf hw x1 xw
    obtain ⟨m, rfl⟩ : ∃ m, f = m + 1 := ⟨f - 1, by omega⟩
    have a' : zgm w n < n := zMa_lt w (n - 1) 1 0 (by omega) hn0
    have b' : zgl w n < n := zMi_lt w (n - 1) 1 0 (by omega) hn0
    have wa := hw _ a'
    have wb := hw _ b'
    have L := zm_mm (fn_Mod_gifts_L45 m) hn (show B < 2 ^ 30 by omega) hw x1 xw (nI M) (nI k) (n - 1) 1 400 0 0 (by omega) (by omega) hn0 hn0
    have L' : fn_Mod_gifts_L59 (fn_Mod_gifts_L45 m) 400 (nI M) (nI k) (0 : Int32) (0 : Int32) (1 : Int32) X = (if nI (w (zgm w n)) - nI M ≤ 0 then fn_Mod_gifts_L164 (fn_Mod_gifts_L45 m) (nI M) (nI k) (nI (zgm w n)) (nI (zgl w n)) (nI (w (zgm w n)) - nI M) (nI M - nI (w (zgl w n))) X else if nI M - nI (w (zgl w n)) ≤ 0 then fn_Mod_gifts_L164 (fn_Mod_gifts_L45 m) (nI M) (nI k) (nI (zgm w n)) (nI (zgl w n)) (nI (w (zgm w n)) - nI M) (nI M - nI (w (zgl w n))) X else fn_Mod_gifts_L165 (fn_Mod_gifts_L45 m) (nI M) (nI k) (nI (zgm w n)) (nI (zgl w n)) (nI (w (zgm w n)) - nI M) (nI M - nI (w (zgl w n))) 1 X) := L
    show ∃ X', fn_Mod_gifts_B45 (fn_Mod_gifts_L45 m) _ _ _ _ = some (nI (if M < w (zgm w n) ∧ w (zgl w n) < M then zG M n u (zgw w M n) (k + 1) else k), X') ∧ _
    unfold fn_Mod_gifts_B45
    rw [if_neg (by decide), L']
    by_cases q1 : w (zgm w n) ≤ M
    · rw [if_pos ((zg_le0 (by omega) (by omega)).mpr q1), if_neg (by omega), st m k _ _ _ _ X (by omega)]
      exact ⟨X, rfl, fun _ _ => rfl⟩
    · rw [if_neg (fun z => q1 ((zg_le0 (by omega) (by omega)).mp z))]
      by_cases q2 : w (zgl w n) < M
      · rw [if_neg (fun z => by have := (zg_le0 (by omega) (by omega)).mp z; omega), if_pos (by omega)]
        have ne : zgl w n ≠ zgm w n := by
          intro e
          rw [e] at q2
          omega
        have gl : zgg w M n ≤ w (zgm w n) := by unfold zgg; omega
        obtain ⟨Xa, hXa⟩ : ∃ Xa : IX, Xa = zu_st X 103 (zgm w n) (nI (w (zgm w n) - zgg w M n)) := ⟨_, rfl⟩
        have xl : Xa 103 (zgl w n) = nI (w (zgl w n)) := by
          rw [hXa, zs_st, if_neg (by omega)]
          exact xw _ b'
        obtain ⟨Xb, hXb⟩ : ∃ Xb : IX, Xb = zu_st Xa 103 (zgl w n) (nI (w (zgl w n) + zgg w M n)) := ⟨_, rfl⟩
        have fb : ∀ a, a ≠ 103 → Xb a = X a := fun a ha => by rw [hXb, zs_other _ _ _ ha, hXa, zs_other _ _ _ ha]
        obtain ⟨X', p1, p2⟩ := ih m (k + 1) (zgw w M n) Xb (by have := zgw_dec hn0 (show M < w (zgm w n) by omega) q2; omega) (by omega) (zgw_b hM hw q2) (by rw [fb 96 (by decide)]; exact x1) (fun t ht => by
          unfold zgw
          by_cases e1 : t = zgm w n
          · rw [if_pos e1, e1, hXb, zs_st, if_neg (by omega), hXa, zs_st, if_pos ⟨rfl, rfl⟩]
          · rw [if_neg e1]
            by_cases e2 : t = zgl w n
            · rw [if_pos e2, e2, hXb, zs_st, if_pos ⟨rfl, rfl⟩]
            · rw [if_neg e2, hXb, zs_st, if_neg (by omega), hXa, zs_st, if_neg (by omega)]
              exact xw t ht)
        refine ⟨X', ?_, fun a ha => by rw [p2 a ha, fb a ha]⟩
        have go : ∀ v : Int32, v = nI (zgg w M n) → fn_Mod_gifts_L186 (fn_Mod_gifts_L45 m) (nI M) (nI k) 1 (nI (zgm w n)) (nI (zgl w n)) v X = some (nI (zG M n u (zgw w M n) (k + 1)), X') := by
          intro v hv
          unfold fn_Mod_gifts_L186 fn_Mod_gifts_L215
          rw [hv, zn_ib (show zgm w n < 10 by omega) (by decide), zr_gd, zr_gd, zr_nx, zn_ib (show zgl w n < 10 by omega) (by decide), zr_gd, zr_gd, zr_nx, zr_nx, zn_cl (show zgm w n < 2 ^ 31 by omega), zn_cl (show zgl w n < 2 ^ 31 by omega), xw _ a', pk_sub gl, ← hXa, xl, nI_add, ← hXb, nI_1]
          exact p1
        unfold fn_Mod_gifts_L165
        rw [if_neg (by decide), pk_sub (show M ≤ w (zgm w n) by omega), pk_sub (show w (zgl w n) ≤ M by omega)]
        have c : nI (M - w (zgl w n)) ≤ nI (w (zgm w n) - M) ↔ M - w (zgl w n) ≤ w (zgm w n) - M := nI_leI (by omega) (by omega)
        by_cases z : M - w (zgl w n) ≤ w (zgm w n) - M
        · rw [if_pos (c.mpr z)]
          exact go _ (by unfold zgg; congr 1; omega)
        · rw [if_neg (fun y => z (c.mp y))]
          exact go _ (by unfold zgg; congr 1; omega)
      · rw [if_pos ((zg_le0 (by omega) (by omega)).mpr (by omega)), if_neg (by omega), st m k _ _ _ _ X (by omega)]
        exact ⟨X, rfl, fun _ _ => rfl⟩
theorem zq_su {f : Nat → Int32} {w : Nat → Nat} : ∀ (d i : Nat), (∀ j, i ≤ j → j < i + d → f j = nI (w j)) → zq f d i (nI (zsu w i)) = nI (zsu w (i + d)) := by
  intro d
  induction d with
  | zero => intro i _; rfl
  | succ d ih =>
    intro i h
    show zq f d (i + 1) (nI (zsu w i) + f i) = _
    rw [h i (by omega) (by omega), nI_add, show i + (d + 1) = i + 1 + d by omega]
    exact ih (i + 1) (fun j h1 h2 => h j (by omega) (by omega))
theorem zsu_bd {w : Nat → Nat} {B : Nat} : ∀ n, (∀ t, t < n → w t ≤ B) → zsu w n ≤ n * B := by
  intro n
  induction n with
  | zero => intro _; exact Nat.zero_le _
  | succ n ih =>
    intro h
    have a := ih (fun t ht => h t (by omega))
    have b := h n (by omega)
    show zsu w n + w n ≤ _
    rw [Nat.succ_mul]
    omega
theorem st_gifts {X : IX} {Y : LX} (hI : zI_INV X) : ∃ (v : Int32) (X1 : IX) (X2 : IX), fn_Post_gifts X = some (v, X1) ∧ fn_Mod_gifts X1 = some (v, X2) ∧ zI_INV X2 := by
  have hW := hI.1.2
  have n1 := zW_1 hW
  have n0 := zW_0 hW
  obtain ⟨n, en⟩ : ∃ n, n = zN (X 96) 1 := ⟨_, rfl⟩
  rw [← en] at n1
  have t1 : X 20 4 = nI n := by rw [(zL_h rfl hI.1.1).2.1, n1.1]
  by_cases hz : n = 0
  · subst hz
    obtain ⟨Xb, M, _, _, p3⟩ := zm_thanks hW 0 0 400 0 X rfl (by omega) (by omega)
    rw [nI_0] at M
    have M' : fn_Mod_thanksOf X = some (0, Xb) := M
    have b1 : Xb 96 1 = 0 := by rw [p3 96 (by decide), n1.1]; rfl
    refine ⟨0, X, Xb, ?_, ?_, hI.keep (fun r j q => by rw [p3 r (fun e => by subst e; cases q)])⟩
    · unfold fn_Post_gifts
      rw [t1, if_neg (by decide)]
    · unfold fn_Mod_gifts fn_Mod_gifts_L26 fn_Mod_gifts_L43
      rw [M', zr_b2, b1, if_pos rfl, if_pos (by decide)]
      rfl
  · have hn0 : 0 < n := by omega
    have fw : ∀ t, t < n → X 96 (30 + 9 * t + 8) = nI (zF (X 96) t 8) ∧ zF (X 96) t 8 ≤ 119988 := fun t ht => by
      have a := zF_all hW (show t < zN (X 96) 1 by omega)
      exact ⟨a.2.1 8 (by omega), by omega⟩
    obtain ⟨w, hw⟩ : ∃ w : Nat → Nat, w = fun t => zF (X 96) t 8 := ⟨_, rfl⟩
    have wb : ∀ t, t < n → w t ≤ 119988 := fun t ht => by rw [hw]; exact (fw t ht).2
    have wv : ∀ t, t < n → X 96 (30 + 9 * t + 8) = nI (w t) := fun t ht => by rw [hw]; exact (fw t ht).1
    have sb := zsu_bd n wb
    have sb2 : n * 119988 ≤ 10 * 119988 := Nat.mul_le_mul_right _ n1.2
    have sm : zq (fun t => X 96 (30 + 9 * t + 8)) n 0 0 = nI (zsu w n) := by
      have := zq_su (f := fun t => X 96 (30 + 9 * t + 8)) (w := w) n 0 (fun j _ hj => wv j (by omega))
      rw [Nat.zero_add] at this
      exact this
    obtain ⟨M, hM⟩ : ∃ M, M = zsu w n / n := ⟨_, rfl⟩
    have Mb : M ≤ 1199880 := by
      have : zsu w n / n ≤ zsu w n := Nat.div_le_self _ _
      omega
    have dv : nI (zsu w n) / nI n = nI M := by rw [hM]; exact pk_div (by omega) hn0 (by omega)
    have nz : ¬ nI n = (0 : Int32) := nI_ne0 hn0 (by omega)
    have cu := zgc_le w M n
    obtain ⟨Xt, be, Lt, Tt⟩ := zT_become hI
    have P : fn_Land_sumOf X 20 (8 : Int32) = _ := ze_sum (r := 20) rfl hI.1.1 hW (f := 8) (by omega) (zN (X 96) 1) 0 400 0 (by omega) (by omega)
    rw [← en, sm] at P
    have P' : fn_Land_thanksOfAll X 20 = some (nI (zsu w n)) := by
      unfold fn_Land_thanksOfAll
      rw [P, zr_b1]
    obtain ⟨Xa, p1, p2⟩ := zl_gf_P (M := M) (B := 1199880) n1.2 hn0 (by omega) Mb 10 0 400 0 w Xt (by omega) (by omega) (by omega) (fun t ht => by have := wb t ht; omega) (by rw [(zL_h (o := 2) (r := 22) rfl Lt).2.1]; exact n1.1) (fun t ht => by
      rw [zL_fact (o := 2) (r := 22) rfl Lt (by omega) (by omega)]
      exact wv t ht)
    have Ta := Tt.tr p2
    obtain ⟨Xc, m0, c1, _, c3⟩ := zm_thanks hW (zN (X 96) 1) 0 400 0 Xa Ta.r96 (by omega) (by omega)
    rw [nI_0, ← en, sm] at m0
    have m0' : fn_Mod_thanksOf Xa = some (nI (zsu w n), Xc) := m0
    have x1 : Xc 96 1 = nI n := by rw [c3 96 (by decide), Ta.r96, n1.1]
    obtain ⟨Xb, m1, m2⟩ := zl_gf_M (M := M) (B := 1199880) n1.2 hn0 (by omega) Mb 10 400 0 w Xc (by omega) (by omega) (fun t ht => by have := wb t ht; omega) x1 (fun t ht => by
      rw [c1 t (by omega) (by omega)]
      exact wv t ht)
    refine ⟨nI (zG M n 10 w 0), Xa, Xb, ?_, ?_, (hI.keep Ta.keep).keep (fun r j q => by rw [m2 r (fun e => by subst e; cases q), c3 r (fun e => by subst e; cases q)])⟩
    · unfold fn_Post_gifts
      rw [t1, if_pos (show (0 : Int32) < nI n from (nI_ltI (a := 0) (by omega) (by omega)).mpr hn0), P', zr_b1, decide_eq_true nz, zr_gd, zr_nx, dv, be, zr_b1]
      exact p1
    · unfold fn_Mod_gifts fn_Mod_gifts_L26 fn_Mod_gifts_L43
      rw [m0', zr_b2, x1, if_neg nz, decide_eq_true nz, zr_gd, dv, if_neg (nI_nle hn0 (by omega))]
      exact m1
