/-! the way of a letter, whatever the hour says -/
theorem zf_Mw {X : IX} {S : Nat → Int32} (e : ∀ k, k ≠ 0 → X 96 k = S k) (h : zI_WF S) {t f : Nat} (ht : t < zN S 1) (hf : f < 9) : fn_Mod_its X (nI t) (nI f) = some (nI (zF S t f)) := by
  have a := zF_all h ht
  rw [ze_its a.1 hf, e _ (by omega), a.2.1 f hf]
theorem zm_reachw {X : IX} {S : Nat → Int32} (e : ∀ k, k ≠ 0 → X 96 k = S k) (h : zI_WF S) {t far c : Nat} (ht : t < zN S 1) (hf : far < 2) (hc : c < 24) : fn_Mod_reach X (nI t) (nI far) (nI c) = some (nI (zR_each S t far (zg_night c))) := by
  have a := zF_all h ht
  have f0 : fn_Mod_its X (nI t) (0 : Int32) = _ := zf_Mw e h ht (f := 0) (by omega)
  have f2 : fn_Mod_its X (nI t) (2 : Int32) = _ := zf_Mw e h ht (f := 2) (by omega)
  have f3 : fn_Mod_its X (nI t) (3 : Int32) = _ := zf_Mw e h ht (f := 3) (by omega)
  have b := zg_plain_b h (far := far) ht
  have q := zg_reach_M ⟨zF S t 0, by omega⟩ ⟨zg_plain S t far - 1, by omega⟩ ⟨far, hf⟩ (zg_night c)
  simp only [Nat.sub_add_cancel b.1] at q
  have e : fn_Mod_reach_L20 X (nI t) (nI far) (nI c) (nI (zg_plain S t far)) = some (nI (zR_each S t far (zg_night c))) := by
    unfold fn_Mod_reach_L20 fn_Mod_reach_L104 fn_Mod_reach_L98
    rw [f0, zp_b1, ze_mnight hc, zp_b1]
    exact q
  unfold fn_Mod_reach
  rw [← e, f2, f3, zp_b1, zp_b1]
  unfold zg_plain
  rcases (show far = 0 ∨ far = 1 by omega) with rfl | rfl
  · rfl
  · rfl
theorem zm_surew {X : IX} {S : Nat → Int32} (e : ∀ k, k ≠ 0 → X 96 k = S k) (h : zI_WF S) {t far c : Nat} (ht : t < zN S 1) (hf : far < 2) (hc : c < 24) : fn_Mod_sure X (nI t) (nI far) (nI c) = some (nI (zR_sure S t far (zg_night c))) := by
  have a := zF_all h ht
  have f0 : fn_Mod_its X (nI t) (0 : Int32) = _ := zf_Mw e h ht (f := 0) (by omega)
  have f5 : fn_Mod_its X (nI t) (5 : Int32) = _ := zf_Mw e h ht (f := 5) (by omega)
  have q := zg_sure_M ⟨zF S t 0, by omega⟩ ⟨zF S t 5, by omega⟩ ⟨far, hf⟩ (zg_night c)
  unfold fn_Mod_sure fn_Mod_sure_L86 fn_Mod_sure_L82
  rw [f5, zp_b1, zp_nx, f0, zp_b1, ze_mnight hc, zp_b1]
  exact q
theorem zm_landingw {X : IX} {S : Nat → Int32} (e : ∀ k, k ≠ 0 → X 96 k = S k) (h : zI_WF S) {t far c : Nat} (sh : Bool) (ht : t < zN S 1) (hf : far < 2) (hc : c < 24) {a4 : Int32} (ha : a4 = 0 ↔ sh = false) : fn_Mod_landing X (nI t) (nI far) (nI c) a4 = some (nI (if sh = true then zR_short S t far (zg_night c) else zR_told S t far (zg_night c))) := by
  have a := zF_all h ht
  have b := zR_each_le h (ng := zg_night c) ht hf
  have f1 : fn_Mod_its X (nI t) (1 : Int32) = _ := zf_Mw e h ht (f := 1) (by omega)
  have f4 : fn_Mod_its X (nI t) (4 : Int32) = _ := zf_Mw e h ht (f := 4) (by omega)
  have key : ∀ off, off < 16 → fn_Mod_landing_L26 X (nI t) (nI off) = some (nI (zg_land (zF S t 1) (zF S t 4) off)) := by
    intro off ho
    have q := zg_land_M ⟨zF S t 1, by omega⟩ ⟨off, ho⟩
    unfold fn_Mod_landing_L26
    rw [f4, f1, zp_b1, zp_b1, zp_b1]
    rcases (show zF S t 4 = 0 ∨ zF S t 4 = 1 by omega) with e | e
    · rw [e, if_neg (by decide)]; exact q.2
    · rw [e, if_pos (by decide)]; exact q.1
  have k2 : ∀ n : Fin 16, fn_Mod_least0 (nI n.val - (1 : Int32)) = nI (n.val - 1) := by decide +kernel
  unfold fn_Mod_landing
  rw [zm_reachw e h ht hf hc, zp_b1, zp_nx, k2 ⟨_, by omega⟩, key _ (by omega), key _ (by omega)]
  cases sh with
  | false => rw [if_pos (ha.mpr rfl)]; rfl
  | true => rw [if_neg (fun q => by have := ha.mp q; cases this)]; rfl
theorem zm_stw {X : IX} {S : Nat → Int32} (e : ∀ k, k ≠ 0 → X 96 k = S k) (h : zI_WF S) {c : Nat} (hc : c < 24) : fn_Mod_isStaying X (nI c) = some (zt (zS_st S c)) := by
  have a := zW_3 h
  have b := zW_6 h hc
  unfold fn_Mod_isStaying fn_Mod_isStaying_L23 fn_Mod_isStaying_L28
  have e6 : (6 : Int32) + nI c = nI (6 + c) := nI_add 6 c
  rw [e 3 (by omega), a.1, e6, zn_ib (show 6 + c < 142 by omega) (by decide), zp_gd, zn_cl (by omega), e _ (by omega), b.1]
  have c1 : nI c = nI (zN S 3) ↔ c = zN S 3 := nI_eq (by omega) (by omega)
  have c2 : nI (zN S (6 + c)) = (1 : Int32) ↔ zN S (6 + c) = 1 := nI_eq (b := 1) (by omega) (by omega)
  simp only [c1, c2]
  unfold zS_st
  by_cases d1 : c = zN S 3
  · simp only [d1, ↓reduceIte, true_or]; rfl
  · by_cases d2 : zN S (6 + c) = 1
    · simp only [d1, d2, ↓reduceIte, or_true]; rfl
    · simp only [d1, d2, ↓reduceIte, or_false]; rfl
theorem zS_hl_Mw {X : IX} {S : Nat → Int32} (e : ∀ k, k ≠ 0 → X 96 k = S k) (h : zI_WF S) {c : Nat} (hc : c < 24) : ∀ (d t n : Nat) (hd : Option Nat), t + d = zN S 1 → d < n → (∀ u, hd = some u → u < zN S 1) → fn_Mod_nearest_L4 X n (nI c) (zO hd) (nI t) = some (zO (zS_hl S c d t hd)) := by
  have n1 := zW_1 h
  have f4 := zW_4 h
  have t1 : X 96 1 = nI (zN S 1) := by rw [e 1 (by omega)]; exact n1.1
  have t7 : X 96 4 = nI (zN S 4) := by rw [e 4 (by omega)]; exact f4.1
  intro d
  induction d with
  | zero =>
    intro t n hd ht hdn _
    obtain ⟨m, rfl⟩ : ∃ m, n = m + 1 := ⟨n - 1, by omega⟩
    show fn_Mod_nearest_B4 _ _ _ _ _ = _
    unfold fn_Mod_nearest_B4
    rw [t1, if_pos ((nI_leI (by omega) (by omega)).mpr (by omega))]
    rfl
  | succ d ih =>
    intro t n hd ht hdn hh
    obtain ⟨m, rfl⟩ : ∃ m, n = m + 1 := ⟨n - 1, by omega⟩
    have ht' : t < zN S 1 := by omega
    have a := zF_all h ht'
    have dl := zd_le h ht' hc
    have i1 := ih (t + 1) m hd (by omega) (by omega) hh
    have i2 := ih (t + 1) m (some t) (by omega) (by omega) (fun u e => by cases e; exact ht')
    have i2' : fn_Mod_nearest_L4 X m (nI c) (nI t) (nI (t + 1)) = _ := i2
    have f1 : fn_Mod_its X (nI t) (1 : Int32) = _ := zf_Mw e h ht' (f := 1) (by omega)
    have f7 : fn_Mod_its X (nI t) (7 : Int32) = _ := zf_Mw e h ht' (f := 7) (by omega)
    show fn_Mod_nearest_B4 X (fn_Mod_nearest_L4 X m) _ _ _ = some (zO (zS_hl S c d (t + 1) (if (zS_ok S c t && zS_nh S c t hd) = true then some t else hd)))
    unfold fn_Mod_nearest_B4 fn_Mod_nearest_L52
    rw [t1, if_neg (nI_ge (a := t) (by omega) (by omega)), t7]
    have c1 : nI (zN S 4) < nI (zd (zF S t 1) c) ↔ zN S 4 < zd (zF S t 1) c := nI_ltI (by omega) (by omega)
    have sz := (zd_P ⟨zF S t 1, by omega⟩ ⟨c, hc⟩).2.1
    simp only [] at sz
    simp only [f1, f7, zp_b1, sz, zp_nx, c1]
    have c7 : (nI (zF S t 7) = (0 : Int32)) ↔ zF S t 7 = 0 := nI_eq (b := 0) (by omega) (by omega)
    simp only [c7]
    have flow : ∀ fl : Bool, fn_Mod_nearest_L53 X (fn_Mod_nearest_L4 X m) (nI c) (zO hd) (nI t) (nI (zd (zF S t 1) c)) (zt fl) = some (zO (zS_hl S c d (t + 1) (if (fl && zS_nh S c t hd) = true then some t else hd))) := by
      intro fl
      unfold fn_Mod_nearest_L53 fn_Mod_nearest_L75 fn_Mod_nearest_L111 fn_Mod_nearest_L115 fn_Mod_nearest_L116
      simp only [zp_nx, nI_1, i1, i2']
      cases hd with
      | none =>
        rw [if_neg (show ¬ (0 : Int32) ≤ zO none by decide), if_pos (show nI (zd (zF S t 1) c) < (99 : Int32) from (nI_ltI (b := 99) (by omega) (by omega)).mpr (by omega))]
        cases fl <;> rfl
      | some u =>
        have hu := hh u rfl
        have b := zF_all h hu
        have dl2 := zd_le h hu hc
        have g1 : fn_Mod_its X (zO (some u)) (1 : Int32) = some (nI (zF S u 1)) := zf_Mw e h hu (f := 1) (by omega)
        have sz2 := (zd_P ⟨zF S u 1, by omega⟩ ⟨c, hc⟩).2.1
        simp only [] at sz2
        rw [if_pos (show (0 : Int32) ≤ zO (some u) from zn_0le (by omega))]
        simp only [g1, f1, zp_b1, sz2]
        have c2 : nI (zd (zF S t 1) c) < nI (zd (zF S u 1) c) ↔ zd (zF S t 1) c < zd (zF S u 1) c := nI_ltI (by omega) (by omega)
        have c3 : nI (zd (zF S t 1) c) = nI (zd (zF S u 1) c) ↔ zd (zF S t 1) c = zd (zF S u 1) c := nI_eq (by omega) (by omega)
        have c4 : nI (zF S u 1) ≤ nI (zF S t 1) ↔ zF S u 1 ≤ zF S t 1 := nI_leI (by omega) (by omega)
        simp only [c2, c3, c4]
        show _ = some (zO (zS_hl S c d (t + 1) (if (fl && zS_nr S c t u) = true then some t else some u)))
        cases fl with
        | false => rfl
        | true =>
          rw [if_neg (show ¬ zt true = 0 by decide)]
          unfold zS_nr
          by_cases q1 : zd (zF S t 1) c < zd (zF S u 1) c
          · rw [if_pos q1, decide_eq_true (Or.inl q1)]; rfl
          · rw [if_neg q1]
            by_cases q2 : zd (zF S t 1) c = zd (zF S u 1) c
            · rw [if_pos q2]
              by_cases q3 : zF S u 1 ≤ zF S t 1
              · rw [if_pos q3, decide_eq_false (by omega)]; rfl
              · rw [if_neg q3, decide_eq_true (by omega)]; rfl
            · rw [if_neg q2, decide_eq_false (by omega)]; rfl
    have fl0 : fn_Mod_nearest_L53 X (fn_Mod_nearest_L4 X m) (nI c) (zO hd) (nI t) (nI (zd (zF S t 1) c)) 0 = _ := flow false
    have fl1 : fn_Mod_nearest_L53 X (fn_Mod_nearest_L4 X m) (nI c) (zO hd) (nI t) (nI (zd (zF S t 1) c)) 1 = _ := flow true
    rw [fl0, fl1]
    by_cases q1 : zF S t 7 = 0
    · rw [if_pos q1]
      by_cases q2 : zN S 4 < zd (zF S t 1) c
      · rw [if_pos q2, show zS_ok S c t = false from decide_eq_false (by omega)]
      · rw [if_neg q2, show zS_ok S c t = true from decide_eq_true (by omega)]
    · rw [if_neg q1, show zS_ok S c t = false from decide_eq_false (by omega)]
theorem zm_nearw {X : IX} {S : Nat → Int32} (e : ∀ k, k ≠ 0 → X 96 k = S k) (h : zI_WF S) {c : Nat} (hc : c < 24) : fn_Mod_nearest X (nI c) = some (zO (zS_hl S c (zN S 1) 0 none)) := zS_hl_Mw e h hc _ 0 400 none (by omega) (by have := (zW_1 h).2; omega) (fun u e => by cases e)
theorem zm_L69w {X : IX} {S : Nat → Int32} (e : ∀ k, k ≠ 0 → X 96 k = S k) (h : zI_WF S) {t by_ k : Nat} (ht : t < zN S 1) (hb : by_ < 2) (hk : k < 24) : fn_Mod_goes_L69 (nI k) (nI t) (nI by_) X = some (zu_st (zu_st (zu_st (zu_st X 95 8 (nI t)) 95 5 (nI (zR_told S t by_ (zg_night k)))) 95 7 (nI (zR_short S t by_ (zg_night k)))) 95 6 (nI (zR_sure S t by_ (zg_night k)))) := by
  have q1 : ∀ Y : IX, (∀ k, k ≠ 0 → Y 96 k = S k) → fn_Mod_landing Y (nI t) (nI by_) (nI k) (0 : Int32) = some (nI (zR_told S t by_ (zg_night k))) := fun Y eY => zm_landingw eY h false ht hb hk (by decide)
  have q2 : ∀ Y : IX, (∀ k, k ≠ 0 → Y 96 k = S k) → fn_Mod_landing Y (nI t) (nI by_) (nI k) (1 : Int32) = some (nI (zR_short S t by_ (zg_night k))) := fun Y eY => zm_landingw eY h true ht hb hk (by decide)
  have r1 : ∀ (Y : IX) (j : Nat) (v : Int32), (∀ k, k ≠ 0 → Y 96 k = S k) → ∀ k, k ≠ 0 → zu_st Y 95 j v 96 k = S k := fun Y j v eY k hk => by rw [zs_other _ _ _ (by decide)]; exact eY k hk
  unfold fn_Mod_goes_L69 fn_Mod_goes_L200
  simp only [zp_nx]
  rw [q1 _ (r1 _ _ _ e), zp_b1, q2 _ (r1 _ _ _ (r1 _ _ _ e)), zp_b1, zm_surew (r1 _ _ _ (r1 _ _ _ (r1 _ _ _ e))) h ht hb hk, zp_b1]
theorem zm_goesw {X : IX} {S : Nat → Int32} (e : ∀ k, k ≠ 0 → X 96 k = S k) (h : zI_WF S) {c k by_ : Nat} (hc : c < 24) (hk : k < 24) (hb : by_ < 2) {a3 : Int32} (ha : a3 = nI by_ ∨ (a3 = -1 ∧ ∀ t, zS_on S c = some t → zF S t 6 = by_)) : ∃ X', fn_Mod_goes (nI c) (nI k) a3 X = some X' ∧ zM_at X' S c (zS_rw S c (zg_night k) by_) ∧ zV X X' := by
  obtain ⟨X4, e4⟩ : ∃ X4 : IX, X4 = zu_st (zu_st (zu_st (zu_st X 95 5 (nI c)) 95 7 (nI c)) 95 6 (12 : Int32)) 95 8 (-1 : Int32) := ⟨_, rfl⟩
  have v4 : zV X X4 := by rw [e4]; exact ((((zV.rf X).st (by omega) (by omega)).st (by omega) (by omega)).st (by omega) (by omega)).st (by omega) (by omega)
  have g5 : X4 95 5 = nI c := by rw [e4, zs_st, if_neg (by decide), zs_st, if_neg (by decide), zs_st, if_neg (by decide), zs_st, if_pos (by decide)]
  have g7 : X4 95 7 = nI c := by rw [e4, zs_st, if_neg (by decide), zs_st, if_neg (by decide), zs_st, if_pos (by decide)]
  have g6 : X4 95 6 = nI 12 := by rw [e4, zs_st, if_neg (by decide), zs_st, if_pos (by decide)]; rfl
  have g8 : X4 95 8 = (-1 : Int32) := by rw [e4, zs_st, if_pos (by decide)]
  have e96 : ∀ k, k ≠ 0 → X4 96 k = S k := fun k hk => by rw [v4.row (by decide)]; exact e k hk
  have e6 : (6 : Int32) + nI c = nI (6 + c) := nI_add 6 c
  have w3 := zW_3 h
  have w6 := zW_6 h hc
  unfold fn_Mod_goes
  simp only [zp_nx, ← e4, zm_stw e96 h hc, zp_b1]
  cases hs : zS_st S c with
  | true =>
    refine ⟨X4, rfl, ?_, v4⟩
    have hh : zS_hand S c = none := by unfold zS_hand; rw [hs]; rfl
    unfold zM_at zS_rw zS_on
    rw [hh]
    refine ⟨?_, g7, g6, g8⟩
    show _ = nI (zS_un S c)
    unfold zS_un
    rw [hs]
    exact g5
  | false =>
    rw [zt_f, if_pos rfl, zm_nearw e96 h hc, zp_b1]
    have hh : zS_hand S c = zS_hl S c (zN S 1) 0 none := by unfold zS_hand; rw [hs]; rfl
    rw [← hh]
    cases hd : zS_hand S c with
    | none =>
      rw [if_pos (show zO none < (0 : Int32) by decide)]
      unfold fn_Mod_goes_L121 fn_Mod_goes_L197 fn_Mod_goes_L200
      rw [if_pos (show zO none < (0 : Int32) by decide), e6, zn_ib (show 6 + c < 142 by omega) (by decide), zp_gd, zn_cl (by omega), e96 _ (by omega), e96 3 (by omega), w6.1, w3.1]
      have c1 : nI (zN S (6 + c)) = (3 : Int32) ↔ zN S (6 + c) = 3 := nI_eq (b := 3) (by omega) (by omega)
      have c2 : nI (zN S 3) ≤ nI c ↔ zN S 3 ≤ c := nI_leI (by omega) (by omega)
      simp only [c1, c2, zp_nx]
      have rest : ∀ (v : Nat) (X' : IX), X' 95 5 = nI v → X' 95 7 = X4 95 7 → X' 95 6 = X4 95 6 → X' 95 8 = X4 95 8 → v = zS_un S c → zM_at X' S c (zS_rw S c (zg_night k) by_) := by
        intro v X' x5 x7 x6 x8 hv
        unfold zM_at zS_rw zS_on
        rw [hd]
        exact ⟨by rw [x5, hv], by rw [x7, g7], by rw [x6, g6], by rw [x8, g8]; rfl⟩
      have un : zS_un S c = if zN S (6 + c) = 3 then (if c < zN S 3 then c + 1 else c - 1) else c := by unfold zS_un; rw [hs]; rfl
      have nh : c ≠ zN S 3 := fun q => by
        have := of_decide_eq_false hs
        exact this (Or.inl q)
      by_cases q1 : zN S (6 + c) = 3
      · rw [if_pos q1]
        by_cases q2 : zN S 3 ≤ c
        · rw [if_pos q2]
          refine ⟨_, rfl, ?_, v4.st (by omega) (by omega)⟩
          refine rest (c - 1) _ ?_ ?_ ?_ ?_ (by rw [un, if_pos q1, if_neg (by omega)])
          · rw [zs_st, if_pos (by decide)]
            obtain ⟨c', rfl⟩ : ∃ c', c = c' + 1 := ⟨c - 1, by omega⟩
            exact nI_pred c'
          · rw [zs_st, if_neg (by decide)]
          · rw [zs_st, if_neg (by decide)]
          · rw [zs_st, if_neg (by decide)]
        · rw [if_neg q2]
          refine ⟨_, rfl, ?_, v4.st (by omega) (by omega)⟩
          refine rest (c + 1) _ ?_ ?_ ?_ ?_ (by rw [un, if_pos q1, if_pos (by omega)])
          · rw [zs_st, if_pos (by decide), nI_1]
          · rw [zs_st, if_neg (by decide)]
          · rw [zs_st, if_neg (by decide)]
          · rw [zs_st, if_neg (by decide)]
      · rw [if_neg q1]
        exact ⟨X4, rfl, rest c X4 g5 rfl rfl rfl (by rw [un, if_neg q1]), v4⟩
    | some t =>
      have ht := zS_hand_lt hd
      have b := zF_all h ht
      have f1 : fn_Mod_its X4 (zO (some t)) (1 : Int32) = some (nI (zF S t 1)) := zf_Mw e96 h ht (f := 1) (by omega)
      have f6 : fn_Mod_its X4 (zO (some t)) (6 : Int32) = some (nI (zF S t 6)) := zf_Mw e96 h ht (f := 6) (by omega)
      have nneg : ¬ zO (some t) < (0 : Int32) := nI_pos (by omega)
      rw [if_neg nneg, f1, zp_b1]
      have c1 : nI (zF S t 1) = nI c ↔ zF S t 1 = c := nI_eq (by omega) (by omega)
      simp only [c1]
      by_cases q1 : zF S t 1 = c
      · rw [if_pos q1]
        have on : zS_on S c = some t := by unfold zS_on; rw [hd]; exact if_pos q1
        have L := zm_L69w e96 h ht hb hk
        have both : (if (0 : Int32) ≤ a3 then fn_Mod_goes_L69 (nI k) (zO (some t)) a3 X4 else zu_b1 (fn_Mod_its X4 (zO (some t)) (6 : Int32)) fun v15 => fn_Mod_goes_L69 (nI k) (zO (some t)) v15 X4) = fn_Mod_goes_L69 (nI k) (nI t) (nI by_) X4 := by
          rcases ha with ha | ⟨ha, hb2⟩
          · rw [ha, if_pos (zn_0le (by omega))]; rfl
          · rw [ha, if_neg (by decide), f6, zp_b1, hb2 t on]; rfl
        rw [both, L]
        refine ⟨_, rfl, ?_, ?_⟩
        · unfold zM_at zS_rw
          rw [on, hd]
          simp only [q1, ↓reduceIte]
          refine ⟨?_, ?_, ?_, ?_⟩
          · rw [zs_st, if_neg (by decide), zs_st, if_neg (by decide), zs_st, if_pos (by decide)]
          · rw [zs_st, if_neg (by decide), zs_st, if_pos (by decide)]
          · rw [zs_st, if_pos (by decide)]
          · rw [zs_st, if_neg (by decide), zs_st, if_neg (by decide), zs_st, if_neg (by decide), zs_st, if_pos (by decide)]
            rfl
        · exact (((v4.st (by omega) (by omega)).st (by omega) (by omega)).st (by omega) (by omega)).st (by omega) (by omega)
      · rw [if_neg q1]
        unfold fn_Mod_goes_L121 fn_Mod_goes_L158 fn_Mod_goes_L200
        have r96 : ∀ k, k ≠ 0 → zu_st X4 95 5 (nI (zF S t 1)) 96 k = S k := fun k hk => by rw [zs_other _ _ _ (by decide)]; exact e96 k hk
        rw [if_neg nneg, f1, zp_b1, zp_nx, e6, zn_ib (show 6 + c < 142 by omega) (by decide), zp_gd, zn_cl (by omega), r96 _ (by omega), w6.1]
        have c2 : nI (zN S (6 + c)) = (2 : Int32) ↔ zN S (6 + c) = 2 := nI_eq (b := 2) (by omega) (by omega)
        simp only [c2, zp_nx]
        have on : zS_on S c = none := by unfold zS_on; rw [hd]; exact if_neg q1
        have fin : ∀ w : Nat, w = (if zN S (6 + c) = 2 then 6 else 12) → ∃ X', some (zu_st (zu_st X4 95 5 (nI (zF S t 1))) 95 6 (nI w)) = some X' ∧ zM_at X' S c (zS_rw S c (zg_night k) by_) ∧ zV X X' := by
          intro w hw
          refine ⟨_, rfl, ?_, (v4.st (by omega) (by omega)).st (by omega) (by omega)⟩
          unfold zM_at zS_rw
          rw [on, hd]
          simp only [q1, ↓reduceIte]
          refine ⟨?_, ?_, ?_, ?_⟩
          · rw [zs_st, if_neg (by decide), zs_st, if_pos (by decide)]
          · rw [zs_st, if_neg (by decide), zs_st, if_neg (by decide), g7]
          · rw [zs_st, if_pos (by decide), hw]
          · rw [zs_st, if_neg (by decide), zs_st, if_neg (by decide), g8]
            rfl
        by_cases q2 : zN S (6 + c) = 2
        · rw [if_pos q2]; exact fin 6 (by rw [if_pos q2])
        · rw [if_neg q2]; exact fin 12 (by rw [if_neg q2])
