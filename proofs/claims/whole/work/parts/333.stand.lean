theorem zr_nx {α β : Type} (a : α) (k : α → β) : zu_nx a k = k a := by rw [zp_nx]
theorem zr_b1 {α β : Type} (a : α) (k : α → Option β) : zu_b1 (some a) k = k a := by rw [zp_b1]
theorem zr_b2 {α β γ : Type} (a : α) (b : β) (k : α → β → Option γ) : zu_b2 (some (a, b)) k = k a b := by rw [zp_b2]
theorem zr_b3 {α β γ δ : Type} (a : α) (b : β) (c : γ) (k : α → β → γ → Option δ) : zu_b3 (some (a, b, c)) k = k a b c := by rw [zp_b3]
theorem zr_gd {α : Type} (k : Option α) : zu_gd true k = k := by rw [zp_gd]
/-! where one more should stand -/
theorem zs_free : ∀ (n : Nat) (f : Nat → Nat), ∃ c, c ≤ n ∧ ∀ t, t < n → f t ≠ c := by
  intro n
  induction n with
  | zero => intro f; exact ⟨0, Nat.le_refl _, fun t ht => absurd ht (by omega)⟩
  | succ n ih =>
    intro f
    obtain ⟨c, hc, h⟩ := ih (fun t => if f t = n + 1 then f n else f t)
    by_cases q : ∃ t, t < n ∧ f t = n + 1
    · obtain ⟨u, hu, eu⟩ := q
      refine ⟨c, by omega, fun t ht => ?_⟩
      have h1 := h u hu
      simp only [if_pos eu] at h1
      by_cases e : t = n
      · subst e; exact h1
      · have h2 : (if f t = n + 1 then f n else f t) ≠ c := h t (by omega)
        by_cases w : f t = n + 1
        · omega
        · rw [if_neg w] at h2; exact h2
    · by_cases w : f n = n + 1
      · refine ⟨c, by omega, fun t ht => ?_⟩
        by_cases e : t = n
        · subst e; omega
        · have h2 : (if f t = n + 1 then f n else f t) ≠ c := h t (by omega)
          by_cases w2 : f t = n + 1
          · exact absurd ⟨t, by omega, w2⟩ q
          · rw [if_neg w2] at h2; exact h2
      · refine ⟨n + 1, Nat.le_refl _, fun t ht => ?_⟩
        by_cases e : t = n
        · subst e; exact w
        · exact fun w2 => q ⟨t, by omega, w2⟩
theorem zS_nt_upd (S : Nat → Int32) (n k x c : Nat) : upd (zS_nt S n k x) (30 + 9 * n + 1) (nI c) = zS_nt S n k c := by
  funext j
  by_cases q : j = 30 + 9 * n + 1
  · subst q
    rw [pk_us, zS_nt_f S n k c (by omega)]
    rfl
  · rw [pk_un q]
    unfold zS_nt
    by_cases e1 : j = 1
    · rw [if_pos e1, if_pos e1]
    · rw [if_neg e1, if_neg e1]
      by_cases e2 : 30 + 9 * n ≤ j ∧ j < 39 + 9 * n
      · rw [if_pos e2, if_pos e2]
        unfold zS_nf
        have : j - (30 + 9 * n) ≠ 1 := by omega
        rw [if_neg this, if_neg this]
      · rw [if_neg e2, if_neg e2]
def zFs (S : Nat → Int32) (n N c v : Nat) : Nat := zPh (zS_nt S n 0 v) (zS_cs (zS_nt S n 0 v)) N c
def zFq (S : Nat → Int32) (v : Nat) : Bool := (zS_sd S v).isNone
theorem zFs_WF {S : Nat → Int32} (h : zI_WF S) {n v : Nat} (en : n = zN S 1) (hn : n < 10) (hv : v < 24) (hf : zFq S v = true) : zI_WF (zS_nt S n 0 v) := by
  refine zS_nt_WF h en hn (by omega) (by omega) (fun u hu => zS_sd_n ?_ u (by omega))
  unfold zFq at hf
  cases q : zS_sd S v with
  | none => rfl
  | some w => rw [q] at hf; cases hf
theorem zl_sn_P {S : Nat → Int32} (h : zI_WF S) {n0 N c : Nat} (en : n0 = zN S 1) (hn : n0 < 10) (hN : N ≤ 15) (hc : c < 24) : ∀ (d v n : Nat) (b : Option Nat) (x : Nat) (X : IX) (Y : LX), v + d = 24 → d < n → zI_LI X 2 (zS_nt S n0 0 x) → zI_LI X 0 S → (∀ w, b = some w → w < 24 ∧ zFq S w = true) → ∃ X' Y', fn_Post_stand_L82 n (nI c) (nI N) (zu_th (22 + 6) n0 + 30) (zQ0 b) (zQm (zFs S n0 N c) b) (nI v) X Y = some (zQ0 (zMx (zFq S) (zFs S n0 N c) d v b), X', Y') ∧ zT X X' := by
  have lt : ∀ w, w < 24 → zFq S w = true → zFs S n0 N c w < 2 ^ 63 := fun w hw hq => zPh_lt (zFs_WF h en hn hw hq) _ hN hc
  intro d
  induction d with
  | zero =>
    intro v n b x X Y hv hd hL h0 hb
    obtain ⟨m, rfl⟩ : ∃ m, n = m + 1 := ⟨n - 1, by omega⟩
    obtain rfl : v = 24 := by omega
    exact ⟨X, Y, rfl, zT.rf X⟩
  | succ d ih =>
    intro v n b x X Y hv hd hL h0 hb
    obtain ⟨m, rfl⟩ : ∃ m, n = m + 1 := ⟨n - 1, by omega⟩
    have hv' : v < 24 := by omega
    have sp := ze_sd (r := 20) rfl h0 h hv'
    show ∃ (X' : IX) (Y' : LX), fn_Post_stand_B82 (fn_Post_stand_L82 m) _ _ _ _ _ _ _ _ = some (zQ0 (zMx _ _ d (v + 1) (if zFq S v = true then _ else _)), X', Y') ∧ _
    unfold fn_Post_stand_B82 fn_Post_stand_L136
    rw [if_neg (show ¬ (24 : Int32) ≤ nI v from nI_ge (a := v) (b := 24) (by omega) (by omega)), sp, zp_b1]
    cases hs : zS_sd S v with
    | some u =>
      have hu := zS_sd_s hs
      rw [if_neg (show ¬ zO (some u) = (-1 : Int32) from zO_m1 (by omega)), show zFq S v = false by unfold zFq; rw [hs]; rfl, if_neg (by decide), zp_nx, nI_1]
      exact ih (v + 1) m b x X Y (by omega) (by omega) hL h0 hb
    | none =>
      have fr : zFq S v = true := by unfold zFq; rw [hs]; rfl
      have hp := zL_p30 2 n0 1 hn (by omega)
      have L2 := zI_LI_put2 hL (k := 30 + 9 * n0 + 1) (by omega) (nI v)
      rw [hp.1, hp.2, zS_nt_upd] at L2
      have L2' : zI_LI (zu_st X (zu_th (22 + 6) n0 + 30) 1 (nI v)) 2 (zS_nt S n0 0 v) := L2
      have rr : zR 2 (zu_th (22 + 6) n0 + 30) = true := by
        have := zR2_pr (30 + 9 * n0 + 1) (by omega)
        rw [hp.1] at this
        exact this
      obtain ⟨Xa, Ya, e1, l3⟩ := zC_home (r := 22) rfl L2' (zFs_WF h en hn hv' fr) hN hc Y
      have La : zI_LI Xa 2 (zS_nt S n0 0 v) := zI_LI.cg (fun a ha => l3 a (by omega)) L2'
      have Ta : zT X Xa := ((zT.rf X).st (j := 1) (v := nI v) rr).tr (zT.lay l3)
      have cq := zQ_gt (zFs S n0 N c) v (lt v hv' fr) b (fun w e => lt w (hb w e).1 (hb w e).2)
      have e1' : fn_Post_homeParts 22 (nI c) (nI N) (zu_st X (zu_th (22 + 6) n0 + 30) 1 (nI v)) Y = some (lN (zFs S n0 N c v), Xa, Ya) := e1
      rw [if_pos (show zO none = (-1 : Int32) from rfl), zp_nx, e1', zp_b3, fr, if_pos rfl]
      simp only [zp_nx, nI_1, cq]
      cases b with
      | none =>
        rw [if_neg (fun q => by obtain ⟨w, e, _⟩ := q; cases e)]
        obtain ⟨X', Y', q1, q2⟩ := ih (v + 1) m (some v) v Xa Ya (by omega) (by omega) La (Ta.L0 h0) (fun w e => by cases e; exact ⟨hv', fr⟩)
        exact ⟨X', Y', q1, Ta.tr q2⟩
      | some w =>
        by_cases q : zFs S n0 N c v ≤ zFs S n0 N c w
        · rw [if_pos ⟨w, rfl, q⟩]
          simp only [if_pos q]
          obtain ⟨X', Y', q1, q2⟩ := ih (v + 1) m (some w) v Xa Ya (by omega) (by omega) La (Ta.L0 h0) hb
          exact ⟨X', Y', q1, Ta.tr q2⟩
        · rw [if_neg (fun z => by obtain ⟨u, e, z⟩ := z; cases e; exact q z)]
          simp only [if_neg q]
          obtain ⟨X', Y', q1, q2⟩ := ih (v + 1) m (some v) v Xa Ya (by omega) (by omega) La (Ta.L0 h0) (fun w e => by cases e; exact ⟨hv', fr⟩)
          exact ⟨X', Y', q1, Ta.tr q2⟩
theorem zl_sn_M {S : Nat → Int32} (h : zI_WF S) {n0 N c : Nat} (en : n0 = zN S 1) (hn : n0 < 10) (hN : N ≤ 15) (hc : c < 24) : ∀ (d v n : Nat) (b : Option Nat) (X : IX) (Y : LX), v + d = 24 → d < n → X 96 = S → (∀ j, j < 142 → X 98 j = S j) → (∀ w, b = some w → w < 24 ∧ zFq S w = true) → ∃ X' Y', fn_Mod_stand_L45 n (nI c) (nI N) (zO b) (zQz (zFs S n0 N c) b) (nI v) X Y = some (zO (zMx (zFq S) (zFs S n0 N c) d v b), X', Y') ∧ X' 96 = S ∧ zU X X' := by
  have lt : ∀ w, w < 24 → zFq S w = true → zFs S n0 N c w < 2 ^ 63 := fun w hw hq => zPh_lt (zFs_WF h en hn hw hq) _ hN hc
  intro d
  induction d with
  | zero =>
    intro v n b X Y hv hd hL h8 hb
    obtain ⟨m, rfl⟩ : ∃ m, n = m + 1 := ⟨n - 1, by omega⟩
    obtain rfl : v = 24 := by omega
    exact ⟨X, Y, rfl, hL, zU.rf X⟩
  | succ d ih =>
    intro v n b X Y hv hd hL h8 hb
    obtain ⟨m, rfl⟩ : ∃ m, n = m + 1 := ⟨n - 1, by omega⟩
    have hv' : v < 24 := by omega
    have sm := zm_sd hL h hv'
    show ∃ (X' : IX) (Y' : LX), fn_Mod_stand_B45 (fn_Mod_stand_L45 m) _ _ _ _ _ _ _ = some (zO (zMx _ _ d (v + 1) (if zFq S v = true then _ else _)), X', Y') ∧ _
    unfold fn_Mod_stand_B45 fn_Mod_stand_L94 fn_Mod_stand_L101
    rw [if_neg (show ¬ (24 : Int32) ≤ nI v from nI_ge (a := v) (b := 24) (by omega) (by omega)), sm, zp_b1]
    cases hs : zS_sd S v with
    | some u =>
      have hu := zS_sd_s hs
      rw [if_pos (show (0 : Int32) ≤ zO (some u) from zn_0le (by omega)), show zFq S v = false by unfold zFq; rw [hs]; rfl, if_neg (by decide), zp_nx, nI_1]
      exact ih (v + 1) m b X Y (by omega) (by omega) hL h8 hb
    | none =>
      have fr : zFq S v = true := by unfold zFq; rw [hs]; rfl
      obtain ⟨Xn, a1, a2, a3⟩ := zl_add_M hL h en hn 0 v
      obtain ⟨Xa, Ya, e1, v1⟩ := zm_home a2 (zFs_WF h en hn hv' fr) hN hc Y
      obtain ⟨Xp, b1, b2, _, b4, b5⟩ := zl_cp_putsBack 142 0 400 Xa (by omega) (by omega)
      have x98 : ∀ j, j < 142 → Xa 98 j = S j := fun j hj => by rw [v1.row (by decide), a3 98 (by decide)]; exact h8 j hj
      have p96 : Xp 96 = S := by
        funext j
        by_cases q : j < 142
        · rw [b2 j (by omega) q]; exact x98 j q
        · rw [b4 j (by omega), v1.row (by decide), a2, zS_nt_o S n0 0 v (by omega) (by omega)]
      have p98 : ∀ j, j < 142 → Xp 98 j = S j := fun j hj => by rw [b5 98 (by decide)]; exact x98 j hj
      have Ta : zU X Xp := fun a b q q2 w => by rw [b5 a q, v1 a b w, a3 a q]
      have a1' : fn_Mod_newThrower (0 : Int32) (nI v) X = some (nI n0, Xn) := a1
      have b1' : fn_Mod_putsBack Xa = some Xp := b1
      have e1' : fn_Mod_homeParts (nI c) (nI N) Xn Y = some (lN (zFs S n0 N c v), Xa, Ya) := e1
      rw [if_neg (show ¬ (0 : Int32) ≤ zO none by decide), a1', zp_b2, e1', zp_b3, b1', zp_b1, fr, if_pos rfl]
      simp only [zp_nx, nI_1]
      cases b with
      | none =>
        rw [if_pos (show zO none < (0 : Int32) by decide)]
        obtain ⟨X', Y', q1, q2, q3⟩ := ih (v + 1) m (some v) Xp Ya (by omega) (by omega) p96 p98 (fun w e => by cases e; exact ⟨hv', fr⟩)
        exact ⟨X', Y', q1, q2, Ta.tr q3⟩
      | some w =>
        have hw := hb w rfl
        have cz : (lg_cmp (lN (zFs S n0 N c v)) (zQz (zFs S n0 N c) (some w)) ≤ 0) ↔ zFs S n0 N c v ≤ zFs S n0 N c w := (zm_cmp_le _ _).trans (pk_lLE (lt v hv' fr) (lt w hw.1 hw.2))
        rw [if_neg (show ¬ zO (some w) < (0 : Int32) from nI_pos (by omega))]
        simp only [cz]
        by_cases q : zFs S n0 N c v ≤ zFs S n0 N c w
        · simp only [if_pos q]
          obtain ⟨X', Y', q1, q2, q3⟩ := ih (v + 1) m (some w) Xp Ya (by omega) (by omega) p96 p98 hb
          exact ⟨X', Y', q1, q2, Ta.tr q3⟩
        · simp only [if_neg q]
          obtain ⟨X', Y', q1, q2, q3⟩ := ih (v + 1) m (some v) Xp Ya (by omega) (by omega) p96 p98 (fun w e => by cases e; exact ⟨hv', fr⟩)
          exact ⟨X', Y', q1, q2, Ta.tr q3⟩
theorem st_stand {X : IX} {Y : LX} (hI : zI_INV X) (a1 : Int32) (a2 : Int32) : ∃ (v : Int32) (X1 : IX) (Y1 : LX) (X2 : IX) (Y2 : LX), fn_Post_stand a1 a2 X Y = some (v, X1, Y1) ∧ fn_Mod_stand a1 a2 X1 Y1 = some (v, X2, Y2) ∧ zI_INV X2 := by
  have n10 : ((1 : Int32) = 0) = False := by decide
  obtain ⟨X1, X2, e1, e2, e3, e4⟩ := zI_both2 hI (f := -1000001) 0 (by decide) (by decide)
  rcases (Bool.eq_false_or_eq_true (zw 0 a1 23 && zw 1 a2 10)).symm with hg | hg
  · refine ⟨-1000001, X1, Y, X2, Y, ?_, ?_, e3⟩
    · cases h1 : zw 0 a1 23 <;> cases h2 : zw 1 a2 10 <;> first
        | exact absurd hg (by rw [h1, h2]; decide)
        | simp only [fn_Post_stand, fn_Post_stand_L17, ze_isCell, ze_isWithin, h1, h2, zr_b1, zr_b2, zr_nx, zt_f, zt_t, e1, n10, Bool.and_true, Bool.and_false, Bool.true_and, Bool.false_and, ↓reduceIte]
    · cases h1 : zw 0 a1 23 <;> cases h2 : zw 1 a2 10 <;> first
        | exact absurd hg (by rw [h1, h2]; decide)
        | simp only [fn_Mod_stand, ze_try, h1, h2, zr_b1, zr_b2, zr_nx, zt_f, zt_t, e2, n10, Bool.and_true, Bool.and_false, Bool.true_and, Bool.false_and, ↓reduceIte]
  simp only [Bool.and_eq_true] at hg
  obtain ⟨h1, h2⟩ := hg
  obtain ⟨c, hc, rfl⟩ := zw_n (m := 23) (by decide) h1
  obtain ⟨N, hN1, hN, rfl⟩ := zw_1n (m := 10) (by decide) h2
  have hW := hI.1.2
  have n1 := zW_1 hW
  obtain ⟨n, en⟩ : ∃ n, n = zN (X 96) 1 := ⟨_, rfl⟩
  obtain ⟨Xt, be, Lt, Tt⟩ := zT_become hI
  have hIt := hI.keep Tt.keep
  by_cases q : n = 10
  · obtain ⟨Xc, f1, f2, f3⟩ := zI_bothV hIt (f := -1000002) 1 (by decide) (by decide)
    obtain ⟨Xd, d1, d2⟩ := f3 Xc (zI_keep.rf Xc)
    refine ⟨-1000002, Xc, Y, Xd, Y, ?_, ?_, d2⟩
    · have ad : fn_Land_addThrower 22 (0 : Int32) (0 : Int32) Xt = some (-1, Xt) := by
        unfold fn_Land_addThrower
        rw [(zL_h (o := 2) (r := 22) rfl Lt).2.1, n1.1, ← en, if_neg (show ¬ nI n < (10 : Int32) from nI_nlt (a := n) (b := 10) (by omega) (by omega))]
      simp only [fn_Post_stand, ze_isCell, ze_isWithin, h1, h2, zr_b1, zr_b2, zt_t, n10, ↓reduceIte, be, ad, f1]
    · have mm : Xc 96 1 = (10 : Int32) := by rw [f2 96 (by decide), Tt.r96, n1.1, ← en, q]; rfl
      simp only [fn_Mod_stand, ze_try, h1, h2, Bool.and_true, zr_b1, zr_b2, zt_t, n10, ↓reduceIte, mm, d1]
  · have hn : n < 10 := by omega
    obtain ⟨Xn, ad, Ln, On⟩ := zl_add_P (o := 2) (r := 22) (by omega) rfl Lt hW en hn 0 0
    have ad' : fn_Land_addThrower 22 (0 : Int32) (0 : Int32) Xt = some (nI n, Xn) := ad
    have Tn : zT X Xn := Tt.tr (fun a q _ => On a q)
    obtain ⟨Xa, Ya, p1, p2⟩ := zl_sn_P hW (N := N) (c := c) en hn (by omega) (by omega) 24 0 400 none 0 Xn Y (by omega) (by omega) Ln (Tn.L0 hI.1.1) (fun w e => by cases e)
    have Ta := Tn.tr p2
    obtain ⟨Xp, b1, b2, _, b4, b5⟩ := zl_cp_puts 142 0 400 Xa (by omega) (by omega)
    have b1' : fn_Mod_puts Xa = some Xp := b1
    obtain ⟨Xb, Yb, m1, m2, m3⟩ := zl_sn_M hW (N := N) (c := c) en hn (by omega) (by omega) 24 0 400 none Xp Ya (by omega) (by omega) (by rw [b5 96 (by decide)]; exact Ta.r96) (fun j hj => by rw [b2 j (by omega) hj, Ta.r96]) (fun w e => by cases e)
    obtain ⟨w, hw⟩ : ∃ w, zMx (zFq (X 96)) (zFs (X 96) n N c) 24 0 none = some w := by
      obtain ⟨u, hu1, hu2⟩ := zs_free n (fun t => zF (X 96) t 1)
      refine zMx_some _ _ 24 0 none (Or.inr ⟨u, by omega, by omega, ?_⟩)
      unfold zFq
      cases hs : zS_sd (X 96) u with
      | none => rfl
      | some t =>
        have ht := zS_sd_s hs
        exact absurd ht.2 (hu2 t (by omega))
    rw [hw] at p1 m1
    have kU : zU Xa Xb := fun a b q q2 w => by rw [m3 a b q q2 w, b5 a q2]
    refine ⟨nI w, Xa, Ya, Xb, Yb, ?_, ?_, (hI.keep Ta.keep).keep (kU.keep (by rw [m2, Ta.r96]))⟩
    · simp only [fn_Post_stand, ze_isCell, ze_isWithin, h1, h2, zr_b1, zr_b2, zt_t, n10, ↓reduceIte, be, ad', if_neg (show ¬ nI n = (-1 : Int32) from zO_m1 (by omega)), zn_ib hn (show 10 < 2 ^ 31 by decide), zr_gd, zn_cl (show n < 2 ^ 31 by omega)]
      exact p1
    · have mm : Xa 96 1 = nI n := by rw [Ta.r96, n1.1, ← en]
      have m10 : ¬ nI n = (10 : Int32) := fun w => q ((nI_eq (b := 10) (by omega) (by omega)).mp w)
      simp only [fn_Mod_stand, ze_try, h1, h2, Bool.and_true, zr_b1, zt_t, n10, ↓reduceIte, mm, m10, b1']
      exact m1
