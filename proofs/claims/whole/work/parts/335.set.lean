/-! lands that differ in choices, thanks, letters, hours alone -/
theorem zW_mk {S T : Nat → Int32} (h : zI_WF S) (h0 : zI_le (T 0) 9999) (e1 : T 1 = S 1) (e2 : T 2 = S 2) (e3 : T 3 = S 3) (e4 : T 4 = S 4) (es : ∀ c, c < 24 → T (6 + c) = S (6 + c)) (ef : ∀ t f, t < zN S 1 → (f < 6 ∨ f = 7) → T (30 + 9 * t + f) = S (30 + 9 * t + f)) (e6 : ∀ t, t < zN S 1 → zI_le (T (30 + 9 * t + 6)) 1) (e8 : ∀ t, t < zN S 1 → zI_le (T (30 + 9 * t + 8)) (12 * zN T 0)) (el : ∀ i, i < zN S 2 → zI_le (T (120 + i)) 23) (ep : ∀ q, q < 10 → T (132 + q) = S (132 + q)) : zI_WF T := by
  obtain ⟨_, h1, h2, h3, h4, h5, h6, h7, h8, h9⟩ := id h
  have n1 : zN T 1 = zN S 1 := by unfold zN; rw [e1]
  have n2 : zN T 2 = zN S 2 := by unfold zN; rw [e2]
  refine ⟨h0, by rw [e1]; exact h1, by rw [e2]; exact h2, by rw [e3]; exact h3, by rw [e4]; exact h4, fun c hc => by rw [es c hc]; exact h5 c hc, fun t ht => ?_, fun i hi => el i (by omega), fun q hq => by rw [ep q hq, n1]; exact h8 q hq, fun t u ht hu q => ?_⟩
  · rw [n1] at ht
    obtain ⟨a0, a1, a2, a3, a4, a5, _, a7, _⟩ := h6 t ht
    have f0 := ef t 0 ht (by omega)
    rw [Nat.add_zero] at f0
    have z2 : zN T (30 + 9 * t + 2) = zN S (30 + 9 * t + 2) := by unfold zN; rw [ef t 2 ht (by omega)]
    have z3 : zN T (30 + 9 * t + 3) = zN S (30 + 9 * t + 3) := by unfold zN; rw [ef t 3 ht (by omega)]
    unfold zI_th
    rw [f0, ef t 1 ht (by omega), ef t 2 ht (by omega), ef t 3 ht (by omega), ef t 4 ht (by omega), ef t 5 ht (by omega), ef t 7 ht (by omega), z2, z3]
    exact ⟨a0, a1, a2, a3, a4, a5, e6 t ht, a7, e8 t ht⟩
  · rw [n1] at ht hu
    rw [ef t 1 ht (by omega), ef u 1 hu (by omega)] at q
    exact h9 t u ht hu q
def zEq (S T : Nat → Int32) : Prop := T 1 = S 1 ∧ T 3 = S 3 ∧ T 4 = S 4 ∧ (∀ c, c < 24 → T (6 + c) = S (6 + c)) ∧ ∀ t f, t < zN S 1 → (f < 6 ∨ f = 7) → T (30 + 9 * t + f) = S (30 + 9 * t + f)
theorem zEq.f {S T : Nat → Int32} (h : zEq S T) {t f : Nat} (ht : t < zN S 1) (hf : f < 6 ∨ f = 7) : zF T t f = zF S t f := by
  unfold zF zN
  rw [h.2.2.2.2 t f ht hf]
theorem zEq.n1 {S T : Nat → Int32} (h : zEq S T) : zN T 1 = zN S 1 := by unfold zN; rw [h.1]
theorem zEq.n3 {S T : Nat → Int32} (h : zEq S T) : zN T 3 = zN S 3 := by unfold zN; rw [h.2.1]
theorem zEq.n4 {S T : Nat → Int32} (h : zEq S T) : zN T 4 = zN S 4 := by unfold zN; rw [h.2.2.1]
theorem zEq.n6 {S T : Nat → Int32} (h : zEq S T) {c : Nat} (hc : c < 24) : zN T (6 + c) = zN S (6 + c) := by unfold zN; rw [h.2.2.2.1 c hc]
theorem zEq.st {S T : Nat → Int32} (h : zEq S T) {c : Nat} (hc : c < 24) : zS_st T c = zS_st S c := by
  unfold zS_st
  rw [h.n3, h.n6 hc]
theorem zEq.hl {S T : Nat → Int32} (h : zEq S T) {c : Nat} : ∀ (d t : Nat) (b : Option Nat), t + d = zN S 1 → (∀ u, b = some u → u < zN S 1) → zS_hl T c d t b = zS_hl S c d t b := by
  intro d
  induction d with
  | zero => intro t b _ _; rfl
  | succ d ih =>
    intro t b ht hb
    have ok : zS_ok T c t = zS_ok S c t := by
      unfold zS_ok
      rw [h.f (by omega) (by omega), h.f (by omega) (by omega), h.n4]
    have nh : zS_nh T c t b = zS_nh S c t b := by
      cases b with
      | none => rfl
      | some u =>
        show zS_nr T c t u = zS_nr S c t u
        unfold zS_nr
        rw [h.f (show t < zN S 1 by omega) (by omega), h.f (hb u rfl) (by omega)]
    show zS_hl T c d (t + 1) _ = zS_hl S c d (t + 1) _
    rw [ok, nh]
    refine ih (t + 1) _ (by omega) (fun u hu => ?_)
    split at hu
    · cases hu; omega
    · exact hb u hu
theorem zEq.hand {S T : Nat → Int32} (h : zEq S T) {c : Nat} (hc : c < 24) : zS_hand T c = zS_hand S c := by
  unfold zS_hand
  rw [h.st hc, h.n1, h.hl (zN S 1) 0 none (by omega) (fun u e => by cases e)]
theorem zEq.on {S T : Nat → Int32} (h : zEq S T) {c : Nat} (hc : c < 24) : zS_on T c = zS_on S c := by
  unfold zS_on
  rw [h.hand hc]
  cases hd : zS_hand S c with
  | none => rfl
  | some t =>
    show (if zF T t 1 = c then _ else _) = _
    rw [h.f (zS_hand_lt hd) (by omega)]
theorem zEq.rw {S T : Nat → Int32} (h : zEq S T) {c far : Nat} {ng : Bool} (hc : c < 24) : zS_rw T c ng far = zS_rw S c ng far := by
  unfold zS_rw
  rw [h.hand hc]
  cases hd : zS_hand S c with
  | none =>
    show (zS_un T c, c, 12) = (zS_un S c, c, 12)
    unfold zS_un
    rw [h.st hc, h.n6 hc, h.n3]
  | some t =>
    have ht := zS_hand_lt hd
    show (if zF T t 1 = c then (zR_told T t far ng, zR_short T t far ng, zR_sure T t far ng) else (zF T t 1, c, if zN T (6 + c) = 2 then 6 else 12)) = (if zF S t 1 = c then (zR_told S t far ng, zR_short S t far ng, zR_sure S t far ng) else (zF S t 1, c, if zN S (6 + c) = 2 then 6 else 12))
    unfold zR_told zR_short zR_sure zR_each zg_plain
    rw [h.f ht (f := 0) (by omega), h.f ht (f := 1) (by omega), h.f ht (f := 2) (by omega), h.f ht (f := 3) (by omega), h.f ht (f := 4) (by omega), h.f ht (f := 5) (by omega), h.n6 hc]
/-! the choices set -/
def zS_ch (S : Nat → Int32) (ch : Int32) (n : Nat) : Nat → Int32 := fun j => if 36 ≤ j ∧ j < 36 + 9 * n ∧ (j - 36) % 9 = 0 then zt (zbt ch ((j - 36) / 9)) else S j
theorem zS_ch_6 (S : Nat → Int32) (ch : Int32) {n t : Nat} (ht : t < n) : zS_ch S ch n (30 + 9 * t + 6) = zt (zbt ch t) := by
  unfold zS_ch
  rw [if_pos (by omega), show (30 + 9 * t + 6 - 36) / 9 = t by omega]
theorem zS_ch_o (S : Nat → Int32) (ch : Int32) {n j : Nat} (h : ∀ t, t < n → j ≠ 30 + 9 * t + 6) : zS_ch S ch n j = S j := by
  unfold zS_ch
  rw [if_neg]
  rintro ⟨h1, h2, h3⟩
  exact h ((j - 36) / 9) (by omega) (by omega)
theorem zt_le (b : Bool) : zI_le (zt b) 1 := by
  cases b with
  | false => exact ⟨0, by omega, rfl⟩
  | true => exact ⟨1, by omega, rfl⟩
theorem zS_ch_Eq (S : Nat → Int32) (ch : Int32) {n : Nat} (hn : n ≤ 10) : zEq S (zS_ch S ch n) := by
  refine ⟨zS_ch_o S ch (fun t _ => by omega), zS_ch_o S ch (fun t _ => by omega), zS_ch_o S ch (fun t _ => by omega), fun c hc => zS_ch_o S ch (fun t _ => by omega), fun t f _ hf => zS_ch_o S ch (fun u _ => by omega)⟩
theorem zS_ch_WF {S : Nat → Int32} (h : zI_WF S) (ch : Int32) {n : Nat} (en : n = zN S 1) : zI_WF (zS_ch S ch n) := by
  have n1 := zW_1 h
  have q := zS_ch_Eq S ch (n := n) (by omega)
  have o : ∀ j, (∀ t, t < n → j ≠ 30 + 9 * t + 6) → zS_ch S ch n j = S j := fun j hj => zS_ch_o S ch hj
  have n0 : zN (zS_ch S ch n) 0 = zN S 0 := by unfold zN; rw [o 0 (fun t _ => by omega)]
  have n2 := zW_2 h
  refine zW_mk h (by rw [o 0 (fun t _ => by omega)]; exact h.1) q.1 (o 2 (fun t _ => by omega)) q.2.1 q.2.2.1 q.2.2.2.1 q.2.2.2.2 (fun t ht => ?_) (fun t ht => ?_) (fun i hi => ?_) (fun p hp => o _ (fun t _ => by omega))
  · rw [zS_ch_6 S ch (by omega)]; exact zt_le _
  · rw [n0, o _ (fun u _ => by omega)]
    exact (h.2.2.2.2.2.2.1 t ht).2.2.2.2.2.2.2.2
  · rw [o _ (fun t _ => by omega)]
    exact h.2.2.2.2.2.2.2.1 i hi
theorem zl_ch_M (ch : Int32) {N : Nat} (hN : N ≤ 10) : ∀ (d t n : Nat) (X : IX), X 96 1 = nI N → t + d = N → d < n → ∃ X', fn_Mod_chooses_L2 n ch (nI t) X = some X' ∧ (∀ u, t ≤ u → u < N → X' 96 (30 + 9 * u + 6) = zt (zbt ch u)) ∧ (∀ j, (∀ u, t ≤ u → u < N → j ≠ 30 + 9 * u + 6) → X' 96 j = X 96 j) ∧ ∀ a, a ≠ 96 → X' a = X a := by
  intro d
  induction d with
  | zero =>
    intro t n X h1 ht hd
    obtain ⟨m, rfl⟩ : ∃ m, n = m + 1 := ⟨n - 1, by omega⟩
    refine ⟨X, ?_, fun u a b => absurd b (by omega), fun _ _ => rfl, fun _ _ => rfl⟩
    show fn_Mod_chooses_B2 _ _ _ _ = _
    unfold fn_Mod_chooses_B2
    rw [h1, if_pos ((nI_leI (by omega) (by omega)).mpr (by omega))]
  | succ d ih =>
    intro t n X h1 ht hd
    obtain ⟨m, rfl⟩ : ∃ m, n = m + 1 := ⟨n - 1, by omega⟩
    have ea : fn_Mod_at (nI t) (6 : Int32) = nI (30 + 9 * t + 6) := ze_at t 6
    obtain ⟨X', e, p1, p2, p3⟩ := ih (t + 1) m (zu_st X 96 (30 + 9 * t + 6) (zt (zbt ch t))) (by rw [zs_st, if_neg (by omega)]; exact h1) (by omega) (by omega)
    refine ⟨X', ?_, ?_, ?_, ?_⟩
    · rw [← e]
      show fn_Mod_chooses_B2 (fn_Mod_chooses_L2 m) _ _ _ = _
      unfold fn_Mod_chooses_B2 fn_Mod_chooses_L35
      rw [h1, if_neg (nI_ge (a := t) (by omega) (by omega)), zr_nx, ea, zbt_has ch (by omega), zr_b1, zn_ib (show 30 + 9 * t + 6 < 142 by omega) (by decide), zr_gd, zr_gd, zn_cl (by omega)]
      simp only [zr_nx, nI_1]
      cases zbt ch t <;> rfl
    · intro u a b
      by_cases q : u = t
      · subst q
        rw [p2 _ (fun w _ _ => by omega), zs_st, if_pos ⟨rfl, rfl⟩]
      · exact p1 u (by omega) b
    · intro j hj
      rw [p2 j (fun u a b => hj u (by omega) b), zs_st, if_neg (fun q => hj t (by omega) (by omega) q.2)]
    · intro a ha
      rw [p3 a ha, zs_other _ _ _ ha]
theorem zm_ch {X : IX} (ch : Int32) {N : Nat} (hN : N ≤ 10) (h1 : X 96 1 = nI N) : ∃ X', fn_Mod_chooses ch X = some X' ∧ X' 96 = zS_ch (X 96) ch N ∧ ∀ a, a ≠ 96 → X' a = X a := by
  obtain ⟨X', e, p1, p2, p3⟩ := zl_ch_M ch hN N 0 400 X h1 (by omega) (by omega)
  rw [nI_0] at e
  refine ⟨X', e, ?_, p3⟩
  funext j
  by_cases q : ∃ u, u < N ∧ j = 30 + 9 * u + 6
  · obtain ⟨u, hu, rfl⟩ := q
    rw [p1 u (by omega) hu, zS_ch_6 _ ch hu]
  · have q' : ∀ u, u < N → j ≠ 30 + 9 * u + 6 := fun u hu e => q ⟨u, hu, e⟩
    rw [p2 j (fun u _ hu => q' u hu), zS_ch_o _ ch q']
theorem zl_set_P {S : Nat → Int32} (ch v : Int32) {N : Nat} (hN : N ≤ 10) : ∀ (d t n : Nat) (X : IX), X 20 4 = nI N → t + d = N → d < n → ∃ X', fn_Post_set_L41 n ch v (nI t) X = some (v, X') ∧ (∀ u, t ≤ u → u < N → X' (zu_th (20 + 6) u + 30) 6 = zt (zbt ch u)) ∧ (∀ a j, (∀ u, t ≤ u → u < N → ¬ (a = zu_th (20 + 6) u + 30 ∧ j = 6)) → X' a j = X a j) := by
  intro d
  induction d with
  | zero =>
    intro t n X h1 ht hd
    obtain ⟨m, rfl⟩ : ∃ m, n = m + 1 := ⟨n - 1, by omega⟩
    refine ⟨X, ?_, fun u a b => absurd b (by omega), fun _ _ _ => rfl⟩
    show fn_Post_set_B41 _ _ _ _ _ = _
    unfold fn_Post_set_B41
    rw [h1, if_pos ((nI_leI (by omega) (by omega)).mpr (by omega))]
  | succ d ih =>
    intro t n X h1 ht hd
    obtain ⟨m, rfl⟩ : ∃ m, n = m + 1 := ⟨n - 1, by omega⟩
    obtain ⟨X', e, p1, p2⟩ := ih (t + 1) m (zu_st X (zu_th (20 + 6) t + 30) 6 (zt (zbt ch t))) (by rw [zs_other _ _ _ (by unfold zu_th; omega)]; exact h1) (by omega) (by omega)
    refine ⟨X', ?_, ?_, ?_⟩
    · rw [← e]
      show fn_Post_set_B41 (fn_Post_set_L41 m) _ _ _ _ = _
      unfold fn_Post_set_B41
      rw [h1, if_neg (nI_ge (a := t) (by omega) (by omega)), zn_ib (show t < 10 by omega) (by decide), zr_gd, zr_nx, zr_nx, nI_1, zn_cl (by omega), zbt_val ch (by omega)]
    · intro u a b
      by_cases q : u = t
      · subst q
        rw [p2 _ _ (fun w _ _ => by unfold zu_th; omega), zs_st, if_pos ⟨rfl, rfl⟩]
      · exact p1 u (by omega) b
    · intro a j hj
      rw [p2 a j (fun u x y => hj u (by omega) y), zs_st, if_neg (hj t (by omega) (by omega))]
/-! how many choices change -/
def zsb (b : Nat → Bool) : Nat → Nat → Int32 → Int32
  | 0, _, a => a
  | d + 1, t, a => zsb b d (t + 1) (a + zt (b t))
theorem zsb_cg {b c : Nat → Bool} : ∀ d t a, (∀ u, t ≤ u → u < t + d → b u = c u) → zsb b d t a = zsb c d t a := by
  intro d
  induction d with
  | zero => intro t a _; rfl
  | succ d ih =>
    intro t a h
    show zsb b d (t + 1) _ = zsb c d (t + 1) _
    rw [h t (by omega) (by omega), ih (t + 1) _ (fun u h1 h2 => h u (by omega) (by omega))]
theorem zsb_0 {b : Nat → Bool} : ∀ d t a, (∀ u, t ≤ u → u < t + d → b u = false) → zsb b d t a = a := by
  intro d
  induction d with
  | zero => intro t a _; rfl
  | succ d ih =>
    intro t a h
    show zsb b d (t + 1) _ = a
    rw [h t (by omega) (by omega), ih (t + 1) _ (fun u h1 h2 => h u (by omega) (by omega)), zt_f, Int32.add_zero]
theorem zsb_add (b : Nat → Bool) : ∀ d e t a, zsb b (d + e) t a = zsb b e (t + d) (zsb b d t a) := by
  intro d
  induction d with
  | zero => intro e t a; rw [Nat.zero_add]; rfl
  | succ d ih =>
    intro e t a
    rw [show d + 1 + e = d + e + 1 by omega, show t + (d + 1) = t + 1 + d by omega]
    show zsb b (d + e) (t + 1) _ = zsb b e (t + 1 + d) (zsb b d (t + 1) _)
    exact ih e (t + 1) _
theorem zsb_bc : ∀ x : Fin 1024, fn_Itg_bitCount (nI x.val) = zsb (zbt (nI x.val)) 10 0 0 := by decide +kernel
theorem zbt_nI (x u : Nat) (hu : u < 32) : zbt (nI x) u = x.testBit u := by
  unfold zbt
  show (BitVec.ofNat 32 x).getLsbD u = _
  rw [BitVec.getLsbD_ofNat, decide_eq_true hu, Bool.true_and]
theorem zo_or (a b : Nat) : nI a ||| nI b = nI (a ||| b) := by
  apply Int32.toBitVec_inj.1
  show BitVec.ofNat 32 a ||| BitVec.ofNat 32 b = BitVec.ofNat 32 (a ||| b)
  apply BitVec.eq_of_getLsbD_eq
  intro i hi
  simp [hi]
theorem zo_xor (a b : Nat) : nI a ^^^ nI b = nI (a ^^^ b) := by
  apply Int32.toBitVec_inj.1
  show BitVec.ofNat 32 a ^^^ BitVec.ofNat 32 b = BitVec.ofNat 32 (a ^^^ b)
  apply BitVec.eq_of_getLsbD_eq
  intro i hi
  simp [hi]
theorem zo_shl {t b : Nat} (ht : t < 24) (hb : b < 2) : nI b <<< (nI t &&& 31) = nI (b * 2 ^ t) := by
  have key : ∀ t : Fin 24, ∀ b : Fin 2, nI b.val <<< (nI t.val &&& 31) = nI (b.val * 2 ^ t.val) := by decide +kernel
  exact key ⟨t, ht⟩ ⟨b, hb⟩
theorem zS_cl_n {S : Nat → Int32} (h : zI_WF S) : ∀ (d t : Nat) (y : Nat), t + d = zN S 1 → y < 2 ^ t → ∃ z, z < 2 ^ zN S 1 ∧ zS_cl S d t (nI y) = nI z := by
  have n1 := zW_1 h
  intro d
  induction d with
  | zero =>
    intro t y ht hy
    obtain rfl : t = zN S 1 := by omega
    exact ⟨y, hy, rfl⟩
  | succ d ih =>
    intro t y ht hy
    have fa := zF_all h (show t < zN S 1 by omega)
    have e : nI y ||| (nI (zF S t 6) <<< (nI t &&& 31)) = nI (y ||| (zF S t 6 * 2 ^ t)) := by rw [zo_shl (by omega) (by omega), zo_or]
    show ∃ z, z < 2 ^ zN S 1 ∧ zS_cl S d (t + 1) (nI y ||| (nI (zF S t 6) <<< (nI t &&& 31))) = nI z
    rw [e]
    refine ih (t + 1) _ (by omega) (Nat.or_lt_two_pow ?_ ?_)
    · have := Nat.pow_le_pow_right (show 0 < 2 by omega) (show t ≤ t + 1 by omega)
      omega
    · have : zF S t 6 * 2 ^ t ≤ 1 * 2 ^ t := Nat.mul_le_mul_right _ (by omega)
      rw [Nat.pow_succ]
      have := Nat.pow_pos (n := t) (show 0 < 2 by omega)
      omega
theorem zm_set_L {X : IX} {S : Nat → Int32} (e : X 96 = S) (h : zI_WF S) (ch : Int32) : ∀ (d t n : Nat) (a : Int32), t + d = zN S 1 → d < n → fn_Mod_set_L31 n ch a (nI t) X = zu_b1 (fn_Mod_chooses ch X) fun X8 => some (zsb (fun u => zbt ch u ^^ decide (zF S u 6 = 1)) d t a, X8) := by
  have n1 := zW_1 h
  have t1 : X 96 1 = nI (zN S 1) := by rw [e]; exact n1.1
  intro d
  induction d with
  | zero =>
    intro t n a ht hd
    obtain ⟨m, rfl⟩ : ∃ m, n = m + 1 := ⟨n - 1, by omega⟩
    show fn_Mod_set_B31 _ _ _ _ _ = _
    unfold fn_Mod_set_B31
    rw [t1, if_pos ((nI_leI (by omega) (by omega)).mpr (by omega))]
    rfl
  | succ d ih =>
    intro t n a ht hd
    obtain ⟨m, rfl⟩ : ∃ m, n = m + 1 := ⟨n - 1, by omega⟩
    have fa := zF_all h (show t < zN S 1 by omega)
    have f6 : fn_Mod_its X (nI t) (6 : Int32) = _ := zf_M e h (show t < zN S 1 by omega) (f := 6) (by omega)
    show fn_Mod_set_B31 (fn_Mod_set_L31 m) _ _ _ _ = _
    unfold fn_Mod_set_B31 fn_Mod_set_L55 fn_Mod_set_L70
    rw [t1, if_neg (nI_ge (a := t) (by omega) (by omega)), zbt_has ch (by omega), zr_b1, f6, zr_b1, zr_b1]
    simp only [zr_nx, nI_1, ih (t + 1) m _ (by omega) (by omega)]
    have st : zsb (fun u => zbt ch u ^^ decide (zF S u 6 = 1)) (d + 1) t a = zsb (fun u => zbt ch u ^^ decide (zF S u 6 = 1)) d (t + 1) (a + zt (zbt ch t ^^ decide (zF S t 6 = 1))) := rfl
    rw [st]
    rcases (show zF S t 6 = 0 ∨ zF S t 6 = 1 by omega) with q | q
    · rw [q]
      cases zbt ch t <;> rfl
    · rw [q]
      cases zbt ch t <;> rfl
theorem st_set {X : IX} {Y : LX} (hI : zI_INV X) (a1 : Int32) : ∃ (v : Int32) (X1 : IX) (X2 : IX), fn_Post_set a1 X = some (v, X1) ∧ fn_Mod_set a1 X1 = some (v, X2) ∧ zI_INV X2 := by
  have n10 : ((1 : Int32) = 0) = False := by decide
  obtain ⟨X1, X2, e1, e2, e3, e4⟩ := zI_both2 hI (f := -1000001) 0 (by decide) (by decide)
  obtain ⟨n1, hn⟩ := zI_1 hI
  obtain ⟨n, en⟩ : ∃ n, n = zN (X 96) 1 := ⟨_, rfl⟩
  rw [← en] at n1 hn
  have t1 : X 20 4 = nI n := by rw [(zL_h rfl hI.1.1).2.1, n1]
  have m1 : X1 96 1 = nI n := by rw [e4 96 (by decide), n1]
  obtain ⟨M, hM⟩ : ∃ M : Int32, M = ((1 : Int32) <<< (nI n &&& 31)) - 1 := ⟨_, rfl⟩
  have hM2 : M = nI (2 ^ n - 1) := by
    have key : ∀ n : Fin 11, ((1 : Int32) <<< (nI n.val &&& 31)) - 1 = nI (2 ^ n.val - 1) := by decide +kernel
    rw [hM]
    exact key ⟨n, by omega⟩
  have pw : 2 ^ n ≤ 1024 := Nat.pow_le_pow_right (show 0 < 2 by omega) hn
  rcases (Bool.eq_false_or_eq_true (zw 0 a1 M)).symm with hg | hg
  · refine ⟨-1000001, X1, X2, ?_, ?_, e3⟩
    · unfold fn_Post_set
      rw [t1, ← hM, ze_isWithin, hg, zr_b1, zt_f, if_pos rfl, e1, zr_b2]
    · unfold fn_Mod_set
      rw [m1, ← hM, ze_inN a1 0 _ 0 M rfl rfl, hg, zr_b1, zt_f, if_pos rfl, e2, zr_b2]
  have hg2 := hg
  rw [hM2] at hg2
  obtain ⟨x, hx, rfl⟩ := zw_n (m := 2 ^ n - 1) (by omega) hg2
  have hW := hI.1.2
  obtain ⟨y, hy, ey⟩ := zS_cl_n hW (zN (X 96) 1) 0 0 (by omega) (by decide)
  rw [← en] at hy
  have ecs : zS_cs (X 96) = nI y := ey
  have cs := ze_cs (r := 20) rfl hI.1.1 hW
  rw [ecs] at cs
  have hxy : x ^^^ y < 1024 := by
    have : x ^^^ y < 2 ^ n := Nat.xor_lt_two_pow (by omega) hy
    omega
  have bit : ∀ u, u < 10 → zbt (nI (x ^^^ y)) u = (zbt (nI x) u ^^ zbt (zS_cs (X 96)) u) := by
    intro u hu
    rw [ecs, zbt_nI _ u (by omega), zbt_nI _ u (by omega), zbt_nI _ u (by omega), Nat.testBit_xor]
  have hi : ∀ u, n ≤ u → u < 10 → zbt (nI (x ^^^ y)) u = false := by
    intro u h1 h2
    rw [zbt_nI _ u (by omega)]
    refine Nat.testBit_lt_two_pow ?_
    have a : x ^^^ y < 2 ^ n := Nat.xor_lt_two_pow (by omega) hy
    have b := Nat.pow_le_pow_right (show 0 < 2 by omega) h1
    omega
  have cnt : fn_Itg_bitCount (nI x ^^^ nI y) = zsb (fun u => zbt (nI x) u ^^ decide (zF (X 96) u 6 = 1)) n 0 0 := by
    rw [zo_xor]
    have k : fn_Itg_bitCount (nI (x ^^^ y)) = _ := zsb_bc ⟨x ^^^ y, hxy⟩
    rw [k]
    obtain ⟨m, hm⟩ : ∃ m, 10 = n + m := ⟨10 - n, by omega⟩
    show zsb (zbt (nI (x ^^^ y))) 10 0 0 = _
    rw [hm, zsb_add, zsb_0 m (0 + n) _ (fun u a b => hi u (by omega) (by omega))]
    refine zsb_cg n 0 0 (fun u _ hu => ?_)
    rw [bit u (by omega), zS_cs_b hW (show u < zN (X 96) 1 by omega)]
  obtain ⟨V, hV⟩ : ∃ V : Int32, V = zsb (fun u => zbt (nI x) u ^^ decide (zF (X 96) u 6 = 1)) n 0 0 := ⟨_, rfl⟩
  rw [← hV] at cnt
  obtain ⟨Xa, ea, pa1, pa2⟩ := zl_set_P (S := X 96) (nI x) V hn n 0 400 X t1 (by omega) (by omega)
  rw [nI_0] at ea
  have a96 : Xa 96 = X 96 := funext fun j => pa2 96 j (fun u _ _ => by unfold zu_th; omega)
  have ma : Xa 96 1 = nI n := by rw [a96]; exact n1
  obtain ⟨Xb, eb, pb1, pb2⟩ := zm_ch (nI x) hn ma
  have lm : fn_Mod_set_L31 400 (nI x) 0 (nI 0) Xa = _ := zm_set_L a96 hW (nI x) (zN (X 96) 1) 0 400 0 (by omega) (by omega)
  rw [nI_0, ← en, ← hV] at lm
  refine ⟨V, Xa, Xb, ?_, ?_, ?_⟩
  · unfold fn_Post_set
    rw [t1, ← hM, ze_isWithin, hg, zr_b1, zt_t, if_neg (by decide), cs, zr_b1, zr_nx, cnt, ea]
  · unfold fn_Mod_set
    rw [ma, ← hM, ze_inN (nI x) 0 _ 0 M rfl rfl, hg, zr_b1, zt_t, if_neg (by decide), lm, eb, zr_b1]
  · rw [a96] at pb1
    refine hI.land (S' := zS_ch (X 96) (nI x) n) (fun i hi => ?_) pb1 (zS_ch_WF hW (nI x) en) (fun a h1 h2 j _ => ?_)
    · rw [pb2 _ (zI_prF i hi 0).2.2.2.2]
      by_cases ir : 30 ≤ i ∧ i < 120
      · obtain ⟨t, f, ht, hf, rfl⟩ : ∃ t f, t < 10 ∧ f < 9 ∧ i = 30 + 9 * t + f := ⟨(i - 30) / 9, (i - 30) % 9, by omega, by omega, by omega⟩
        have hp := zL_p30 0 t f ht hf
        rw [hp.1, hp.2]
        by_cases q : t < n ∧ f = 6
        · obtain ⟨q1, rfl⟩ := q
          rw [zS_ch_6 _ _ q1]
          exact pa1 t (by omega) q1
        · rw [zS_ch_o _ _ (fun u hu => by omega), pa2 _ _ (fun u _ hu w => by have := w.1; unfold zu_th at this; omega)]
          exact zL_fact (r := 20) rfl hI.1.1 ht hf
      · rw [zS_ch_o _ _ (fun u hu => by omega), pa2 _ _ (fun u _ hu w => by
          have w1 := w.1
          have key : ∀ i : Fin 142, ¬ (30 ≤ i.val ∧ i.val < 120) → zI_pr 0 i.val < 65 := by decide +kernel
          have := key ⟨i, hi⟩ ir
          simp only [] at this
          rw [w1] at this
          unfold zu_th at this
          omega)]
        exact hI.1.1 i hi
    · rw [pb2 a h2, pa2 a j (fun u _ hu w => by
        have := zR_f h1
        have w1 := w.1
        unfold zu_th at w1
        omega)]
