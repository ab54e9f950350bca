/-! stuff along a row of cells -/
theorem zi_fill_s (S : Nat → Int32) (v : Nat) {c hi : Nat} (h : c ≤ hi) : zi_fill (upd S (6 + c) (nI v)) v (c + 1) hi = zi_fill S v c hi := by
  funext j
  unfold zi_fill
  by_cases q : j = 6 + c
  · subst q
    rw [if_neg (by omega), pk_us, if_pos (by omega)]
  · by_cases w : 6 + (c + 1) ≤ j ∧ j ≤ 6 + hi
    · rw [if_pos w, if_pos (by omega)]
    · rw [if_neg w, if_neg (by omega), pk_un q]
theorem zi_fill_0 (S : Nat → Int32) (v hi : Nat) : zi_fill S v (hi + 1) hi = S := by
  funext j
  unfold zi_fill
  rw [if_neg (by omega)]
theorem zl_fill {b : Nat → Nat} {L s v hi : Nat} (hh : hi ≤ 23) : ∀ (d c n : Nat) (X : IX) (S : Nat → Int32), c + d = hi + 1 → d < n → zE X b L s S → ∃ X', fn_Read_readStuff_L66 n 22 (nI v) (nI hi) (nI c) X = some (1, X') ∧ zE X' b L s (zi_fill S v c hi) ∧ zBT X X' := by
  intro d
  induction d with
  | zero =>
    intro c n X S hc hd h
    obtain ⟨m, rfl⟩ : ∃ m, n = m + 1 := ⟨n - 1, by omega⟩
    obtain rfl : c = hi + 1 := by omega
    refine ⟨X, ?_, by rw [zi_fill_0]; exact h, zBT.rf X⟩
    show fn_Read_readStuff_B66 _ _ _ _ _ _ = _
    unfold fn_Read_readStuff_B66
    rw [if_pos ((nI_ltI (by omega) (by omega)).mpr (by omega))]
  | succ d ih =>
    intro c n X S hc hd h
    obtain ⟨m, rfl⟩ : ∃ m, n = m + 1 := ⟨n - 1, by omega⟩
    obtain ⟨p1, p2⟩ := zl_put h (k := 6 + c) (by omega) (nI v)
    have hp := zL_p6 2 c (by omega)
    rw [hp.1, hp.2] at p1 p2
    obtain ⟨X', q1, q2, q3⟩ := ih (c + 1) m _ _ (by omega) (by omega) p1
    rw [zi_fill_s S v (by omega)] at q2
    refine ⟨X', ?_, q2, p2.tr q3⟩
    rw [← q1]
    show fn_Read_readStuff_B66 (fn_Read_readStuff_L66 m) _ _ _ _ _ = _
    unfold fn_Read_readStuff_B66
    rw [if_neg (nI_nlt (by omega) (by omega)), zn_ib (show c < 24 by omega) (by decide), zr_gd, zr_nx, zr_nx, nI_1, zn_cl (by omega)]
theorem zl_stuff {b : Nat → Nat} {L s v : Nat} {X : IX} {S : Nat → Int32} (h : zE X b L s S) : ∃ X' ok, fn_Read_readStuff 22 (nI v) X = some (zt ok, X') ∧ ok = (zi_stuff b L s S v).1 ∧ zKt X' b L ∧ zK X' b L (zi_stuff b L s S v).2.1 ∧ (ok = true → zI_LI X' 2 (zi_stuff b L s S v).2.2) ∧ zBT X X' := by
  obtain ⟨X1, a1, a2, a3⟩ := zl_on h
  have in1 : fn_Tape_isNumber X1 (0 : Int32) (23 : Int32) = _ := zl_isNum (lo := 0) (hi := 23) a2.2.1 (by omega) (by omega)
  unfold fn_Read_readStuff zi_stuff
  rw [a1, zr_b1, in1, zr_b1]
  cases hn : zk_num b L (zk_n b L s) 0 23 with
  | false => exact ⟨X1, false, rfl, rfl, a2.1, a2.2.1, fun z => (by cases z), a3⟩
  | true =>
    have v1 := zk_num_v hn
    rw [zt_t, if_neg (by decide), zr_nx, a2.2.1.2.2.2.2 v1.1, if_pos rfl]
    obtain ⟨X2, b1, b2, b3⟩ := zl_on a2
    rw [b1, zr_b1, zl_word_ b2 (by omega), zr_b1]
    cases hw : zk_is b L (zk_n b L (zk_n b L s)) 14 with
    | false =>
      obtain ⟨X', q1, q2, q3⟩ := zl_fill (b := b) (L := L) (s := zk_n b L (zk_n b L s)) (v := v) (hi := zk_v b L (zk_n b L s)) v1.2.2 1 (zk_v b L (zk_n b L s)) 400 X2 S (by omega) (by omega) b2
      rw [zt_f, if_pos rfl]
      unfold fn_Read_readStuff_L63
      exact ⟨X', true, q1, rfl, q2.1, q2.2.1, fun _ => q2.2.2, (a3.tr b3).tr q3⟩
    | true =>
      obtain ⟨X3, c1, c2, c3⟩ := zl_on b2
      rw [zt_t, if_neg (by decide), c1, zr_b1]
      have in3 : fn_Tape_isNumber X3 (nI (zk_v b L (zk_n b L s))) (23 : Int32) = _ := zl_isNum (lo := zk_v b L (zk_n b L s)) (hi := 23) c2.2.1 (by omega) (by omega)
      rw [in3, zr_b1, if_pos rfl]
      cases hm : zk_num b L (zk_n b L (zk_n b L (zk_n b L s))) (zk_v b L (zk_n b L s)) 23 with
      | false => exact ⟨X3, false, rfl, rfl, c2.1, c2.2.1, fun z => (by cases z), (a3.tr b3).tr c3⟩
      | true =>
        have v3 := zk_num_v hm
        rw [zt_t, if_neg (by decide), zr_nx, c2.2.1.2.2.2.2 v3.1, if_pos rfl]
        obtain ⟨X4, d1, d2, d3⟩ := zl_on c2
        obtain ⟨X', q1, q2, q3⟩ := zl_fill (b := b) (L := L) (s := zk_n b L (zk_n b L (zk_n b L (zk_n b L s)))) (v := v) (hi := zk_v b L (zk_n b L (zk_n b L (zk_n b L s)))) v3.2.2 (zk_v b L (zk_n b L (zk_n b L (zk_n b L s))) + 1 - zk_v b L (zk_n b L s)) (zk_v b L (zk_n b L s)) 400 X4 S (by omega) (by omega) d2
        rw [d1, zr_b1]
        unfold fn_Read_readStuff_L63
        exact ⟨X', true, q1, rfl, q2.1, q2.2.1, fun _ => q2.2.2, (((a3.tr b3).tr c3).tr d3).tr q3⟩
/-! throwers -/
theorem zl_ph {b : Nat → Nat} {L s r lo hi dv n f : Nat} {X : IX} {T : Nat → Int32} (h : zE X b L s T) (hr : r < 20) (hlo : lo < 1000) (hhi : hi < 1000) (hn : n < 10) (hf : f < 9) (el : zs_least f = nI lo) (em : zs_most f = nI hi) (hT : T (30 + 9 * n + f) = nI dv) : ∃ X' ok, fn_Read_readPerhaps r (zu_th (22 + 6) n + 30) (nI f) X = some (zt ok, X') ∧ ok = (zi_ph b L s r lo hi dv).1 ∧ zKt X' b L ∧ zK X' b L (zi_ph b L s r lo hi dv).2.1 ∧ (ok = true → zI_LI X' 2 (upd T (30 + 9 * n + f) (nI (zi_ph b L s r lo hi dv).2.2))) ∧ zBT X X' := by
  unfold fn_Read_readPerhaps zi_ph
  rw [zl_word_ h hr, zr_b1]
  cases hw : zk_is b L s r with
  | false => exact ⟨X, true, rfl, rfl, h.1, h.2.1, fun _ => by rw [if_neg (by decide), zu_us T hT]; exact h.2.2, zBT.rf X⟩
  | true =>
    obtain ⟨X1, a1, a2, a3⟩ := zl_on h
    rw [zt_t, if_neg (by decide), a1, zr_b1, zn_ib hf (by decide), zr_gd, zr_gd, zn_cl (by omega), el, em, zl_isNum a2.2.1 hlo hhi, zr_b1, if_pos rfl]
    cases hm : zk_num b L (zk_n b L s) lo hi with
    | false => exact ⟨X1, false, rfl, rfl, a2.1, a2.2.1, fun z => (by cases z), a3⟩
    | true =>
      have v1 := zk_num_v hm
      rw [zt_t, if_neg (by decide), zr_gd, zr_nx, a2.2.1.2.2.2.2 v1.1, if_pos rfl]
      obtain ⟨p1, p2⟩ := zl_put a2 (k := 30 + 9 * n + f) (by omega) (nI (zk_v b L (zk_n b L s)))
      have hp := zL_p30 2 n f hn hf
      rw [hp.1, hp.2] at p1 p2
      obtain ⟨X2, b1, b2, b3⟩ := zl_on p1
      have b1' : fn_Tape_readOn (zu_st X1 (zu_th (22 + 6) n + 30) f (nI (zk_v b L (zk_n b L s)))) = some X2 := b1
      rw [b1', zr_b1]
      exact ⟨X2, true, rfl, rfl, b2.1, b2.2.1, fun _ => b2.2.2, (a3.tr p2).tr b3⟩
theorem zl_thr {b : Nat → Nat} {L s k : Nat} {X : IX} {S : Nat → Int32} (h : zE X b L s S) (hW : zI_WF S) (hk : k ≤ 6) : ∃ X' ok, fn_Read_readThrower 22 (nI k) X = some (zt ok, X') ∧ ok = (zi_thr b L s S k).1 ∧ zKt X' b L ∧ zK X' b L (zi_thr b L s S k).2.1 ∧ (ok = true → zI_LI X' 2 (zi_thr b L s S k).2.2) ∧ zBT X X' := by
  have n1 := zW_1 hW
  obtain ⟨n, en⟩ : ∃ n, n = zN S 1 := ⟨_, rfl⟩
  have x4 : X 22 4 = nI n := by rw [(zL_h (o := 2) rfl h.2.2).2.1, en]; exact n1.1
  have c10 : nI n < (10 : Int32) ↔ n < 10 := nI_ltI (b := 10) (by omega) (by omega)
  unfold fn_Read_readThrower fn_Read_readThrower_L52 zi_thr
  rw [x4, ← en]
  by_cases hn : n < 10
  · rw [if_pos (c10.mpr hn), if_neg (by omega)]
    obtain ⟨X1, a1, a2, a3⟩ := zl_on h
    rw [a1, zr_b1, zl_word_ a2 (by omega), zr_b1]
    cases hat : zk_is b L (zk_n b L s) 15 with
    | false => exact ⟨X1, false, rfl, rfl, a2.1, a2.2.1, fun z => (by cases z), a3⟩
    | true =>
      obtain ⟨X2, b1, b2, b3⟩ := zl_on a2
      obtain ⟨s2, hs2⟩ : ∃ s2, s2 = zk_n b L (zk_n b L s) := ⟨_, rfl⟩
      rw [← hs2] at b2
      have in2 : fn_Tape_isNumber X2 (0 : Int32) (23 : Int32) = _ := zl_isNum (lo := 0) (hi := 23) b2.2.1 (by omega) (by omega)
      rw [zt_t, if_neg (by decide), b1, zr_b1, in2, zr_b1, if_pos rfl, ← hs2]
      unfold zi_t1
      cases hm : zk_num b L s2 0 23 with
      | false =>
        have fc : zk_fc b L s2 S = false := by unfold zk_fc; rw [hm]; rfl
        rw [fc, zt_f, if_pos rfl, if_neg (by decide)]
        exact ⟨X2, false, rfl, rfl, b2.1, b2.2.1, fun z => (by cases z), a3.tr b3⟩
      | true =>
        have v2 := zk_num_v hm
        obtain ⟨c, hc⟩ : ∃ c, c = zk_v b L s2 := ⟨_, rfl⟩
        rw [zt_t, if_neg (by decide), b2.2.1.2.2.2.2 v2.1, ← hc, ze_sd (o := 2) rfl b2.2.2 hW (by omega), zr_b1]
        cases hsd : zS_sd S c with
        | some u =>
          have fc : zk_fc b L s2 S = false := by unfold zk_fc; rw [hm, ← hc, hsd]; rfl
          have hu := zS_sd_s hsd
          rw [fc, if_neg (show ¬ zO (some u) = (-1 : Int32) from zO_m1 (by omega)), if_neg (by decide)]
          exact ⟨X2, false, rfl, rfl, b2.1, b2.2.1, fun z => (by cases z), a3.tr b3⟩
        | none =>
          have fc : zk_fc b L s2 S = true := by unfold zk_fc; rw [hm, ← hc, hsd]; rfl
          obtain ⟨X3, c1, c2, c3⟩ := zl_add_P (o := 2) (r := 22) (by omega) rfl b2.2.2 hW en hn k c
          have c3' : zBT X2 X3 := zBT.R c3
          have E3 : zE X3 b L s2 (zS_nt S n k c) := ⟨b2.1.o (c3 8 (by decide)) (c3 9 (by decide)), b2.2.1.o (c3 8 (by decide)), c2⟩
          obtain ⟨X4, d1, d2, d3⟩ := zl_on E3
          rw [fc, if_pos (show zO none = (-1 : Int32) from rfl), c1, zr_b2, if_neg (show ¬ nI n = (-1 : Int32) from zO_m1 (by omega)), zn_ib hn (by decide), zr_gd, d1, zr_b1, zn_cl (by omega), if_pos rfl, ← en]
          obtain ⟨w2, w3, w4, w5, _⟩ := zS_nf_v k c
          obtain ⟨T, hT⟩ : ∃ T, T = zS_nt S n k c := ⟨_, rfl⟩
          have t2 : T (30 + 9 * n + 2) = nI 2 := by rw [hT, zS_nt_f S n k c (by omega), w2]
          have t3 : T (30 + 9 * n + 3) = nI 5 := by rw [hT, zS_nt_f S n k c (by omega), w3]
          have t4 : T (30 + 9 * n + 4) = nI 1 := by rw [hT, zS_nt_f S n k c (by omega), w4]
          have t5 : T (30 + 9 * n + 5) = nI 8 := by rw [hT, zS_nt_f S n k c (by omega), w5]
          rw [← hT] at d2 ⊢
          have F0 := ((a3.tr b3).tr c3').tr d3
          -- near
          obtain ⟨X5, o5, e1, e2, e3, e4, e5, e6⟩ := zl_ph (r := 16) (lo := 1) (hi := 9) (dv := 2) (f := 2) d2 (by omega) (by omega) (by omega) hn (by omega) rfl rfl t2
          have e1' : fn_Read_readPerhaps 16 (zu_th (22 + 6) n + 30) (2 : Int32) X4 = some (zt o5, X5) := e1
          rw [e1', zr_b2]
          unfold fn_Read_readThrower_L122 fn_Read_readThrower_L142 zi_t2
          rw [← e2]
          cases o5 with
          | false => exact ⟨X5, false, rfl, rfl, e3, e4, fun z => (by cases z), F0.tr e6⟩
          | true =>
            rw [zt_t, if_neg (by decide), if_pos rfl]
            obtain ⟨s5, hs5⟩ : ∃ s5, s5 = (zi_ph b L (zk_n b L s2) 16 1 9 2).2.1 := ⟨_, rfl⟩
            obtain ⟨T5, hT5⟩ : ∃ T5, T5 = upd T (30 + 9 * n + 2) (nI (zi_ph b L (zk_n b L s2) 16 1 9 2).2.2) := ⟨_, rfl⟩
            rw [← hs5] at e4 ⊢
            rw [← hT5] at e5 ⊢
            -- far
            obtain ⟨X6, o6, f1, f2, f3, f4, f5, f6⟩ := zl_ph (r := 17) (lo := 1) (hi := 12) (dv := 5) (f := 3) (T := T5) ⟨e3, e4, e5 rfl⟩ (by omega) (by omega) (by omega) hn (by omega) rfl rfl (by rw [hT5, pk_un (by omega)]; exact t3)
            have f1' : fn_Read_readPerhaps 17 (zu_th (22 + 6) n + 30) (3 : Int32) X5 = some (zt o6, X6) := f1
            rw [f1', zr_b2]
            unfold zi_t3
            rw [← f2]
            cases o6 with
            | false => exact ⟨X6, false, rfl, rfl, f3, f4, fun z => (by cases z), (F0.tr e6).tr f6⟩
            | true =>
              rw [zt_t, if_neg (by decide), if_pos rfl]
              obtain ⟨s6, hs6⟩ : ∃ s6, s6 = (zi_ph b L s5 17 1 12 5).2.1 := ⟨_, rfl⟩
              obtain ⟨T6, hT6⟩ : ∃ T6, T6 = upd T5 (30 + 9 * n + 3) (nI (zi_ph b L s5 17 1 12 5).2.2) := ⟨_, rfl⟩
              rw [← hs6] at f4 ⊢
              rw [← hT6] at f5 ⊢
              -- odds
              obtain ⟨X7, o7, g1, g2, g3, g4, g5, g6⟩ := zl_ph (r := 18) (lo := 0) (hi := 12) (dv := 8) (f := 5) (T := T6) ⟨f3, f4, f5 rfl⟩ (by omega) (by omega) (by omega) hn (by omega) rfl rfl (by rw [hT6, pk_un (by omega), hT5, pk_un (by omega)]; exact t5)
              have g1' : fn_Read_readPerhaps 18 (zu_th (22 + 6) n + 30) (5 : Int32) X6 = some (zt o7, X7) := g1
              rw [g1', zr_b2]
              unfold zi_t4
              rw [← g2]
              cases o7 with
              | false => exact ⟨X7, false, rfl, rfl, g3, g4, fun z => (by cases z), ((F0.tr e6).tr f6).tr g6⟩
              | true =>
                rw [zt_t, if_neg (by decide), if_pos rfl]
                obtain ⟨s7, hs7⟩ : ∃ s7, s7 = (zi_ph b L s6 18 0 12 8).2.1 := ⟨_, rfl⟩
                obtain ⟨T7, hT7⟩ : ∃ T7, T7 = upd T6 (30 + 9 * n + 5) (nI (zi_ph b L s6 18 0 12 8).2.2) := ⟨_, rfl⟩
                rw [← hs7] at g4 ⊢
                rw [← hT7] at g5 ⊢
                have E7 : zE X7 b L s7 T7 := ⟨g3, g4, g5 rfl⟩
                rw [zl_word_ E7 (by omega), zr_b1]
                unfold zi_t5
                cases hw : zk_is b L s7 19 with
                | false =>
                  refine ⟨X7, true, rfl, rfl, g3, g4, fun _ => ?_, ((F0.tr e6).tr f6).tr g6⟩
                  have tt : T7 (30 + 9 * n + 4) = nI 1 := by rw [hT7, pk_un (by omega), hT6, pk_un (by omega), hT5, pk_un (by omega)]; exact t4
                  show zI_LI X7 2 (upd T7 (30 + 9 * n + 4) 1)
                  rw [zu_us T7 (show T7 (30 + 9 * n + 4) = 1 from tt)]
                  exact g5 rfl
                | true =>
                  rw [zt_t, if_neg (by decide), zr_nx]
                  obtain ⟨p1, p2⟩ := zl_put E7 (k := 30 + 9 * n + 4) (by omega) 0
                  have hp := zL_p30 2 n 4 hn (by omega)
                  rw [hp.1, hp.2] at p1 p2
                  obtain ⟨X8, i1, i2, i3⟩ := zl_on p1
                  have i1' : fn_Tape_readOn (zu_st X7 (zu_th (22 + 6) n + 30) 4 0) = some X8 := i1
                  rw [i1', zr_b1]
                  exact ⟨X8, true, rfl, rfl, i2.1, i2.2.1, fun _ => i2.2.2, ((((F0.tr e6).tr f6).tr g6).tr p2).tr i3⟩
  · rw [if_neg (fun z => hn (c10.mp z)), if_pos (by omega)]
    exact ⟨X, false, rfl, rfl, h.1, h.2.1, fun z => (by cases z), zBT.rf X⟩
/-! an item -/
theorem zl_st {b : Nat → Nat} {L s : Nat} {X : IX} {S : Nat → Int32} (h : zE X b L s S) : fn_Read_namedStuff X = some (zO (zi_st b L s)) := by
  unfold fn_Read_namedStuff fn_Read_namedStuff_L47 zi_st
  rw [zl_word_ h (show 3 < 20 by omega), zr_b1, zl_word_ h (show 4 < 20 by omega), zr_b1, zl_word_ h (show 5 < 20 by omega), zr_b1, zl_word_ h (show 6 < 20 by omega), zr_b1]
  cases zk_is b L s 3 <;> cases zk_is b L s 4 <;> cases zk_is b L s 5 <;> cases zk_is b L s 6 <;> rfl
theorem zl_kd {b : Nat → Nat} {L s : Nat} {X : IX} {S : Nat → Int32} (h : zE X b L s S) : fn_Read_namedKind X = some (zO (zi_kd b L s)) := by
  unfold fn_Read_namedKind fn_Read_namedKind_L81 zi_kd
  rw [zl_word_ h (show 7 < 20 by omega), zr_b1, zl_word_ h (show 8 < 20 by omega), zr_b1, zl_word_ h (show 9 < 20 by omega), zr_b1, zl_word_ h (show 10 < 20 by omega), zr_b1, zl_word_ h (show 11 < 20 by omega), zr_b1, zl_word_ h (show 12 < 20 by omega), zr_b1, zl_word_ h (show 13 < 20 by omega), zr_b1]
  cases zk_is b L s 7 with
  | true => rfl
  | false =>
    cases zk_is b L s 8 with
    | true => rfl
    | false =>
      cases zk_is b L s 9 with
      | true => rfl
      | false =>
        cases zk_is b L s 10 with
        | true => rfl
        | false =>
          cases zk_is b L s 11 with
          | true => rfl
          | false =>
            cases zk_is b L s 12 with
            | true => rfl
            | false => cases zk_is b L s 13 <;> rfl
theorem zl_item {b : Nat → Nat} {L s : Nat} {X : IX} {S : Nat → Int32} (h : zE X b L s S) (hW : zI_WF S) : ∃ X' ok, fn_Read_readItem 22 X = some (zt ok, X') ∧ ok = (zi_item b L s S).1 ∧ zKt X' b L ∧ zK X' b L (zi_item b L s S).2.1 ∧ (ok = true → zI_LI X' 2 (zi_item b L s S).2.2) ∧ zBT X X' := by
  unfold fn_Read_readItem fn_Read_readItem_L85 fn_Read_readItem_L86 zi_item
  rw [zl_st h, zr_b1]
  cases hs : zi_st b L s with
  | some v =>
    have hv := zi_st_b hs
    obtain ⟨X', ok, q1, q2⟩ := zl_stuff (v := v) h
    have q1' : fn_Read_readStuff 22 (zO (some v)) X = some (zt ok, X') := q1
    rw [if_neg (show ¬ zO (some v) = (-1 : Int32) from zO_m1 (by omega)), q1', zr_b2, zt_01, zr_gd]
    exact ⟨X', ok, rfl, q2⟩
  | none =>
    rw [if_pos (show zO none = (-1 : Int32) from rfl), zl_kd h, zr_b1]
    cases hk : zi_kd b L s with
    | some k =>
      have hv := zi_kd_b hk
      obtain ⟨X', ok, q1, q2⟩ := zl_thr (k := k) h hW hv
      have q1' : fn_Read_readThrower 22 (zO (some k)) X = some (zt ok, X') := q1
      rw [if_neg (show ¬ zO (some k) = (-1 : Int32) from zO_m1 (by omega)), q1', zr_b2, zt_01, zr_gd]
      exact ⟨X', ok, rfl, q2⟩
    | none =>
      rw [if_pos (show zO none = (-1 : Int32) from rfl), zl_word_ h (show 0 < 20 by omega), zr_b1]
      show ∃ X' ok, _ ∧ ok = (if zk_is b L s 0 = true then zi_set b L s S 23 3 else if zk_is b L s 1 = true then zi_set b L s S 9 4 else if zk_is b L s 2 = true then zi_let b L s S else (false, s, S)).1 ∧ zKt X' b L ∧ zK X' b L (if zk_is b L s 0 = true then zi_set b L s S 23 3 else if zk_is b L s 1 = true then zi_set b L s S 9 4 else if zk_is b L s 2 = true then zi_let b L s S else (false, s, S)).2.1 ∧ (ok = true → zI_LI X' 2 (if zk_is b L s 0 = true then zi_set b L s S 23 3 else if zk_is b L s 1 = true then zi_set b L s S 9 4 else if zk_is b L s 2 = true then zi_let b L s S else (false, s, S)).2.2) ∧ _
      cases h0 : zk_is b L s 0 with
      | true =>
        obtain ⟨X', ok, q1, q2⟩ := zl_home h
        rw [zt_t, if_neg (by decide), q1, zr_b2, zt_01, zr_gd]
        exact ⟨X', ok, rfl, q2⟩
      | false =>
        rw [zt_f, if_pos rfl, zl_word_ h (show 1 < 20 by omega), zr_b1]
        cases h1 : zk_is b L s 1 with
        | true =>
          obtain ⟨X', ok, q1, q2⟩ := zl_fetch h
          rw [zt_t, if_neg (by decide), q1, zr_b2, zt_01, zr_gd]
          exact ⟨X', ok, rfl, q2⟩
        | false =>
          rw [zt_f, if_pos rfl, zl_word_ h (show 2 < 20 by omega), zr_b1]
          cases h2 : zk_is b L s 2 with
          | true =>
            obtain ⟨X', ok, q1, q2⟩ := zl_let h hW
            rw [zt_t, if_neg (by decide), q1, zr_b2]
            cases ok with
            | true => exact ⟨X', true, rfl, q2⟩
            | false => exact ⟨X', false, rfl, q2⟩
          | false => exact ⟨X, false, rfl, rfl, h.1, h.2.1, fun z => (by cases z), zBT.rf X⟩
