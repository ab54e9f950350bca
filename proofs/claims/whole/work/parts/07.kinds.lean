theorem zx_Land_withMostThanks_L (X : IX) : ∀ (n r0 r1 : Nat) (x2 : Int32) (r : Nat), zu_kd r0 = 5 → zu_kd r1 = 6 → fn_Land_withMostThanks_L9 X n r0 r1 x2 = some r → zu_kd r = 6 := by
  intro n
  induction n with
  | zero =>
    intro r0 r1 x2 r h0 h1 hf
    exact (Option.some_ne_none _ hf.symm).elim
  | succ n ih =>
    intro r0 r1 x2 r h0 h1 hf
    have hf : fn_Land_withMostThanks_B9 X (fn_Land_withMostThanks_L9 X n) r0 r1 x2 = some r := hf
    unfold fn_Land_withMostThanks_B9 fn_Land_withMostThanks_L46 zu_nx at hf
    by_cases c : (X r0 4) ≤ x2
    · obtain rfl := Option.some.inj (zu_t c hf)
      exact h1
    · obtain ⟨hg, hf⟩ := zu_gd_e (zu_f c hf)
      by_cases d : (X ((zu_th (r0 + 6) (x2.toNatClampNeg)) + 30) 8) ≤ (X (r1 + 30) 8)
      · exact ih _ _ _ _ h0 h1 (zu_t d hf)
      · obtain ⟨hg2, hf⟩ := zu_gd_e (zu_f d hf)
        exact ih _ _ _ _ h0 (zk_thr (zk_Land_throwers h0) (zu_ib_lt hg)) hf
theorem zx_Land_withMostThanks {X : IX} {r0 r : Nat} (h0 : zu_kd r0 = 5) (hf : fn_Land_withMostThanks X r0 = some r) : zu_kd r = 6 := zx_Land_withMostThanks_L X 400 r0 _ _ r h0 (zk_thr (zk_Land_throwers h0) (by decide)) hf
theorem zx_Land_withLeastThanks_L (X : IX) : ∀ (n r0 r1 : Nat) (x2 : Int32) (r : Nat), zu_kd r0 = 5 → zu_kd r1 = 6 → fn_Land_withLeastThanks_L9 X n r0 r1 x2 = some r → zu_kd r = 6 := by
  intro n
  induction n with
  | zero =>
    intro r0 r1 x2 r h0 h1 hf
    exact (Option.some_ne_none _ hf.symm).elim
  | succ n ih =>
    intro r0 r1 x2 r h0 h1 hf
    have hf : fn_Land_withLeastThanks_B9 X (fn_Land_withLeastThanks_L9 X n) r0 r1 x2 = some r := hf
    unfold fn_Land_withLeastThanks_B9 fn_Land_withLeastThanks_L46 zu_nx at hf
    by_cases c : (X r0 4) ≤ x2
    · obtain rfl := Option.some.inj (zu_t c hf)
      exact h1
    · obtain ⟨hg, hf⟩ := zu_gd_e (zu_f c hf)
      by_cases d : (X (r1 + 30) 8) ≤ (X ((zu_th (r0 + 6) (x2.toNatClampNeg)) + 30) 8)
      · exact ih _ _ _ _ h0 h1 (zu_t d hf)
      · obtain ⟨hg2, hf⟩ := zu_gd_e (zu_f d hf)
        exact ih _ _ _ _ h0 (zk_thr (zk_Land_throwers h0) (zu_ib_lt hg)) hf
theorem zx_Land_withLeastThanks {X : IX} {r0 r : Nat} (h0 : zu_kd r0 = 5) (hf : fn_Land_withLeastThanks X r0 = some r) : zu_kd r = 6 := zx_Land_withLeastThanks_L X 400 r0 _ _ r h0 (zk_thr (zk_Land_throwers h0) (by decide)) hf
