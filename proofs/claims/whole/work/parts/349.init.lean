/-! the start -/
theorem zi_96 : zi_X0 96 = zo_s := rfl
theorem zo_s0 : ∀ k : Fin 132, zo_s k.val = if k.val = 3 then nI 23 else if k.val = 4 then nI 2 else if k.val = 5 then nI 1 else nI 0 := by decide +kernel
theorem zo_s1 : ∀ q : Fin 10, zo_s (132 + q.val) = -1 := by decide +kernel
theorem zo_LI : ∀ k : Fin 142, zi_X0 (zI_pr 0 k.val) (zI_ps k.val) = zo_s k.val := by decide +kernel
theorem zo_WF : zI_WF zo_s := by
  have v : ∀ k, k < 132 → zo_s k = if k = 3 then nI 23 else if k = 4 then nI 2 else if k = 5 then nI 1 else nI 0 := fun k hk => zo_s0 ⟨k, hk⟩
  have z1 : zN zo_s 1 = 0 := by unfold zN; rw [v 1 (by omega)]; exact zn_cl (n := 0) (by omega)
  have z2 : zN zo_s 2 = 0 := by unfold zN; rw [v 2 (by omega)]; exact zn_cl (n := 0) (by omega)
  refine ⟨⟨0, by omega, v 0 (by omega)⟩, ⟨0, by omega, v 1 (by omega)⟩, ⟨0, by omega, v 2 (by omega)⟩, ⟨23, by omega, v 3 (by omega)⟩, ⟨2, by omega, v 4 (by omega)⟩, fun c hc => ⟨0, by omega, ?_⟩, fun t ht => absurd ht (by omega), fun i hi => absurd hi (by omega), fun q hq => Or.inl (zo_s1 ⟨q, hq⟩), fun t u ht _ _ => absurd ht (by omega)⟩
  rw [v _ (by omega), if_neg (by omega), if_neg (by omega), if_neg (by omega)]
theorem zo_C5 : ∀ q : Fin 4, zi_X0 105 q.val = 0 ∧ zi_X0 (12 + q.val) 1 = 0 ∧ zi_X0 106 q.val = 0 ∧ zi_X0 (12 + q.val) 2 = 0 ∧ ∀ i : Fin 40, zi_X0 107 (40 * q.val + i.val) = zi_X0 (16 + q.val) i.val := by decide +kernel
theorem zo_C3 : ∀ j : Fin 7, zi_X0 99 j.val = zi_X0 11 j.val := by decide +kernel
theorem zo_v : zi_X0 95 4 = 0 ∧ zi_X0 0 7 = 0 ∧ zi_X0 95 14 = 0 ∧ zi_X0 8 1 = 0 := by decide +kernel
theorem zI_init : zI_INV zi_X0 := by
  obtain ⟨v1, v2, v3, v4⟩ := zo_v
  refine ⟨⟨fun k hk => ?_, ?_⟩, ⟨by rw [v1, v2], Or.inl v2, fun e => ?_⟩, fun j hj => zo_C3 ⟨j, hj⟩, ⟨by rw [v3, v4], ⟨0, by omega, v4⟩, fun j hj => ?_⟩, fun q hq => ?_⟩
  · rw [zi_96]; exact zo_LI ⟨k, hk⟩
  · rw [zi_96]; exact zo_WF
  · rw [v2] at e; exact absurd e (by decide)
  · rw [v4] at hj
    exact absurd hj (by rw [show (0 : Int32) = nI 0 from rfl, zn_cl (by omega)]; omega)
  · obtain ⟨w1, w2, w3, w4, w5⟩ := zo_C5 ⟨q, hq⟩
    refine ⟨by rw [w1]; exact w2.symm, by rw [w3]; exact w4.symm, Or.inl w2, ⟨0, by omega, w4⟩, fun i hi => w5 ⟨i, hi⟩⟩
