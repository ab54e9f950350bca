abbrev zR_Read_readLetter : Room := { frames := 3, cells := 0, slots := 0, locals := 61 }
theorem zd_Read_readLetter_0 : decode zb_Read_readLetter 0 = .ok (.aload_n 1, 1) := by decide +kernel
theorem zd_Read_readLetter_1 : decode zb_Read_readLetter 1 = .ok (.getfield 106, 3) := by decide +kernel
theorem zd_Read_readLetter_4 : decode zb_Read_readLetter 4 = .ok (.bipush 12, 2) := by decide +kernel
theorem zd_Read_readLetter_6 : decode zb_Read_readLetter 6 = .ok (.if_icmp .lt 5, 3) := by decide +kernel
theorem zd_Read_readLetter_9 : decode zb_Read_readLetter 9 = .ok (.iconst 0, 1) := by decide +kernel
theorem zd_Read_readLetter_10 : decode zb_Read_readLetter 10 = .ok (.ireturn, 1) := by decide +kernel
theorem zd_Read_readLetter_11 : decode zb_Read_readLetter 11 = .ok (.aload_n 0, 1) := by decide +kernel
theorem zd_Read_readLetter_12 : decode zb_Read_readLetter 12 = .ok (.invokevirtual 24, 3) := by decide +kernel
theorem zd_Read_readLetter_15 : decode zb_Read_readLetter 15 = .ok (.aload_n 0, 1) := by decide +kernel
theorem zd_Read_readLetter_16 : decode zb_Read_readLetter 16 = .ok (.iconst 0, 1) := by decide +kernel
theorem zd_Read_readLetter_17 : decode zb_Read_readLetter 17 = .ok (.bipush 23, 2) := by decide +kernel
theorem zd_Read_readLetter_19 : decode zb_Read_readLetter 19 = .ok (.invokevirtual 89, 3) := by decide +kernel
theorem zd_Read_readLetter_22 : decode zb_Read_readLetter 22 = .ok (.ifCond .ne 5, 3) := by decide +kernel
theorem zd_Read_readLetter_25 : decode zb_Read_readLetter 25 = .ok (.iconst 0, 1) := by decide +kernel
theorem zd_Read_readLetter_26 : decode zb_Read_readLetter 26 = .ok (.ireturn, 1) := by decide +kernel
theorem zd_Read_readLetter_27 : decode zb_Read_readLetter 27 = .ok (.aload_n 1, 1) := by decide +kernel
theorem zd_Read_readLetter_28 : decode zb_Read_readLetter 28 = .ok (.aload_n 0, 1) := by decide +kernel
theorem zd_Read_readLetter_29 : decode zb_Read_readLetter 29 = .ok (.getfield 93, 3) := by decide +kernel
theorem zd_Read_readLetter_32 : decode zb_Read_readLetter 32 = .ok (.invokevirtual 109, 3) := by decide +kernel
theorem zd_Read_readLetter_35 : decode zb_Read_readLetter 35 = .ok (.pop, 1) := by decide +kernel
theorem zd_Read_readLetter_36 : decode zb_Read_readLetter 36 = .ok (.aload_n 0, 1) := by decide +kernel
theorem zd_Read_readLetter_37 : decode zb_Read_readLetter 37 = .ok (.invokevirtual 24, 3) := by decide +kernel
theorem zd_Read_readLetter_40 : decode zb_Read_readLetter 40 = .ok (.iconst 1, 1) := by decide +kernel
theorem zd_Read_readLetter_41 : decode zb_Read_readLetter 41 = .ok (.ireturn, 1) := by decide +kernel
set_option maxHeartbeats 4000000 in
theorem zl_Read_readLetter {p : Program} {l : Launch} {e : Env} {s : State} {m : MethodId} {args : Array Value} {below : List Frame} {meth : Method} {c : Code} {D : va_G} {cA : Nat → ClassId} {ad : Nat → Nat} {A : Nat → Prop} (B : zu_B p s m args c zb_Read_readLetter 2 "StonePost$TextReader" D cA ad A) (hret : meth.sig.returnType = (some .boolean)) (hlk : meth.locks = false) {Y : LX} {res : Int32 × IX} {r1 : Nat} {X : IX} (H : Heap) (locs : List Loc) (ls : Array Slot) (hP : va_P D zu_cl (zu_pic cA ad X Y) H) (hS : va_S A s.heap H locs) (hl : lv_has ls 2 [(0, .ref (ad 8)), (1, .ref (ad r1))]) (hr1 : zu_kd r1 = 5) (hf : fn_Read_readLetter r1 X = some res) : W p l e zR_Read_readLetter s m args below meth c H locs 0 0 (MQ below (zu_Qi D cA ad A res.1 res.2 Y) args s 0 0 A) (F0 m 0 ls []) := by
  obtain ⟨hx, hb, hml, hown, hts, hST⟩ := id B
  unfold fn_Read_readLetter at hf
  refine lv_aload_n hx hb zd_Read_readLetter_0 rfl (lv_at hl 1 rfl) ?_
  refine zg_Land_letterCount B hP hr1 zq_65 zd_Read_readLetter_1 ?_
  refine lv_bipush (v := 12) hx hb zd_Read_readLetter_4 (by decide) ?_
  refine lv_icmp_lt (tgt := 11) hx hb zd_Read_readLetter_6 (by decide) (fun c1 => ?_) (fun c1 => ?_)
  · have hf := zu_t c1 hf
    refine lv_aload_n hx hb zd_Read_readLetter_11 rfl (lv_at hl 0 rfl) ?_
    obtain ⟨X2, hq3, hf⟩ := zu_b1_e hf
    refine zw_Tape_readOn (rest := []) B hP hS hq3 zq_716 (Nat.le_of_ble_eq_true rfl) (Nat.le_of_ble_eq_true rfl) hl.1 rfl (Nat.le_of_ble_eq_true rfl) zd_Read_readLetter_12 (by decide) (fun H locs hP hS => ?_)
    clear hq3
    refine lv_aload_n hx hb zd_Read_readLetter_15 rfl (lv_at hl 0 rfl) ?_
    refine lv_iconst (v := 0) hx hb zd_Read_readLetter_16 (by decide) ?_
    refine lv_bipush (v := 23) hx hb zd_Read_readLetter_17 (by decide) ?_
    obtain ⟨v4, hq5, hf⟩ := zu_b1_e hf
    refine zw_Tape_isNumber (rest := []) B hP hS hq5 zq_717 (Nat.le_of_ble_eq_true rfl) (Nat.le_of_ble_eq_true rfl) hl.1 rfl (Nat.le_of_ble_eq_true rfl) zd_Read_readLetter_19 (by decide) (fun H locs hP hS => ?_)
    clear hq5
    refine lv_if_ne (tgt := 27) hx hb zd_Read_readLetter_22 (by decide) (fun c6 => ?_) (fun c6 => ?_)
    · have hf := zu_f c6 hf
      refine lv_aload_n hx hb zd_Read_readLetter_27 rfl (lv_at hl 1 rfl) ?_
      refine lv_aload_n hx hb zd_Read_readLetter_28 rfl (lv_at hl 0 rfl) ?_
      refine zg_Tape_value B hP rfl zq_156 zd_Read_readLetter_29 ?_
      obtain ⟨v7, X8, hq9, hf⟩ := zu_b2_e hf
      refine zw_Land_addLetter (rest := []) B hP hS hr1 hq9 zq_760 (Nat.le_of_ble_eq_true rfl) (Nat.le_of_ble_eq_true rfl) hl.1 rfl (Nat.le_of_ble_eq_true rfl) zd_Read_readLetter_32 (by decide) (fun H locs hP hS => ?_)
      clear hq9
      refine lv_pop hx hb zd_Read_readLetter_35 rfl ?_
      refine lv_aload_n hx hb zd_Read_readLetter_36 rfl (lv_at hl 0 rfl) ?_
      obtain ⟨X10, hq11, hf⟩ := zu_b1_e hf
      refine zw_Tape_readOn (rest := []) B hP hS hq11 zq_716 (Nat.le_of_ble_eq_true rfl) (Nat.le_of_ble_eq_true rfl) hl.1 rfl (Nat.le_of_ble_eq_true rfl) zd_Read_readLetter_37 (by decide) (fun H locs hP hS => ?_)
      clear hq11
      refine lv_iconst (v := 1) hx hb zd_Read_readLetter_40 (by decide) ?_
      obtain rfl := Option.some.inj hf
      exact zr_zret hx hb hret hlk hP hS rfl zd_Read_readLetter_41
    · have hf := zu_t c6 hf
      refine lv_iconst (v := 0) hx hb zd_Read_readLetter_25 (by decide) ?_
      obtain rfl := Option.some.inj hf
      exact zr_zret hx hb hret hlk hP hS rfl zd_Read_readLetter_26
  · have hf := zu_f c1 hf
    refine lv_iconst (v := 0) hx hb zd_Read_readLetter_9 (by decide) ?_
    obtain rfl := Option.some.inj hf
    exact zr_zret hx hb hret hlk hP hS rfl zd_Read_readLetter_10
theorem zC_Read_readLetter (l : Launch) {D : va_G} {cA : Nat → ClassId} {ad : Nat → Nat} {A : Nat → Prop} {r1 : Nat} {X : IX} {Y : LX} {res : Int32 × IX} (hr1 : zu_kd r1 = 5) (hf : fn_Read_readLetter r1 X = some res) : Met l zm_Read_readLetter (zu_ws zm_Read_readLetter zb_Read_readLetter 2 (some .boolean)) zR_Read_readLetter (va_Pc [.ref (ad 8), .ref (ad r1)] (zu_Pre D cA ad A X Y)) (zu_Qi D cA ad A res.1 res.2 Y) 0 0 A := by
  refine Met.ofW (cc := zb_Read_readLetter) (maxL := 2) (ret := (some .boolean)) (by decide +kernel) rfl ?_
  intro p e s m args below meth c s₁ B0 hml hv
  obtain ⟨rfl, hP, hST⟩ := hv
  have B : zu_B p s m _ c zb_Read_readLetter 2 "StonePost$TextReader" D cA ad A := ⟨B0.exec, B0.bytes, hml, findClass_of_methodNamed B0.named, (fun w hw => atoms_spec (ws := zu_ws zm_Read_readLetter zb_Read_readLetter 2 (some .boolean)) B0.pre w (List.mem_cons_of_mem _ hw)), hST⟩
  have hl := lv_entry ([.ref (ad 8), .ref (ad r1)]) (n := 2) (Nat.le_of_ble_eq_true rfl)
  rw [lg_entry_eq]
  generalize (lg_sl ([.ref (ad 8), .ref (ad r1)]) ++ List.replicate (2 - (lg_sl ([.ref (ad 8), .ref (ad r1)])).length) Slot.unset).toArray = ls at hl ⊢
  exact zl_Read_readLetter B B0.returns B0.notSynchronized s.heap [] ls hP va_S.rf hl hr1 hf
theorem zw_Read_readLetter {p : Program} {l : Launch} {e : Env} {R : Room} {s : State} {m : MethodId} {args : Array Value} {below : List Frame} {meth : Method} {c : Code} {H : Heap} {locs : List Loc} {cells slots : Nat} {Q : State → Prop} {cc : ByteArray} {pc nL : Nat} {ls : Array Slot} {rest st0 : List Value} {D : va_G} {cA : Nat → ClassId} {ad : Nat → Nat} {A : Nat → Prop} {X : IX} {Y : LX} {own : String} {index : Nat} {r1 : Nat} {v1 : Int32} {X1 : IX} (B : zu_B p s m args c cc nL own D cA ad A) (hP : va_P D zu_cl (zu_pic cA ad X Y) H) (hS : va_S A s.heap H locs) (hr1 : zu_kd r1 = 5) (hq : fn_Read_readLetter r1 X = some (v1, X1)) (m1 : Cond.methodLink own index zm_Read_readLetter ∈ zu_TB) (hR1 : 3 + 1 ≤ R.frames) (hR2 : 8 + (2 + 11) + 61 ≤ R.locals) (hsz : ls.size = nL) (hst : st0 = .ref (ad r1) :: .ref (ad 8) ::  rest) (hw : (rest.map fun v => v.category).sum ≤ 8) (hdg : decode cc pc = .ok (.invokestatic index, 3)) (h00 : cells ≤ R.cells ∧ slots ≤ R.slots) (kk : ∀ (H1 : Heap) (locs1 : List Loc), va_P D zu_cl (zu_pic cA ad X1 Y) H1 → va_S A s.heap H1 locs1 → W p l e R s m args below meth c H1 locs1 cells slots Q (F0 m (pc + 3) ls (.int v1 :: rest))) : W p l e R s m args below meth c H locs cells slots Q (F0 m pc ls st0) := by
  subst hst
  exact zr_cSi (As := [.ref (ad 8), .ref (ad r1)]) (rest := rest) (n := 2) B hP hS (zC_Read_readLetter l hr1 hq) m1 zq_758 zq_12 zq_759 (by decide +kernel) ⟨hR1, hR2⟩ rfl rfl rfl hsz rfl hw hdg h00 kk
abbrev zR_Read_readFetch : Room := { frames := 3, cells := 0, slots := 0, locals := 61 }
theorem zd_Read_readFetch_0 : decode zb_Read_readFetch 0 = .ok (.aload_n 0, 1) := by decide +kernel
theorem zd_Read_readFetch_1 : decode zb_Read_readFetch 1 = .ok (.invokevirtual 24, 3) := by decide +kernel
theorem zd_Read_readFetch_4 : decode zb_Read_readFetch 4 = .ok (.aload_n 0, 1) := by decide +kernel
theorem zd_Read_readFetch_5 : decode zb_Read_readFetch 5 = .ok (.iconst 0, 1) := by decide +kernel
theorem zd_Read_readFetch_6 : decode zb_Read_readFetch 6 = .ok (.bipush 9, 2) := by decide +kernel
theorem zd_Read_readFetch_8 : decode zb_Read_readFetch 8 = .ok (.invokevirtual 89, 3) := by decide +kernel
theorem zd_Read_readFetch_11 : decode zb_Read_readFetch 11 = .ok (.ifCond .ne 5, 3) := by decide +kernel
theorem zd_Read_readFetch_14 : decode zb_Read_readFetch 14 = .ok (.iconst 0, 1) := by decide +kernel
theorem zd_Read_readFetch_15 : decode zb_Read_readFetch 15 = .ok (.ireturn, 1) := by decide +kernel
theorem zd_Read_readFetch_16 : decode zb_Read_readFetch 16 = .ok (.aload_n 1, 1) := by decide +kernel
theorem zd_Read_readFetch_17 : decode zb_Read_readFetch 17 = .ok (.aload_n 0, 1) := by decide +kernel
theorem zd_Read_readFetch_18 : decode zb_Read_readFetch 18 = .ok (.getfield 93, 3) := by decide +kernel
theorem zd_Read_readFetch_21 : decode zb_Read_readFetch 21 = .ok (.putfield 104, 3) := by decide +kernel
theorem zd_Read_readFetch_24 : decode zb_Read_readFetch 24 = .ok (.aload_n 0, 1) := by decide +kernel
theorem zd_Read_readFetch_25 : decode zb_Read_readFetch 25 = .ok (.invokevirtual 24, 3) := by decide +kernel
theorem zd_Read_readFetch_28 : decode zb_Read_readFetch 28 = .ok (.iconst 1, 1) := by decide +kernel
theorem zd_Read_readFetch_29 : decode zb_Read_readFetch 29 = .ok (.ireturn, 1) := by decide +kernel
set_option maxHeartbeats 4000000 in
theorem zl_Read_readFetch {p : Program} {l : Launch} {e : Env} {s : State} {m : MethodId} {args : Array Value} {below : List Frame} {meth : Method} {c : Code} {D : va_G} {cA : Nat → ClassId} {ad : Nat → Nat} {A : Nat → Prop} (B : zu_B p s m args c zb_Read_readFetch 2 "StonePost$TextReader" D cA ad A) (hret : meth.sig.returnType = (some .boolean)) (hlk : meth.locks = false) {Y : LX} {res : Int32 × IX} {r1 : Nat} {X : IX} (H : Heap) (locs : List Loc) (ls : Array Slot) (hP : va_P D zu_cl (zu_pic cA ad X Y) H) (hS : va_S A s.heap H locs) (hl : lv_has ls 2 [(0, .ref (ad 8)), (1, .ref (ad r1))]) (hr1 : zu_kd r1 = 5) (hf : fn_Read_readFetch r1 X = some res) : W p l e zR_Read_readFetch s m args below meth c H locs 0 0 (MQ below (zu_Qi D cA ad A res.1 res.2 Y) args s 0 0 A) (F0 m 0 ls []) := by
  obtain ⟨hx, hb, hml, hown, hts, hST⟩ := id B
  unfold fn_Read_readFetch at hf
  refine lv_aload_n hx hb zd_Read_readFetch_0 rfl (lv_at hl 0 rfl) ?_
  obtain ⟨X1, hq2, hf⟩ := zu_b1_e hf
  refine zw_Tape_readOn (rest := []) B hP hS hq2 zq_716 (Nat.le_of_ble_eq_true rfl) (Nat.le_of_ble_eq_true rfl) hl.1 rfl (Nat.le_of_ble_eq_true rfl) zd_Read_readFetch_1 (by decide) (fun H locs hP hS => ?_)
  clear hq2
  refine lv_aload_n hx hb zd_Read_readFetch_4 rfl (lv_at hl 0 rfl) ?_
  refine lv_iconst (v := 0) hx hb zd_Read_readFetch_5 (by decide) ?_
  refine lv_bipush (v := 9) hx hb zd_Read_readFetch_6 (by decide) ?_
  obtain ⟨v3, hq4, hf⟩ := zu_b1_e hf
  refine zw_Tape_isNumber (rest := []) B hP hS hq4 zq_717 (Nat.le_of_ble_eq_true rfl) (Nat.le_of_ble_eq_true rfl) hl.1 rfl (Nat.le_of_ble_eq_true rfl) zd_Read_readFetch_8 (by decide) (fun H locs hP hS => ?_)
  clear hq4
  refine lv_if_ne (tgt := 16) hx hb zd_Read_readFetch_11 (by decide) (fun c5 => ?_) (fun c5 => ?_)
  · have hf := zu_f c5 hf
    refine lv_aload_n hx hb zd_Read_readFetch_16 rfl (lv_at hl 1 rfl) ?_
    refine lv_aload_n hx hb zd_Read_readFetch_17 rfl (lv_at hl 0 rfl) ?_
    refine zg_Tape_value B hP rfl zq_156 zd_Read_readFetch_18 ?_
    refine zp_Land_fetch B hP hS hf hr1 zq_73 zd_Read_readFetch_21 (fun X6 H locs hf hP hS => ?_)
    refine lv_aload_n hx hb zd_Read_readFetch_24 rfl (lv_at hl 0 rfl) ?_
    obtain ⟨X7, hq8, hf⟩ := zu_b1_e hf
    refine zw_Tape_readOn (rest := []) B hP hS hq8 zq_716 (Nat.le_of_ble_eq_true rfl) (Nat.le_of_ble_eq_true rfl) hl.1 rfl (Nat.le_of_ble_eq_true rfl) zd_Read_readFetch_25 (by decide) (fun H locs hP hS => ?_)
    clear hq8
    refine lv_iconst (v := 1) hx hb zd_Read_readFetch_28 (by decide) ?_
    obtain rfl := Option.some.inj hf
    exact zr_zret hx hb hret hlk hP hS rfl zd_Read_readFetch_29
  · have hf := zu_t c5 hf
    refine lv_iconst (v := 0) hx hb zd_Read_readFetch_14 (by decide) ?_
    obtain rfl := Option.some.inj hf
    exact zr_zret hx hb hret hlk hP hS rfl zd_Read_readFetch_15
theorem zC_Read_readFetch (l : Launch) {D : va_G} {cA : Nat → ClassId} {ad : Nat → Nat} {A : Nat → Prop} {r1 : Nat} {X : IX} {Y : LX} {res : Int32 × IX} (hr1 : zu_kd r1 = 5) (hf : fn_Read_readFetch r1 X = some res) : Met l zm_Read_readFetch (zu_ws zm_Read_readFetch zb_Read_readFetch 2 (some .boolean)) zR_Read_readFetch (va_Pc [.ref (ad 8), .ref (ad r1)] (zu_Pre D cA ad A X Y)) (zu_Qi D cA ad A res.1 res.2 Y) 0 0 A := by
  refine Met.ofW (cc := zb_Read_readFetch) (maxL := 2) (ret := (some .boolean)) (by decide +kernel) rfl ?_
  intro p e s m args below meth c s₁ B0 hml hv
  obtain ⟨rfl, hP, hST⟩ := hv
  have B : zu_B p s m _ c zb_Read_readFetch 2 "StonePost$TextReader" D cA ad A := ⟨B0.exec, B0.bytes, hml, findClass_of_methodNamed B0.named, (fun w hw => atoms_spec (ws := zu_ws zm_Read_readFetch zb_Read_readFetch 2 (some .boolean)) B0.pre w (List.mem_cons_of_mem _ hw)), hST⟩
  have hl := lv_entry ([.ref (ad 8), .ref (ad r1)]) (n := 2) (Nat.le_of_ble_eq_true rfl)
  rw [lg_entry_eq]
  generalize (lg_sl ([.ref (ad 8), .ref (ad r1)]) ++ List.replicate (2 - (lg_sl ([.ref (ad 8), .ref (ad r1)])).length) Slot.unset).toArray = ls at hl ⊢
  exact zl_Read_readFetch B B0.returns B0.notSynchronized s.heap [] ls hP va_S.rf hl hr1 hf
theorem zw_Read_readFetch {p : Program} {l : Launch} {e : Env} {R : Room} {s : State} {m : MethodId} {args : Array Value} {below : List Frame} {meth : Method} {c : Code} {H : Heap} {locs : List Loc} {cells slots : Nat} {Q : State → Prop} {cc : ByteArray} {pc nL : Nat} {ls : Array Slot} {rest st0 : List Value} {D : va_G} {cA : Nat → ClassId} {ad : Nat → Nat} {A : Nat → Prop} {X : IX} {Y : LX} {own : String} {index : Nat} {r1 : Nat} {v1 : Int32} {X1 : IX} (B : zu_B p s m args c cc nL own D cA ad A) (hP : va_P D zu_cl (zu_pic cA ad X Y) H) (hS : va_S A s.heap H locs) (hr1 : zu_kd r1 = 5) (hq : fn_Read_readFetch r1 X = some (v1, X1)) (m1 : Cond.methodLink own index zm_Read_readFetch ∈ zu_TB) (hR1 : 3 + 1 ≤ R.frames) (hR2 : 8 + (2 + 11) + 61 ≤ R.locals) (hsz : ls.size = nL) (hst : st0 = .ref (ad r1) :: .ref (ad 8) ::  rest) (hw : (rest.map fun v => v.category).sum ≤ 8) (hdg : decode cc pc = .ok (.invokestatic index, 3)) (h00 : cells ≤ R.cells ∧ slots ≤ R.slots) (kk : ∀ (H1 : Heap) (locs1 : List Loc), va_P D zu_cl (zu_pic cA ad X1 Y) H1 → va_S A s.heap H1 locs1 → W p l e R s m args below meth c H1 locs1 cells slots Q (F0 m (pc + 3) ls (.int v1 :: rest))) : W p l e R s m args below meth c H locs cells slots Q (F0 m pc ls st0) := by
  subst hst
  exact zr_cSi (As := [.ref (ad 8), .ref (ad r1)]) (rest := rest) (n := 2) B hP hS (zC_Read_readFetch l hr1 hq) m1 zq_754 zq_12 zq_755 (by decide +kernel) ⟨hR1, hR2⟩ rfl rfl rfl hsz rfl hw hdg h00 kk
abbrev zR_Read_readHome : Room := { frames := 3, cells := 0, slots := 0, locals := 61 }
theorem zd_Read_readHome_0 : decode zb_Read_readHome 0 = .ok (.aload_n 0, 1) := by decide +kernel
theorem zd_Read_readHome_1 : decode zb_Read_readHome 1 = .ok (.invokevirtual 24, 3) := by decide +kernel
theorem zd_Read_readHome_4 : decode zb_Read_readHome 4 = .ok (.aload_n 0, 1) := by decide +kernel
theorem zd_Read_readHome_5 : decode zb_Read_readHome 5 = .ok (.iconst 0, 1) := by decide +kernel
theorem zd_Read_readHome_6 : decode zb_Read_readHome 6 = .ok (.bipush 23, 2) := by decide +kernel
theorem zd_Read_readHome_8 : decode zb_Read_readHome 8 = .ok (.invokevirtual 89, 3) := by decide +kernel
theorem zd_Read_readHome_11 : decode zb_Read_readHome 11 = .ok (.ifCond .ne 5, 3) := by decide +kernel
theorem zd_Read_readHome_14 : decode zb_Read_readHome 14 = .ok (.iconst 0, 1) := by decide +kernel
theorem zd_Read_readHome_15 : decode zb_Read_readHome 15 = .ok (.ireturn, 1) := by decide +kernel
theorem zd_Read_readHome_16 : decode zb_Read_readHome 16 = .ok (.aload_n 1, 1) := by decide +kernel
theorem zd_Read_readHome_17 : decode zb_Read_readHome 17 = .ok (.aload_n 0, 1) := by decide +kernel
theorem zd_Read_readHome_18 : decode zb_Read_readHome 18 = .ok (.getfield 93, 3) := by decide +kernel
theorem zd_Read_readHome_21 : decode zb_Read_readHome 21 = .ok (.putfield 102, 3) := by decide +kernel
theorem zd_Read_readHome_24 : decode zb_Read_readHome 24 = .ok (.aload_n 0, 1) := by decide +kernel
theorem zd_Read_readHome_25 : decode zb_Read_readHome 25 = .ok (.invokevirtual 24, 3) := by decide +kernel
theorem zd_Read_readHome_28 : decode zb_Read_readHome 28 = .ok (.iconst 1, 1) := by decide +kernel
theorem zd_Read_readHome_29 : decode zb_Read_readHome 29 = .ok (.ireturn, 1) := by decide +kernel
set_option maxHeartbeats 4000000 in
theorem zl_Read_readHome {p : Program} {l : Launch} {e : Env} {s : State} {m : MethodId} {args : Array Value} {below : List Frame} {meth : Method} {c : Code} {D : va_G} {cA : Nat → ClassId} {ad : Nat → Nat} {A : Nat → Prop} (B : zu_B p s m args c zb_Read_readHome 2 "StonePost$TextReader" D cA ad A) (hret : meth.sig.returnType = (some .boolean)) (hlk : meth.locks = false) {Y : LX} {res : Int32 × IX} {r1 : Nat} {X : IX} (H : Heap) (locs : List Loc) (ls : Array Slot) (hP : va_P D zu_cl (zu_pic cA ad X Y) H) (hS : va_S A s.heap H locs) (hl : lv_has ls 2 [(0, .ref (ad 8)), (1, .ref (ad r1))]) (hr1 : zu_kd r1 = 5) (hf : fn_Read_readHome r1 X = some res) : W p l e zR_Read_readHome s m args below meth c H locs 0 0 (MQ below (zu_Qi D cA ad A res.1 res.2 Y) args s 0 0 A) (F0 m 0 ls []) := by
  obtain ⟨hx, hb, hml, hown, hts, hST⟩ := id B
  unfold fn_Read_readHome at hf
  refine lv_aload_n hx hb zd_Read_readHome_0 rfl (lv_at hl 0 rfl) ?_
  obtain ⟨X1, hq2, hf⟩ := zu_b1_e hf
  refine zw_Tape_readOn (rest := []) B hP hS hq2 zq_716 (Nat.le_of_ble_eq_true rfl) (Nat.le_of_ble_eq_true rfl) hl.1 rfl (Nat.le_of_ble_eq_true rfl) zd_Read_readHome_1 (by decide) (fun H locs hP hS => ?_)
  clear hq2
  refine lv_aload_n hx hb zd_Read_readHome_4 rfl (lv_at hl 0 rfl) ?_
  refine lv_iconst (v := 0) hx hb zd_Read_readHome_5 (by decide) ?_
  refine lv_bipush (v := 23) hx hb zd_Read_readHome_6 (by decide) ?_
  obtain ⟨v3, hq4, hf⟩ := zu_b1_e hf
  refine zw_Tape_isNumber (rest := []) B hP hS hq4 zq_717 (Nat.le_of_ble_eq_true rfl) (Nat.le_of_ble_eq_true rfl) hl.1 rfl (Nat.le_of_ble_eq_true rfl) zd_Read_readHome_8 (by decide) (fun H locs hP hS => ?_)
  clear hq4
  refine lv_if_ne (tgt := 16) hx hb zd_Read_readHome_11 (by decide) (fun c5 => ?_) (fun c5 => ?_)
  · have hf := zu_f c5 hf
    refine lv_aload_n hx hb zd_Read_readHome_16 rfl (lv_at hl 1 rfl) ?_
    refine lv_aload_n hx hb zd_Read_readHome_17 rfl (lv_at hl 0 rfl) ?_
    refine zg_Tape_value B hP rfl zq_156 zd_Read_readHome_18 ?_
    refine zp_Land_home B hP hS hf hr1 zq_70 zd_Read_readHome_21 (fun X6 H locs hf hP hS => ?_)
    refine lv_aload_n hx hb zd_Read_readHome_24 rfl (lv_at hl 0 rfl) ?_
    obtain ⟨X7, hq8, hf⟩ := zu_b1_e hf
    refine zw_Tape_readOn (rest := []) B hP hS hq8 zq_716 (Nat.le_of_ble_eq_true rfl) (Nat.le_of_ble_eq_true rfl) hl.1 rfl (Nat.le_of_ble_eq_true rfl) zd_Read_readHome_25 (by decide) (fun H locs hP hS => ?_)
    clear hq8
    refine lv_iconst (v := 1) hx hb zd_Read_readHome_28 (by decide) ?_
    obtain rfl := Option.some.inj hf
    exact zr_zret hx hb hret hlk hP hS rfl zd_Read_readHome_29
  · have hf := zu_t c5 hf
    refine lv_iconst (v := 0) hx hb zd_Read_readHome_14 (by decide) ?_
    obtain rfl := Option.some.inj hf
    exact zr_zret hx hb hret hlk hP hS rfl zd_Read_readHome_15
theorem zC_Read_readHome (l : Launch) {D : va_G} {cA : Nat → ClassId} {ad : Nat → Nat} {A : Nat → Prop} {r1 : Nat} {X : IX} {Y : LX} {res : Int32 × IX} (hr1 : zu_kd r1 = 5) (hf : fn_Read_readHome r1 X = some res) : Met l zm_Read_readHome (zu_ws zm_Read_readHome zb_Read_readHome 2 (some .boolean)) zR_Read_readHome (va_Pc [.ref (ad 8), .ref (ad r1)] (zu_Pre D cA ad A X Y)) (zu_Qi D cA ad A res.1 res.2 Y) 0 0 A := by
  refine Met.ofW (cc := zb_Read_readHome) (maxL := 2) (ret := (some .boolean)) (by decide +kernel) rfl ?_
  intro p e s m args below meth c s₁ B0 hml hv
  obtain ⟨rfl, hP, hST⟩ := hv
  have B : zu_B p s m _ c zb_Read_readHome 2 "StonePost$TextReader" D cA ad A := ⟨B0.exec, B0.bytes, hml, findClass_of_methodNamed B0.named, (fun w hw => atoms_spec (ws := zu_ws zm_Read_readHome zb_Read_readHome 2 (some .boolean)) B0.pre w (List.mem_cons_of_mem _ hw)), hST⟩
  have hl := lv_entry ([.ref (ad 8), .ref (ad r1)]) (n := 2) (Nat.le_of_ble_eq_true rfl)
  rw [lg_entry_eq]
  generalize (lg_sl ([.ref (ad 8), .ref (ad r1)]) ++ List.replicate (2 - (lg_sl ([.ref (ad 8), .ref (ad r1)])).length) Slot.unset).toArray = ls at hl ⊢
  exact zl_Read_readHome B B0.returns B0.notSynchronized s.heap [] ls hP va_S.rf hl hr1 hf
theorem zw_Read_readHome {p : Program} {l : Launch} {e : Env} {R : Room} {s : State} {m : MethodId} {args : Array Value} {below : List Frame} {meth : Method} {c : Code} {H : Heap} {locs : List Loc} {cells slots : Nat} {Q : State → Prop} {cc : ByteArray} {pc nL : Nat} {ls : Array Slot} {rest st0 : List Value} {D : va_G} {cA : Nat → ClassId} {ad : Nat → Nat} {A : Nat → Prop} {X : IX} {Y : LX} {own : String} {index : Nat} {r1 : Nat} {v1 : Int32} {X1 : IX} (B : zu_B p s m args c cc nL own D cA ad A) (hP : va_P D zu_cl (zu_pic cA ad X Y) H) (hS : va_S A s.heap H locs) (hr1 : zu_kd r1 = 5) (hq : fn_Read_readHome r1 X = some (v1, X1)) (m1 : Cond.methodLink own index zm_Read_readHome ∈ zu_TB) (hR1 : 3 + 1 ≤ R.frames) (hR2 : 8 + (2 + 11) + 61 ≤ R.locals) (hsz : ls.size = nL) (hst : st0 = .ref (ad r1) :: .ref (ad 8) ::  rest) (hw : (rest.map fun v => v.category).sum ≤ 8) (hdg : decode cc pc = .ok (.invokestatic index, 3)) (h00 : cells ≤ R.cells ∧ slots ≤ R.slots) (kk : ∀ (H1 : Heap) (locs1 : List Loc), va_P D zu_cl (zu_pic cA ad X1 Y) H1 → va_S A s.heap H1 locs1 → W p l e R s m args below meth c H1 locs1 cells slots Q (F0 m (pc + 3) ls (.int v1 :: rest))) : W p l e R s m args below meth c H locs cells slots Q (F0 m pc ls st0) := by
  subst hst
  exact zr_cSi (As := [.ref (ad 8), .ref (ad r1)]) (rest := rest) (n := 2) B hP hS (zC_Read_readHome l hr1 hq) m1 zq_750 zq_12 zq_751 (by decide +kernel) ⟨hR1, hR2⟩ rfl rfl rfl hsz rfl hw hdg h00 kk
abbrev zR_Read_readPerhaps : Room := { frames := 5, cells := 0, slots := 0, locals := 107 }
theorem zd_Read_readPerhaps_0 : decode zb_Read_readPerhaps 0 = .ok (.aload_n 0, 1) := by decide +kernel
theorem zd_Read_readPerhaps_1 : decode zb_Read_readPerhaps 1 = .ok (.aload_n 1, 1) := by decide +kernel
theorem zd_Read_readPerhaps_2 : decode zb_Read_readPerhaps 2 = .ok (.invokevirtual 46, 3) := by decide +kernel
theorem zd_Read_readPerhaps_5 : decode zb_Read_readPerhaps 5 = .ok (.ifCond .ne 5, 3) := by decide +kernel
theorem zd_Read_readPerhaps_8 : decode zb_Read_readPerhaps 8 = .ok (.iconst 1, 1) := by decide +kernel
theorem zd_Read_readPerhaps_9 : decode zb_Read_readPerhaps 9 = .ok (.ireturn, 1) := by decide +kernel
theorem zd_Read_readPerhaps_10 : decode zb_Read_readPerhaps 10 = .ok (.aload_n 0, 1) := by decide +kernel
theorem zd_Read_readPerhaps_11 : decode zb_Read_readPerhaps 11 = .ok (.invokevirtual 24, 3) := by decide +kernel
theorem zd_Read_readPerhaps_14 : decode zb_Read_readPerhaps 14 = .ok (.aload_n 0, 1) := by decide +kernel
theorem zd_Read_readPerhaps_15 : decode zb_Read_readPerhaps 15 = .ok (.getstatic 144, 3) := by decide +kernel
theorem zd_Read_readPerhaps_18 : decode zb_Read_readPerhaps 18 = .ok (.iload_n 3, 1) := by decide +kernel
theorem zd_Read_readPerhaps_19 : decode zb_Read_readPerhaps 19 = .ok (.iaload, 1) := by decide +kernel
theorem zd_Read_readPerhaps_20 : decode zb_Read_readPerhaps 20 = .ok (.getstatic 147, 3) := by decide +kernel
theorem zd_Read_readPerhaps_23 : decode zb_Read_readPerhaps 23 = .ok (.iload_n 3, 1) := by decide +kernel
theorem zd_Read_readPerhaps_24 : decode zb_Read_readPerhaps 24 = .ok (.iaload, 1) := by decide +kernel
theorem zd_Read_readPerhaps_25 : decode zb_Read_readPerhaps 25 = .ok (.invokevirtual 89, 3) := by decide +kernel
theorem zd_Read_readPerhaps_28 : decode zb_Read_readPerhaps 28 = .ok (.ifCond .ne 5, 3) := by decide +kernel
theorem zd_Read_readPerhaps_31 : decode zb_Read_readPerhaps 31 = .ok (.iconst 0, 1) := by decide +kernel
theorem zd_Read_readPerhaps_32 : decode zb_Read_readPerhaps 32 = .ok (.ireturn, 1) := by decide +kernel
theorem zd_Read_readPerhaps_33 : decode zb_Read_readPerhaps 33 = .ok (.aload_n 2, 1) := by decide +kernel
theorem zd_Read_readPerhaps_34 : decode zb_Read_readPerhaps 34 = .ok (.iload_n 3, 1) := by decide +kernel
theorem zd_Read_readPerhaps_35 : decode zb_Read_readPerhaps 35 = .ok (.aload_n 0, 1) := by decide +kernel
theorem zd_Read_readPerhaps_36 : decode zb_Read_readPerhaps 36 = .ok (.getfield 93, 3) := by decide +kernel
theorem zd_Read_readPerhaps_39 : decode zb_Read_readPerhaps 39 = .ok (.iastore, 1) := by decide +kernel
theorem zd_Read_readPerhaps_40 : decode zb_Read_readPerhaps 40 = .ok (.aload_n 0, 1) := by decide +kernel
theorem zd_Read_readPerhaps_41 : decode zb_Read_readPerhaps 41 = .ok (.invokevirtual 24, 3) := by decide +kernel
theorem zd_Read_readPerhaps_44 : decode zb_Read_readPerhaps 44 = .ok (.iconst 1, 1) := by decide +kernel
theorem zd_Read_readPerhaps_45 : decode zb_Read_readPerhaps 45 = .ok (.ireturn, 1) := by decide +kernel
set_option maxHeartbeats 4000000 in
theorem zl_Read_readPerhaps {p : Program} {l : Launch} {e : Env} {s : State} {m : MethodId} {args : Array Value} {below : List Frame} {meth : Method} {c : Code} {D : va_G} {cA : Nat → ClassId} {ad : Nat → Nat} {A : Nat → Prop} (B : zu_B p s m args c zb_Read_readPerhaps 4 "StonePost$TextReader" D cA ad A) (hret : meth.sig.returnType = (some .boolean)) (hlk : meth.locks = false) {Y : LX} {res : Int32 × IX} {r1 : Nat} {r2 : Nat} {a3 : Int32} {X : IX} (H : Heap) (locs : List Loc) (ls : Array Slot) (hP : va_P D zu_cl (zu_pic cA ad X Y) H) (hS : va_S A s.heap H locs) (hl : lv_has ls 4 [(0, .ref (ad 8)), (1, .ref (ad (200 + r1))), (2, .ref (ad r2)), (3, .int a3)]) (hr1 : r1 < 20) (hr2 : zu_kd r2 = 20) (hf : fn_Read_readPerhaps r1 r2 a3 X = some res) : W p l e zR_Read_readPerhaps s m args below meth c H locs 0 0 (MQ below (zu_Qi D cA ad A res.1 res.2 Y) args s 0 0 A) (F0 m 0 ls []) := by
  obtain ⟨hx, hb, hml, hown, hts, hST⟩ := id B
  unfold fn_Read_readPerhaps at hf
  refine lv_aload_n hx hb zd_Read_readPerhaps_0 rfl (lv_at hl 0 rfl) ?_
  refine lv_aload_n hx hb zd_Read_readPerhaps_1 rfl (lv_at hl 1 rfl) ?_
  obtain ⟨v1, hq2, hf⟩ := zu_b1_e hf
  refine zw_Tape_isWord (rest := []) B hP hS hr1 hq2 zq_658 (Nat.le_of_ble_eq_true rfl) (Nat.le_of_ble_eq_true rfl) hl.1 rfl (Nat.le_of_ble_eq_true rfl) zd_Read_readPerhaps_2 (by decide) (fun H locs hP hS => ?_)
  clear hq2
  refine lv_if_ne (tgt := 10) hx hb zd_Read_readPerhaps_5 (by decide) (fun c3 => ?_) (fun c3 => ?_)
  · have hf := zu_f c3 hf
    refine lv_aload_n hx hb zd_Read_readPerhaps_10 rfl (lv_at hl 0 rfl) ?_
    obtain ⟨X4, hq5, hf⟩ := zu_b1_e hf
    refine zw_Tape_readOn (rest := []) B hP hS hq5 zq_716 (Nat.le_of_ble_eq_true rfl) (Nat.le_of_ble_eq_true rfl) hl.1 rfl (Nat.le_of_ble_eq_true rfl) zd_Read_readPerhaps_11 (by decide) (fun H locs hP hS => ?_)
    clear hq5
    refine lv_aload_n hx hb zd_Read_readPerhaps_14 rfl (lv_at hl 0 rfl) ?_
    refine va_getsN hx hb (hST.2.2.1.2.2.1) hS hown (va_Nw.use rfl (hST.2.2.2.2.2.2.2.2.2.2.2.2.1)) (fun _ h9 => h9) zd_Read_readPerhaps_15 ?_
    refine lv_iload_n hx hb zd_Read_readPerhaps_18 rfl (lv_at hl 3 rfl) ?_
    obtain ⟨hg6, hf⟩ := zu_gd_e hf
    refine va_ti hx hb (hST.2.2.1.2.2.2.1) hS (zu_ib_in hg6) rfl zd_Read_readPerhaps_19 ?_
    refine va_getsN hx hb (hST.2.2.1.2.2.2.2.1) hS hown (va_Nw.use rfl (hST.2.2.2.2.2.2.2.2.2.2.2.2.2.1)) (fun _ h9 => h9) zd_Read_readPerhaps_20 ?_
    refine lv_iload_n hx hb zd_Read_readPerhaps_23 rfl (lv_at hl 3 rfl) ?_
    obtain ⟨hg7, hf⟩ := zu_gd_e hf
    refine va_ti hx hb (hST.2.2.1.2.2.2.2.2.1) hS (zu_ib_in hg7) rfl zd_Read_readPerhaps_24 ?_
    obtain ⟨v8, hq9, hf⟩ := zu_b1_e hf
    refine zw_Tape_isNumber (rest := []) B hP hS hq9 zq_717 (Nat.le_of_ble_eq_true rfl) (Nat.le_of_ble_eq_true rfl) hl.1 rfl (Nat.le_of_ble_eq_true rfl) zd_Read_readPerhaps_25 (by decide) (fun H locs hP hS => ?_)
    clear hq9
    refine lv_if_ne (tgt := 33) hx hb zd_Read_readPerhaps_28 (by decide) (fun c10 => ?_) (fun c10 => ?_)
    · have hf := zu_f c10 hf
      refine lv_aload_n hx hb zd_Read_readPerhaps_33 rfl (lv_at hl 2 rfl) ?_
      refine lv_iload_n hx hb zd_Read_readPerhaps_34 rfl (lv_at hl 3 rfl) ?_
      refine lv_aload_n hx hb zd_Read_readPerhaps_35 rfl (lv_at hl 0 rfl) ?_
      refine zg_Tape_value B hP rfl zq_156 zd_Read_readPerhaps_36 ?_
      obtain ⟨hg11, hf⟩ := zu_gd_e hf
      refine zr_iast rfl B hP hS hf hr2 (by decide) rfl hg11 zd_Read_readPerhaps_39 (fun X12 H locs hf hP hS => ?_)
      refine lv_aload_n hx hb zd_Read_readPerhaps_40 rfl (lv_at hl 0 rfl) ?_
      obtain ⟨X13, hq14, hf⟩ := zu_b1_e hf
      refine zw_Tape_readOn (rest := []) B hP hS hq14 zq_716 (Nat.le_of_ble_eq_true rfl) (Nat.le_of_ble_eq_true rfl) hl.1 rfl (Nat.le_of_ble_eq_true rfl) zd_Read_readPerhaps_41 (by decide) (fun H locs hP hS => ?_)
      clear hq14
      refine lv_iconst (v := 1) hx hb zd_Read_readPerhaps_44 (by decide) ?_
      obtain rfl := Option.some.inj hf
      exact zr_zret hx hb hret hlk hP hS rfl zd_Read_readPerhaps_45
    · have hf := zu_t c10 hf
      refine lv_iconst (v := 0) hx hb zd_Read_readPerhaps_31 (by decide) ?_
      obtain rfl := Option.some.inj hf
      exact zr_zret hx hb hret hlk hP hS rfl zd_Read_readPerhaps_32
  · have hf := zu_t c3 hf
    refine lv_iconst (v := 1) hx hb zd_Read_readPerhaps_8 (by decide) ?_
    obtain rfl := Option.some.inj hf
    exact zr_zret hx hb hret hlk hP hS rfl zd_Read_readPerhaps_9
theorem zC_Read_readPerhaps (l : Launch) {D : va_G} {cA : Nat → ClassId} {ad : Nat → Nat} {A : Nat → Prop} {r1 : Nat} {r2 : Nat} {a3 : Int32} {X : IX} {Y : LX} {res : Int32 × IX} (hr1 : r1 < 20) (hr2 : zu_kd r2 = 20) (hf : fn_Read_readPerhaps r1 r2 a3 X = some res) : Met l zm_Read_readPerhaps (zu_ws zm_Read_readPerhaps zb_Read_readPerhaps 4 (some .boolean)) zR_Read_readPerhaps (va_Pc [.ref (ad 8), .ref (ad (200 + r1)), .ref (ad r2), .int a3] (zu_Pre D cA ad A X Y)) (zu_Qi D cA ad A res.1 res.2 Y) 0 0 A := by
  refine Met.ofW (cc := zb_Read_readPerhaps) (maxL := 4) (ret := (some .boolean)) (by decide +kernel) rfl ?_
  intro p e s m args below meth c s₁ B0 hml hv
  obtain ⟨rfl, hP, hST⟩ := hv
  have B : zu_B p s m _ c zb_Read_readPerhaps 4 "StonePost$TextReader" D cA ad A := ⟨B0.exec, B0.bytes, hml, findClass_of_methodNamed B0.named, (fun w hw => atoms_spec (ws := zu_ws zm_Read_readPerhaps zb_Read_readPerhaps 4 (some .boolean)) B0.pre w (List.mem_cons_of_mem _ hw)), hST⟩
  have hl := lv_entry ([.ref (ad 8), .ref (ad (200 + r1)), .ref (ad r2), .int a3]) (n := 4) (Nat.le_of_ble_eq_true rfl)
  rw [lg_entry_eq]
  generalize (lg_sl ([.ref (ad 8), .ref (ad (200 + r1)), .ref (ad r2), .int a3]) ++ List.replicate (4 - (lg_sl ([.ref (ad 8), .ref (ad (200 + r1)), .ref (ad r2), .int a3])).length) Slot.unset).toArray = ls at hl ⊢
  exact zl_Read_readPerhaps B B0.returns B0.notSynchronized s.heap [] ls hP va_S.rf hl hr1 hr2 hf
theorem zw_Read_readPerhaps {p : Program} {l : Launch} {e : Env} {R : Room} {s : State} {m : MethodId} {args : Array Value} {below : List Frame} {meth : Method} {c : Code} {H : Heap} {locs : List Loc} {cells slots : Nat} {Q : State → Prop} {cc : ByteArray} {pc nL : Nat} {ls : Array Slot} {rest st0 : List Value} {D : va_G} {cA : Nat → ClassId} {ad : Nat → Nat} {A : Nat → Prop} {X : IX} {Y : LX} {own : String} {index : Nat} {r1 : Nat} {r2 : Nat} {a3 : Int32} {v1 : Int32} {X1 : IX} (B : zu_B p s m args c cc nL own D cA ad A) (hP : va_P D zu_cl (zu_pic cA ad X Y) H) (hS : va_S A s.heap H locs) (hr1 : r1 < 20) (hr2 : zu_kd r2 = 20) (hq : fn_Read_readPerhaps r1 r2 a3 X = some (v1, X1)) (m1 : Cond.methodLink own index zm_Read_readPerhaps ∈ zu_TB) (hR1 : 5 + 1 ≤ R.frames) (hR2 : 8 + (4 + 11) + 107 ≤ R.locals) (hsz : ls.size = nL) (hst : st0 = .int a3 :: .ref (ad r2) :: .ref (ad (200 + r1)) :: .ref (ad 8) ::  rest) (hw : (rest.map fun v => v.category).sum ≤ 8) (hdg : decode cc pc = .ok (.invokestatic index, 3)) (h00 : cells ≤ R.cells ∧ slots ≤ R.slots) (kk : ∀ (H1 : Heap) (locs1 : List Loc), va_P D zu_cl (zu_pic cA ad X1 Y) H1 → va_S A s.heap H1 locs1 → W p l e R s m args below meth c H1 locs1 cells slots Q (F0 m (pc + 3) ls (.int v1 :: rest))) : W p l e R s m args below meth c H locs cells slots Q (F0 m pc ls st0) := by
  subst hst
  exact zr_cSi (As := [.ref (ad 8), .ref (ad (200 + r1)), .ref (ad r2), .int a3]) (rest := rest) (n := 4) B hP hS (zC_Read_readPerhaps l hr1 hr2 hq) m1 zq_741 zq_12 zq_742 (by decide +kernel) ⟨hR1, hR2⟩ rfl rfl rfl hsz rfl hw hdg h00 kk
abbrev zR_Read_readThrower : Room := { frames := 6, cells := 0, slots := 0, locals := 130 }
theorem zd_Read_readThrower_0 : decode zb_Read_readThrower 0 = .ok (.aload_n 1, 1) := by decide +kernel
theorem zd_Read_readThrower_1 : decode zb_Read_readThrower 1 = .ok (.getfield 113, 3) := by decide +kernel
theorem zd_Read_readThrower_4 : decode zb_Read_readThrower 4 = .ok (.bipush 10, 2) := by decide +kernel
theorem zd_Read_readThrower_6 : decode zb_Read_readThrower 6 = .ok (.if_icmp .lt 5, 3) := by decide +kernel
theorem zd_Read_readThrower_9 : decode zb_Read_readThrower 9 = .ok (.iconst 0, 1) := by decide +kernel
theorem zd_Read_readThrower_10 : decode zb_Read_readThrower 10 = .ok (.ireturn, 1) := by decide +kernel
theorem zd_Read_readThrower_11 : decode zb_Read_readThrower 11 = .ok (.aload_n 0, 1) := by decide +kernel
theorem zd_Read_readThrower_12 : decode zb_Read_readThrower 12 = .ok (.invokevirtual 24, 3) := by decide +kernel
theorem zd_Read_readThrower_15 : decode zb_Read_readThrower 15 = .ok (.aload_n 0, 1) := by decide +kernel
theorem zd_Read_readThrower_16 : decode zb_Read_readThrower 16 = .ok (.ldc 116, 2) := by decide +kernel
theorem zd_Read_readThrower_18 : decode zb_Read_readThrower 18 = .ok (.invokevirtual 46, 3) := by decide +kernel
theorem zd_Read_readThrower_21 : decode zb_Read_readThrower 21 = .ok (.ifCond .ne 5, 3) := by decide +kernel
theorem zd_Read_readThrower_24 : decode zb_Read_readThrower 24 = .ok (.iconst 0, 1) := by decide +kernel
theorem zd_Read_readThrower_25 : decode zb_Read_readThrower 25 = .ok (.ireturn, 1) := by decide +kernel
theorem zd_Read_readThrower_26 : decode zb_Read_readThrower 26 = .ok (.aload_n 0, 1) := by decide +kernel
theorem zd_Read_readThrower_27 : decode zb_Read_readThrower 27 = .ok (.invokevirtual 24, 3) := by decide +kernel
theorem zd_Read_readThrower_30 : decode zb_Read_readThrower 30 = .ok (.aload_n 0, 1) := by decide +kernel
theorem zd_Read_readThrower_31 : decode zb_Read_readThrower 31 = .ok (.iconst 0, 1) := by decide +kernel
theorem zd_Read_readThrower_32 : decode zb_Read_readThrower 32 = .ok (.bipush 23, 2) := by decide +kernel
theorem zd_Read_readThrower_34 : decode zb_Read_readThrower 34 = .ok (.invokevirtual 89, 3) := by decide +kernel
theorem zd_Read_readThrower_37 : decode zb_Read_readThrower 37 = .ok (.ifCond .eq 15, 3) := by decide +kernel
theorem zd_Read_readThrower_40 : decode zb_Read_readThrower 40 = .ok (.aload_n 1, 1) := by decide +kernel
theorem zd_Read_readThrower_41 : decode zb_Read_readThrower 41 = .ok (.aload_n 0, 1) := by decide +kernel
theorem zd_Read_readThrower_42 : decode zb_Read_readThrower 42 = .ok (.getfield 93, 3) := by decide +kernel
theorem zd_Read_readThrower_45 : decode zb_Read_readThrower 45 = .ok (.invokevirtual 118, 3) := by decide +kernel
theorem zd_Read_readThrower_48 : decode zb_Read_readThrower 48 = .ok (.iconst (-1), 1) := by decide +kernel
theorem zd_Read_readThrower_49 : decode zb_Read_readThrower 49 = .ok (.if_icmp .eq 5, 3) := by decide +kernel
theorem zd_Read_readThrower_52 : decode zb_Read_readThrower 52 = .ok (.iconst 0, 1) := by decide +kernel
theorem zd_Read_readThrower_53 : decode zb_Read_readThrower 53 = .ok (.ireturn, 1) := by decide +kernel
theorem zd_Read_readThrower_54 : decode zb_Read_readThrower 54 = .ok (.aload_n 1, 1) := by decide +kernel
theorem zd_Read_readThrower_55 : decode zb_Read_readThrower 55 = .ok (.iload_n 2, 1) := by decide +kernel
theorem zd_Read_readThrower_56 : decode zb_Read_readThrower 56 = .ok (.aload_n 0, 1) := by decide +kernel
theorem zd_Read_readThrower_57 : decode zb_Read_readThrower 57 = .ok (.getfield 93, 3) := by decide +kernel
theorem zd_Read_readThrower_60 : decode zb_Read_readThrower 60 = .ok (.invokevirtual 121, 3) := by decide +kernel
theorem zd_Read_readThrower_63 : decode zb_Read_readThrower 63 = .ok (.istore_n 3, 1) := by decide +kernel
theorem zd_Read_readThrower_64 : decode zb_Read_readThrower 64 = .ok (.iload_n 3, 1) := by decide +kernel
theorem zd_Read_readThrower_65 : decode zb_Read_readThrower 65 = .ok (.iconst (-1), 1) := by decide +kernel
theorem zd_Read_readThrower_66 : decode zb_Read_readThrower 66 = .ok (.if_icmp .ne 5, 3) := by decide +kernel
theorem zd_Read_readThrower_69 : decode zb_Read_readThrower 69 = .ok (.iconst 0, 1) := by decide +kernel
theorem zd_Read_readThrower_70 : decode zb_Read_readThrower 70 = .ok (.ireturn, 1) := by decide +kernel
theorem zd_Read_readThrower_71 : decode zb_Read_readThrower 71 = .ok (.aload_n 1, 1) := by decide +kernel
theorem zd_Read_readThrower_72 : decode zb_Read_readThrower 72 = .ok (.getfield 125, 3) := by decide +kernel
theorem zd_Read_readThrower_75 : decode zb_Read_readThrower 75 = .ok (.iload_n 3, 1) := by decide +kernel
theorem zd_Read_readThrower_76 : decode zb_Read_readThrower 76 = .ok (.aaload, 1) := by decide +kernel
theorem zd_Read_readThrower_77 : decode zb_Read_readThrower 77 = .ok (.getfield 129, 3) := by decide +kernel
theorem zd_Read_readThrower_80 : decode zb_Read_readThrower 80 = .ok (.astore 4, 2) := by decide +kernel
theorem zd_Read_readThrower_82 : decode zb_Read_readThrower 82 = .ok (.aload_n 0, 1) := by decide +kernel
theorem zd_Read_readThrower_83 : decode zb_Read_readThrower 83 = .ok (.invokevirtual 24, 3) := by decide +kernel
theorem zd_Read_readThrower_86 : decode zb_Read_readThrower 86 = .ok (.aload_n 0, 1) := by decide +kernel
theorem zd_Read_readThrower_87 : decode zb_Read_readThrower 87 = .ok (.ldc 132, 2) := by decide +kernel
theorem zd_Read_readThrower_89 : decode zb_Read_readThrower 89 = .ok (.aload 4, 2) := by decide +kernel
theorem zd_Read_readThrower_91 : decode zb_Read_readThrower 91 = .ok (.iconst 2, 1) := by decide +kernel
theorem zd_Read_readThrower_92 : decode zb_Read_readThrower 92 = .ok (.invokestatic 134, 3) := by decide +kernel
theorem zd_Read_readThrower_95 : decode zb_Read_readThrower 95 = .ok (.ifCond .eq 27, 3) := by decide +kernel
theorem zd_Read_readThrower_98 : decode zb_Read_readThrower 98 = .ok (.aload_n 0, 1) := by decide +kernel
theorem zd_Read_readThrower_99 : decode zb_Read_readThrower 99 = .ok (.ldc 138, 2) := by decide +kernel
theorem zd_Read_readThrower_101 : decode zb_Read_readThrower 101 = .ok (.aload 4, 2) := by decide +kernel
theorem zd_Read_readThrower_103 : decode zb_Read_readThrower 103 = .ok (.iconst 3, 1) := by decide +kernel
theorem zd_Read_readThrower_104 : decode zb_Read_readThrower 104 = .ok (.invokestatic 134, 3) := by decide +kernel
theorem zd_Read_readThrower_107 : decode zb_Read_readThrower 107 = .ok (.ifCond .eq 15, 3) := by decide +kernel
theorem zd_Read_readThrower_110 : decode zb_Read_readThrower 110 = .ok (.aload_n 0, 1) := by decide +kernel
theorem zd_Read_readThrower_111 : decode zb_Read_readThrower 111 = .ok (.ldc 140, 2) := by decide +kernel
theorem zd_Read_readThrower_113 : decode zb_Read_readThrower 113 = .ok (.aload 4, 2) := by decide +kernel
theorem zd_Read_readThrower_115 : decode zb_Read_readThrower 115 = .ok (.iconst 5, 1) := by decide +kernel
theorem zd_Read_readThrower_116 : decode zb_Read_readThrower 116 = .ok (.invokestatic 134, 3) := by decide +kernel
theorem zd_Read_readThrower_119 : decode zb_Read_readThrower 119 = .ok (.ifCond .ne 5, 3) := by decide +kernel
theorem zd_Read_readThrower_122 : decode zb_Read_readThrower 122 = .ok (.iconst 0, 1) := by decide +kernel
theorem zd_Read_readThrower_123 : decode zb_Read_readThrower 123 = .ok (.ireturn, 1) := by decide +kernel
theorem zd_Read_readThrower_124 : decode zb_Read_readThrower 124 = .ok (.aload_n 0, 1) := by decide +kernel
theorem zd_Read_readThrower_125 : decode zb_Read_readThrower 125 = .ok (.ldc 142, 2) := by decide +kernel
theorem zd_Read_readThrower_127 : decode zb_Read_readThrower 127 = .ok (.invokevirtual 46, 3) := by decide +kernel
theorem zd_Read_readThrower_130 : decode zb_Read_readThrower 130 = .ok (.ifCond .eq 12, 3) := by decide +kernel
theorem zd_Read_readThrower_133 : decode zb_Read_readThrower 133 = .ok (.aload 4, 2) := by decide +kernel
theorem zd_Read_readThrower_135 : decode zb_Read_readThrower 135 = .ok (.iconst 4, 1) := by decide +kernel
theorem zd_Read_readThrower_136 : decode zb_Read_readThrower 136 = .ok (.iconst 0, 1) := by decide +kernel
theorem zd_Read_readThrower_137 : decode zb_Read_readThrower 137 = .ok (.iastore, 1) := by decide +kernel
theorem zd_Read_readThrower_138 : decode zb_Read_readThrower 138 = .ok (.aload_n 0, 1) := by decide +kernel
theorem zd_Read_readThrower_139 : decode zb_Read_readThrower 139 = .ok (.invokevirtual 24, 3) := by decide +kernel
theorem zd_Read_readThrower_142 : decode zb_Read_readThrower 142 = .ok (.iconst 1, 1) := by decide +kernel
theorem zd_Read_readThrower_143 : decode zb_Read_readThrower 143 = .ok (.ireturn, 1) := by decide +kernel
set_option maxHeartbeats 4000000 in
theorem zl_Read_readThrower_L142 {p : Program} {l : Launch} {e : Env} {s : State} {m : MethodId} {args : Array Value} {below : List Frame} {meth : Method} {c : Code} {D : va_G} {cA : Nat → ClassId} {ad : Nat → Nat} {A : Nat → Prop} (B : zu_B p s m args c zb_Read_readThrower 5 "StonePost$TextReader" D cA ad A) (hret : meth.sig.returnType = (some .boolean)) (hlk : meth.locks = false) {Y : LX} {res : Int32 × IX} (X : IX) (H : Heap) (locs : List Loc) (ls : Array Slot) (hP : va_P D zu_cl (zu_pic cA ad X Y) H) (hS : va_S A s.heap H locs) (hl : lv_has ls 5 []) (hf : fn_Read_readThrower_L142 X = some res) : W p l e zR_Read_readThrower s m args below meth c H locs 0 0 (MQ below (zu_Qi D cA ad A res.1 res.2 Y) args s 0 0 A) (F0 m 142 ls []) := by
  obtain ⟨hx, hb, hml, hown, hts, hST⟩ := id B
  unfold fn_Read_readThrower_L142 at hf
  refine lv_iconst (v := 1) hx hb zd_Read_readThrower_142 (by decide) ?_
  obtain rfl := Option.some.inj hf
  exact zr_zret hx hb hret hlk hP hS rfl zd_Read_readThrower_143
set_option maxHeartbeats 4000000 in
theorem zl_Read_readThrower_L122 {p : Program} {l : Launch} {e : Env} {s : State} {m : MethodId} {args : Array Value} {below : List Frame} {meth : Method} {c : Code} {D : va_G} {cA : Nat → ClassId} {ad : Nat → Nat} {A : Nat → Prop} (B : zu_B p s m args c zb_Read_readThrower 5 "StonePost$TextReader" D cA ad A) (hret : meth.sig.returnType = (some .boolean)) (hlk : meth.locks = false) {Y : LX} {res : Int32 × IX} (X : IX) (H : Heap) (locs : List Loc) (ls : Array Slot) (hP : va_P D zu_cl (zu_pic cA ad X Y) H) (hS : va_S A s.heap H locs) (hl : lv_has ls 5 []) (hf : fn_Read_readThrower_L122 X = some res) : W p l e zR_Read_readThrower s m args below meth c H locs 0 0 (MQ below (zu_Qi D cA ad A res.1 res.2 Y) args s 0 0 A) (F0 m 122 ls []) := by
  obtain ⟨hx, hb, hml, hown, hts, hST⟩ := id B
  unfold fn_Read_readThrower_L122 at hf
  refine lv_iconst (v := 0) hx hb zd_Read_readThrower_122 (by decide) ?_
  obtain rfl := Option.some.inj hf
  exact zr_zret hx hb hret hlk hP hS rfl zd_Read_readThrower_123
set_option maxHeartbeats 4000000 in
theorem zl_Read_readThrower_L52 {p : Program} {l : Launch} {e : Env} {s : State} {m : MethodId} {args : Array Value} {below : List Frame} {meth : Method} {c : Code} {D : va_G} {cA : Nat → ClassId} {ad : Nat → Nat} {A : Nat → Prop} (B : zu_B p s m args c zb_Read_readThrower 5 "StonePost$TextReader" D cA ad A) (hret : meth.sig.returnType = (some .boolean)) (hlk : meth.locks = false) {Y : LX} {res : Int32 × IX} (X : IX) (H : Heap) (locs : List Loc) (ls : Array Slot) (hP : va_P D zu_cl (zu_pic cA ad X Y) H) (hS : va_S A s.heap H locs) (hl : lv_has ls 5 []) (hf : fn_Read_readThrower_L52 X = some res) : W p l e zR_Read_readThrower s m args below meth c H locs 0 0 (MQ below (zu_Qi D cA ad A res.1 res.2 Y) args s 0 0 A) (F0 m 52 ls []) := by
  obtain ⟨hx, hb, hml, hown, hts, hST⟩ := id B
  unfold fn_Read_readThrower_L52 at hf
  refine lv_iconst (v := 0) hx hb zd_Read_readThrower_52 (by decide) ?_
  obtain rfl := Option.some.inj hf
  exact zr_zret hx hb hret hlk hP hS rfl zd_Read_readThrower_53
set_option maxHeartbeats 4000000 in
theorem zl_Read_readThrower {p : Program} {l : Launch} {e : Env} {s : State} {m : MethodId} {args : Array Value} {below : List Frame} {meth : Method} {c : Code} {D : va_G} {cA : Nat → ClassId} {ad : Nat → Nat} {A : Nat → Prop} (B : zu_B p s m args c zb_Read_readThrower 5 "StonePost$TextReader" D cA ad A) (hret : meth.sig.returnType = (some .boolean)) (hlk : meth.locks = false) {Y : LX} {res : Int32 × IX} {r1 : Nat} {a2 : Int32} {X : IX} (H : Heap) (locs : List Loc) (ls : Array Slot) (hP : va_P D zu_cl (zu_pic cA ad X Y) H) (hS : va_S A s.heap H locs) (hl : lv_has ls 5 [(0, .ref (ad 8)), (1, .ref (ad r1)), (2, .int a2)]) (hr1 : zu_kd r1 = 5) (hf : fn_Read_readThrower r1 a2 X = some res) : W p l e zR_Read_readThrower s m args below meth c H locs 0 0 (MQ below (zu_Qi D cA ad A res.1 res.2 Y) args s 0 0 A) (F0 m 0 ls []) := by
  obtain ⟨hx, hb, hml, hown, hts, hST⟩ := id B
  unfold fn_Read_readThrower at hf
  refine lv_aload_n hx hb zd_Read_readThrower_0 rfl (lv_at hl 1 rfl) ?_
  refine zg_Land_throwerCount B hP hr1 zq_62 zd_Read_readThrower_1 ?_
  refine lv_bipush (v := 10) hx hb zd_Read_readThrower_4 (by decide) ?_
  refine lv_icmp_lt (tgt := 11) hx hb zd_Read_readThrower_6 (by decide) (fun c1 => ?_) (fun c1 => ?_)
  · have hf := zu_t c1 hf
    refine lv_aload_n hx hb zd_Read_readThrower_11 rfl (lv_at hl 0 rfl) ?_
    obtain ⟨X2, hq3, hf⟩ := zu_b1_e hf
    refine zw_Tape_readOn (rest := []) B hP hS hq3 zq_716 (Nat.le_of_ble_eq_true rfl) (Nat.le_of_ble_eq_true rfl) hl.1 rfl (Nat.le_of_ble_eq_true rfl) zd_Read_readThrower_12 (by decide) (fun H locs hP hS => ?_)
    clear hq3
    refine lv_aload_n hx hb zd_Read_readThrower_15 rfl (lv_at hl 0 rfl) ?_
    refine va_ldcS hx hb hown (hST.2.2.2.2.1 15 (by decide)) zd_Read_readThrower_16 ?_
    obtain ⟨v4, hq5, hf⟩ := zu_b1_e hf
    refine zw_Tape_isWord (rest := []) B hP hS (by decide) hq5 zq_658 (Nat.le_of_ble_eq_true rfl) (Nat.le_of_ble_eq_true rfl) hl.1 rfl (Nat.le_of_ble_eq_true rfl) zd_Read_readThrower_18 (by decide) (fun H locs hP hS => ?_)
    clear hq5
    refine lv_if_ne (tgt := 26) hx hb zd_Read_readThrower_21 (by decide) (fun c6 => ?_) (fun c6 => ?_)
    · have hf := zu_f c6 hf
      refine lv_aload_n hx hb zd_Read_readThrower_26 rfl (lv_at hl 0 rfl) ?_
      obtain ⟨X7, hq8, hf⟩ := zu_b1_e hf
      refine zw_Tape_readOn (rest := []) B hP hS hq8 zq_716 (Nat.le_of_ble_eq_true rfl) (Nat.le_of_ble_eq_true rfl) hl.1 rfl (Nat.le_of_ble_eq_true rfl) zd_Read_readThrower_27 (by decide) (fun H locs hP hS => ?_)
      clear hq8
      refine lv_aload_n hx hb zd_Read_readThrower_30 rfl (lv_at hl 0 rfl) ?_
      refine lv_iconst (v := 0) hx hb zd_Read_readThrower_31 (by decide) ?_
      refine lv_bipush (v := 23) hx hb zd_Read_readThrower_32 (by decide) ?_
      obtain ⟨v9, hq10, hf⟩ := zu_b1_e hf
      refine zw_Tape_isNumber (rest := []) B hP hS hq10 zq_717 (Nat.le_of_ble_eq_true rfl) (Nat.le_of_ble_eq_true rfl) hl.1 rfl (Nat.le_of_ble_eq_true rfl) zd_Read_readThrower_34 (by decide) (fun H locs hP hS => ?_)
      clear hq10
      refine lv_if_eq (tgt := 52) hx hb zd_Read_readThrower_37 (by decide) (fun c11 => ?_) (fun c11 => ?_)
      · have hf := zu_t c11 hf
        exact zl_Read_readThrower_L52 B hret hlk X7 _ _ _ hP hS (lv_sub hl [] rfl) hf
      · have hf := zu_f c11 hf
        refine lv_aload_n hx hb zd_Read_readThrower_40 rfl (lv_at hl 1 rfl) ?_
        refine lv_aload_n hx hb zd_Read_readThrower_41 rfl (lv_at hl 0 rfl) ?_
        refine zg_Tape_value B hP rfl zq_156 zd_Read_readThrower_42 ?_
        obtain ⟨v12, hq13, hf⟩ := zu_b1_e hf
        refine zw_Land_standingOn (rest := []) B hP hS hr1 hq13 zq_737 (Nat.le_of_ble_eq_true rfl) (Nat.le_of_ble_eq_true rfl) hl.1 rfl (Nat.le_of_ble_eq_true rfl) zd_Read_readThrower_45 (by decide) (fun H locs hP hS => ?_)
        clear hq13
        refine lv_iconst (v := -1) hx hb zd_Read_readThrower_48 (by decide) ?_
        refine lv_icmp_eq (tgt := 54) hx hb zd_Read_readThrower_49 (by decide) (fun c14 => ?_) (fun c14 => ?_)
        · have hf := zu_t c14 hf
          refine lv_aload_n hx hb zd_Read_readThrower_54 rfl (lv_at hl 1 rfl) ?_
          refine lv_iload_n hx hb zd_Read_readThrower_55 rfl (lv_at hl 2 rfl) ?_
          refine lv_aload_n hx hb zd_Read_readThrower_56 rfl (lv_at hl 0 rfl) ?_
          refine zg_Tape_value B hP rfl zq_156 zd_Read_readThrower_57 ?_
          obtain ⟨v15, X16, hq17, hf⟩ := zu_b2_e hf
          refine zw_Land_addThrower (rest := []) B hP hS hr1 hq17 zq_738 (Nat.le_of_ble_eq_true rfl) (Nat.le_of_ble_eq_true rfl) hl.1 rfl (Nat.le_of_ble_eq_true rfl) zd_Read_readThrower_60 (by decide) (fun H locs hP hS => ?_)
          clear hq17
          refine lv_istore_n (lv' := [(3, .int v15), (0, .ref (ad 8)), (1, .ref (ad r1)), (2, .int a2)]) hx hb zd_Read_readThrower_63 rfl hl (by decide) rfl (fun ls hl => ?_)
          refine lv_iload_n hx hb zd_Read_readThrower_64 rfl (lv_at hl 0 rfl) ?_
          refine lv_iconst (v := -1) hx hb zd_Read_readThrower_65 (by decide) ?_
          refine lv_icmp_ne (tgt := 71) hx hb zd_Read_readThrower_66 (by decide) (fun c18 => ?_) (fun c18 => ?_)
          · have hf := zu_f c18 hf
            refine lv_aload_n hx hb zd_Read_readThrower_71 rfl (lv_at hl 2 rfl) ?_
            refine zg_Land_throwers B hP hr1 zq_56 zd_Read_readThrower_72 ?_
            refine lv_iload_n hx hb zd_Read_readThrower_75 rfl (lv_at hl 0 rfl) ?_
            obtain ⟨hg19, hf⟩ := zu_gd_e hf
            refine zr_thr rfl B hP (zk_Land_throwers hr1) hg19 zd_Read_readThrower_76 ?_
            refine zg_Thr_facts B hP (zk_thr (zk_Land_throwers hr1) (zu_ib_lt hg19)) zq_42 zd_Read_readThrower_77 ?_
            refine lv_astore (lv' := [(4, .ref (ad ((zu_th (r1 + 6) (v15.toNatClampNeg)) + 30))), (3, .int v15), (0, .ref (ad 8)), (1, .ref (ad r1)), (2, .int a2)]) hx hb zd_Read_readThrower_80 hl (by decide) rfl (fun ls hl => ?_)
            refine lv_aload_n hx hb zd_Read_readThrower_82 rfl (lv_at hl 2 rfl) ?_
            obtain ⟨X20, hq21, hf⟩ := zu_b1_e hf
            refine zw_Tape_readOn (rest := []) B hP hS hq21 zq_716 (Nat.le_of_ble_eq_true rfl) (Nat.le_of_ble_eq_true rfl) hl.1 rfl (Nat.le_of_ble_eq_true rfl) zd_Read_readThrower_83 (by decide) (fun H locs hP hS => ?_)
            clear hq21
            refine lv_aload_n hx hb zd_Read_readThrower_86 rfl (lv_at hl 2 rfl) ?_
            refine va_ldcS hx hb hown (hST.2.2.2.2.1 16 (by decide)) zd_Read_readThrower_87 ?_
            refine lv_aload hx hb zd_Read_readThrower_89 (lv_at hl 0 rfl) ?_
            refine lv_iconst (v := 2) hx hb zd_Read_readThrower_91 (by decide) ?_
            obtain ⟨v22, X23, hq24, hf⟩ := zu_b2_e hf
            refine zw_Read_readPerhaps (rest := []) B hP hS (by decide) (zk_Thr_facts (zk_thr (zk_Land_throwers hr1) (zu_ib_lt hg19))) hq24 zq_740 (Nat.le_of_ble_eq_true rfl) (Nat.le_of_ble_eq_true rfl) hl.1 rfl (Nat.le_of_ble_eq_true rfl) zd_Read_readThrower_92 (by decide) (fun H locs hP hS => ?_)
            clear hq24
            refine lv_if_eq (tgt := 122) hx hb zd_Read_readThrower_95 (by decide) (fun c25 => ?_) (fun c25 => ?_)
            · have hf := zu_t c25 hf
              exact zl_Read_readThrower_L122 B hret hlk X23 _ _ _ hP hS (lv_sub hl [] rfl) hf
            · have hf := zu_f c25 hf
              refine lv_aload_n hx hb zd_Read_readThrower_98 rfl (lv_at hl 2 rfl) ?_
              refine va_ldcS hx hb hown (hST.2.2.2.2.1 17 (by decide)) zd_Read_readThrower_99 ?_
              refine lv_aload hx hb zd_Read_readThrower_101 (lv_at hl 0 rfl) ?_
              refine lv_iconst (v := 3) hx hb zd_Read_readThrower_103 (by decide) ?_
              obtain ⟨v26, X27, hq28, hf⟩ := zu_b2_e hf
              refine zw_Read_readPerhaps (rest := []) B hP hS (by decide) (zk_Thr_facts (zk_thr (zk_Land_throwers hr1) (zu_ib_lt hg19))) hq28 zq_740 (Nat.le_of_ble_eq_true rfl) (Nat.le_of_ble_eq_true rfl) hl.1 rfl (Nat.le_of_ble_eq_true rfl) zd_Read_readThrower_104 (by decide) (fun H locs hP hS => ?_)
              clear hq28
              refine lv_if_eq (tgt := 122) hx hb zd_Read_readThrower_107 (by decide) (fun c29 => ?_) (fun c29 => ?_)
              · have hf := zu_t c29 hf
                exact zl_Read_readThrower_L122 B hret hlk X27 _ _ _ hP hS (lv_sub hl [] rfl) hf
              · have hf := zu_f c29 hf
                refine lv_aload_n hx hb zd_Read_readThrower_110 rfl (lv_at hl 2 rfl) ?_
                refine va_ldcS hx hb hown (hST.2.2.2.2.1 18 (by decide)) zd_Read_readThrower_111 ?_
                refine lv_aload hx hb zd_Read_readThrower_113 (lv_at hl 0 rfl) ?_
                refine lv_iconst (v := 5) hx hb zd_Read_readThrower_115 (by decide) ?_
                obtain ⟨v30, X31, hq32, hf⟩ := zu_b2_e hf
                refine zw_Read_readPerhaps (rest := []) B hP hS (by decide) (zk_Thr_facts (zk_thr (zk_Land_throwers hr1) (zu_ib_lt hg19))) hq32 zq_740 (Nat.le_of_ble_eq_true rfl) (Nat.le_of_ble_eq_true rfl) hl.1 rfl (Nat.le_of_ble_eq_true rfl) zd_Read_readThrower_116 (by decide) (fun H locs hP hS => ?_)
                clear hq32
                refine lv_if_ne (tgt := 124) hx hb zd_Read_readThrower_119 (by decide) (fun c33 => ?_) (fun c33 => ?_)
                · have hf := zu_f c33 hf
                  refine lv_aload_n hx hb zd_Read_readThrower_124 rfl (lv_at hl 2 rfl) ?_
                  refine va_ldcS hx hb hown (hST.2.2.2.2.1 19 (by decide)) zd_Read_readThrower_125 ?_
                  obtain ⟨v34, hq35, hf⟩ := zu_b1_e hf
                  refine zw_Tape_isWord (rest := []) B hP hS (by decide) hq35 zq_658 (Nat.le_of_ble_eq_true rfl) (Nat.le_of_ble_eq_true rfl) hl.1 rfl (Nat.le_of_ble_eq_true rfl) zd_Read_readThrower_127 (by decide) (fun H locs hP hS => ?_)
                  clear hq35
                  refine lv_if_eq (tgt := 142) hx hb zd_Read_readThrower_130 (by decide) (fun c36 => ?_) (fun c36 => ?_)
                  · have hf := zu_t c36 hf
                    exact zl_Read_readThrower_L142 B hret hlk X31 _ _ _ hP hS (lv_sub hl [] rfl) hf
                  · have hf := zu_f c36 hf
                    refine lv_aload hx hb zd_Read_readThrower_133 (lv_at hl 0 rfl) ?_
                    refine lv_iconst (v := 4) hx hb zd_Read_readThrower_135 (by decide) ?_
                    refine lv_iconst (v := 0) hx hb zd_Read_readThrower_136 (by decide) ?_
                    refine zr_iast (j := 4) (by decide) B hP hS hf (zk_Thr_facts (zk_thr (zk_Land_throwers hr1) (zu_ib_lt hg19))) (by decide) rfl (by decide) zd_Read_readThrower_137 (fun X37 H locs hf hP hS => ?_)
                    refine lv_aload_n hx hb zd_Read_readThrower_138 rfl (lv_at hl 2 rfl) ?_
                    obtain ⟨X38, hq39, hf⟩ := zu_b1_e hf
                    refine zw_Tape_readOn (rest := []) B hP hS hq39 zq_716 (Nat.le_of_ble_eq_true rfl) (Nat.le_of_ble_eq_true rfl) hl.1 rfl (Nat.le_of_ble_eq_true rfl) zd_Read_readThrower_139 (by decide) (fun H locs hP hS => ?_)
                    clear hq39
                    exact zl_Read_readThrower_L142 B hret hlk X38 _ _ _ hP hS (lv_sub hl [] rfl) hf
                · have hf := zu_t c33 hf
                  exact zl_Read_readThrower_L122 B hret hlk X31 _ _ _ hP hS (lv_sub hl [] rfl) hf
          · have hf := zu_t c18 hf
            refine lv_iconst (v := 0) hx hb zd_Read_readThrower_69 (by decide) ?_
            obtain rfl := Option.some.inj hf
            exact zr_zret hx hb hret hlk hP hS rfl zd_Read_readThrower_70
        · have hf := zu_f c14 hf
          exact zl_Read_readThrower_L52 B hret hlk X7 _ _ _ hP hS (lv_sub hl [] rfl) hf
    · have hf := zu_t c6 hf
      refine lv_iconst (v := 0) hx hb zd_Read_readThrower_24 (by decide) ?_
      obtain rfl := Option.some.inj hf
      exact zr_zret hx hb hret hlk hP hS rfl zd_Read_readThrower_25
  · have hf := zu_f c1 hf
    refine lv_iconst (v := 0) hx hb zd_Read_readThrower_9 (by decide) ?_
    obtain rfl := Option.some.inj hf
    exact zr_zret hx hb hret hlk hP hS rfl zd_Read_readThrower_10
theorem zC_Read_readThrower (l : Launch) {D : va_G} {cA : Nat → ClassId} {ad : Nat → Nat} {A : Nat → Prop} {r1 : Nat} {a2 : Int32} {X : IX} {Y : LX} {res : Int32 × IX} (hr1 : zu_kd r1 = 5) (hf : fn_Read_readThrower r1 a2 X = some res) : Met l zm_Read_readThrower (zu_ws zm_Read_readThrower zb_Read_readThrower 5 (some .boolean)) zR_Read_readThrower (va_Pc [.ref (ad 8), .ref (ad r1), .int a2] (zu_Pre D cA ad A X Y)) (zu_Qi D cA ad A res.1 res.2 Y) 0 0 A := by
  refine Met.ofW (cc := zb_Read_readThrower) (maxL := 5) (ret := (some .boolean)) (by decide +kernel) rfl ?_
  intro p e s m args below meth c s₁ B0 hml hv
  obtain ⟨rfl, hP, hST⟩ := hv
  have B : zu_B p s m _ c zb_Read_readThrower 5 "StonePost$TextReader" D cA ad A := ⟨B0.exec, B0.bytes, hml, findClass_of_methodNamed B0.named, (fun w hw => atoms_spec (ws := zu_ws zm_Read_readThrower zb_Read_readThrower 5 (some .boolean)) B0.pre w (List.mem_cons_of_mem _ hw)), hST⟩
  have hl := lv_entry ([.ref (ad 8), .ref (ad r1), .int a2]) (n := 5) (Nat.le_of_ble_eq_true rfl)
  rw [lg_entry_eq]
  generalize (lg_sl ([.ref (ad 8), .ref (ad r1), .int a2]) ++ List.replicate (5 - (lg_sl ([.ref (ad 8), .ref (ad r1), .int a2])).length) Slot.unset).toArray = ls at hl ⊢
  exact zl_Read_readThrower B B0.returns B0.notSynchronized s.heap [] ls hP va_S.rf hl hr1 hf
theorem zw_Read_readThrower {p : Program} {l : Launch} {e : Env} {R : Room} {s : State} {m : MethodId} {args : Array Value} {below : List Frame} {meth : Method} {c : Code} {H : Heap} {locs : List Loc} {cells slots : Nat} {Q : State → Prop} {cc : ByteArray} {pc nL : Nat} {ls : Array Slot} {rest st0 : List Value} {D : va_G} {cA : Nat → ClassId} {ad : Nat → Nat} {A : Nat → Prop} {X : IX} {Y : LX} {own : String} {index : Nat} {r1 : Nat} {a2 : Int32} {v1 : Int32} {X1 : IX} (B : zu_B p s m args c cc nL own D cA ad A) (hP : va_P D zu_cl (zu_pic cA ad X Y) H) (hS : va_S A s.heap H locs) (hr1 : zu_kd r1 = 5) (hq : fn_Read_readThrower r1 a2 X = some (v1, X1)) (m1 : Cond.methodLink own index zm_Read_readThrower ∈ zu_TB) (hR1 : 6 + 1 ≤ R.frames) (hR2 : 8 + (5 + 11) + 130 ≤ R.locals) (hsz : ls.size = nL) (hst : st0 = .int a2 :: .ref (ad r1) :: .ref (ad 8) ::  rest) (hw : (rest.map fun v => v.category).sum ≤ 8) (hdg : decode cc pc = .ok (.invokestatic index, 3)) (h00 : cells ≤ R.cells ∧ slots ≤ R.slots) (kk : ∀ (H1 : Heap) (locs1 : List Loc), va_P D zu_cl (zu_pic cA ad X1 Y) H1 → va_S A s.heap H1 locs1 → W p l e R s m args below meth c H1 locs1 cells slots Q (F0 m (pc + 3) ls (.int v1 :: rest))) : W p l e R s m args below meth c H locs cells slots Q (F0 m pc ls st0) := by
  subst hst
  exact zr_cSi (As := [.ref (ad 8), .ref (ad r1), .int a2]) (rest := rest) (n := 3) B hP hS (zC_Read_readThrower l hr1 hq) m1 zq_734 zq_12 zq_735 (by decide +kernel) ⟨hR1, hR2⟩ rfl rfl rfl hsz rfl hw hdg h00 kk
abbrev zR_Read_readStuff : Room := { frames := 5, cells := 0, slots := 0, locals := 107 }
theorem zd_Read_readStuff_0 : decode zb_Read_readStuff 0 = .ok (.aload_n 0, 1) := by decide +kernel
theorem zd_Read_readStuff_1 : decode zb_Read_readStuff 1 = .ok (.invokevirtual 24, 3) := by decide +kernel
theorem zd_Read_readStuff_4 : decode zb_Read_readStuff 4 = .ok (.aload_n 0, 1) := by decide +kernel
theorem zd_Read_readStuff_5 : decode zb_Read_readStuff 5 = .ok (.iconst 0, 1) := by decide +kernel
theorem zd_Read_readStuff_6 : decode zb_Read_readStuff 6 = .ok (.bipush 23, 2) := by decide +kernel
theorem zd_Read_readStuff_8 : decode zb_Read_readStuff 8 = .ok (.invokevirtual 89, 3) := by decide +kernel
theorem zd_Read_readStuff_11 : decode zb_Read_readStuff 11 = .ok (.ifCond .ne 5, 3) := by decide +kernel
theorem zd_Read_readStuff_14 : decode zb_Read_readStuff 14 = .ok (.iconst 0, 1) := by decide +kernel
theorem zd_Read_readStuff_15 : decode zb_Read_readStuff 15 = .ok (.ireturn, 1) := by decide +kernel
theorem zd_Read_readStuff_16 : decode zb_Read_readStuff 16 = .ok (.aload_n 0, 1) := by decide +kernel
theorem zd_Read_readStuff_17 : decode zb_Read_readStuff 17 = .ok (.getfield 93, 3) := by decide +kernel
theorem zd_Read_readStuff_20 : decode zb_Read_readStuff 20 = .ok (.istore_n 3, 1) := by decide +kernel
theorem zd_Read_readStuff_21 : decode zb_Read_readStuff 21 = .ok (.iload_n 3, 1) := by decide +kernel
theorem zd_Read_readStuff_22 : decode zb_Read_readStuff 22 = .ok (.istore 4, 2) := by decide +kernel
theorem zd_Read_readStuff_24 : decode zb_Read_readStuff 24 = .ok (.aload_n 0, 1) := by decide +kernel
theorem zd_Read_readStuff_25 : decode zb_Read_readStuff 25 = .ok (.invokevirtual 24, 3) := by decide +kernel
theorem zd_Read_readStuff_28 : decode zb_Read_readStuff 28 = .ok (.aload_n 0, 1) := by decide +kernel
theorem zd_Read_readStuff_29 : decode zb_Read_readStuff 29 = .ok (.ldc 96, 2) := by decide +kernel
theorem zd_Read_readStuff_31 : decode zb_Read_readStuff 31 = .ok (.invokevirtual 46, 3) := by decide +kernel
theorem zd_Read_readStuff_34 : decode zb_Read_readStuff 34 = .ok (.ifCond .eq 29, 3) := by decide +kernel
theorem zd_Read_readStuff_37 : decode zb_Read_readStuff 37 = .ok (.aload_n 0, 1) := by decide +kernel
theorem zd_Read_readStuff_38 : decode zb_Read_readStuff 38 = .ok (.invokevirtual 24, 3) := by decide +kernel
theorem zd_Read_readStuff_41 : decode zb_Read_readStuff 41 = .ok (.aload_n 0, 1) := by decide +kernel
theorem zd_Read_readStuff_42 : decode zb_Read_readStuff 42 = .ok (.iload_n 3, 1) := by decide +kernel
theorem zd_Read_readStuff_43 : decode zb_Read_readStuff 43 = .ok (.bipush 23, 2) := by decide +kernel
theorem zd_Read_readStuff_45 : decode zb_Read_readStuff 45 = .ok (.invokevirtual 89, 3) := by decide +kernel
theorem zd_Read_readStuff_48 : decode zb_Read_readStuff 48 = .ok (.ifCond .ne 5, 3) := by decide +kernel
theorem zd_Read_readStuff_51 : decode zb_Read_readStuff 51 = .ok (.iconst 0, 1) := by decide +kernel
theorem zd_Read_readStuff_52 : decode zb_Read_readStuff 52 = .ok (.ireturn, 1) := by decide +kernel
theorem zd_Read_readStuff_53 : decode zb_Read_readStuff 53 = .ok (.aload_n 0, 1) := by decide +kernel
theorem zd_Read_readStuff_54 : decode zb_Read_readStuff 54 = .ok (.getfield 93, 3) := by decide +kernel
theorem zd_Read_readStuff_57 : decode zb_Read_readStuff 57 = .ok (.istore 4, 2) := by decide +kernel
theorem zd_Read_readStuff_59 : decode zb_Read_readStuff 59 = .ok (.aload_n 0, 1) := by decide +kernel
theorem zd_Read_readStuff_60 : decode zb_Read_readStuff 60 = .ok (.invokevirtual 24, 3) := by decide +kernel
theorem zd_Read_readStuff_63 : decode zb_Read_readStuff 63 = .ok (.iload_n 3, 1) := by decide +kernel
theorem zd_Read_readStuff_64 : decode zb_Read_readStuff 64 = .ok (.istore 5, 2) := by decide +kernel
theorem zd_Read_readStuff_66 : decode zb_Read_readStuff 66 = .ok (.iload 5, 2) := by decide +kernel
theorem zd_Read_readStuff_68 : decode zb_Read_readStuff 68 = .ok (.iload 4, 2) := by decide +kernel
theorem zd_Read_readStuff_70 : decode zb_Read_readStuff 70 = .ok (.if_icmp .gt 17, 3) := by decide +kernel
theorem zd_Read_readStuff_73 : decode zb_Read_readStuff 73 = .ok (.aload_n 1, 1) := by decide +kernel
theorem zd_Read_readStuff_74 : decode zb_Read_readStuff 74 = .ok (.getfield 98, 3) := by decide +kernel
theorem zd_Read_readStuff_77 : decode zb_Read_readStuff 77 = .ok (.iload 5, 2) := by decide +kernel
theorem zd_Read_readStuff_79 : decode zb_Read_readStuff 79 = .ok (.iload_n 2, 1) := by decide +kernel
theorem zd_Read_readStuff_80 : decode zb_Read_readStuff 80 = .ok (.iastore, 1) := by decide +kernel
theorem zd_Read_readStuff_81 : decode zb_Read_readStuff 81 = .ok (.iinc 5 1, 3) := by decide +kernel
theorem zd_Read_readStuff_84 : decode zb_Read_readStuff 84 = .ok (.goto (-18), 3) := by decide +kernel
theorem zd_Read_readStuff_87 : decode zb_Read_readStuff 87 = .ok (.iconst 1, 1) := by decide +kernel
theorem zd_Read_readStuff_88 : decode zb_Read_readStuff 88 = .ok (.ireturn, 1) := by decide +kernel
set_option maxHeartbeats 4000000 in
theorem zl_Read_readStuff_B66 {p : Program} {l : Launch} {e : Env} {s : State} {m : MethodId} {args : Array Value} {below : List Frame} {meth : Method} {c : Code} {D : va_G} {cA : Nat → ClassId} {ad : Nat → Nat} {A : Nat → Prop} (B : zu_B p s m args c zb_Read_readStuff 6 "StonePost$TextReader" D cA ad A) (hret : meth.sig.returnType = (some .boolean)) (hlk : meth.locks = false) {Y : LX} {res : Int32 × IX} {k66 : Nat → Int32 → Int32 → Int32 → IX → Option (Int32 × IX)} (hk66 : ∀ (r1 : Nat) (x2 : Int32) (x4 : Int32) (x5 : Int32) (X : IX) (H : Heap) (locs : List Loc) (ls : Array Slot), va_P D zu_cl (zu_pic cA ad X Y) H → va_S A s.heap H locs → lv_has ls 6 [(1, .ref (ad r1)), (2, .int x2), (4, .int x4), (5, .int x5)] → zu_kd r1 = 5 → k66 r1 x2 x4 x5 X = some res → W p l e zR_Read_readStuff s m args below meth c H locs 0 0 (MQ below (zu_Qi D cA ad A res.1 res.2 Y) args s 0 0 A) (F0 m 66 ls [])) (r1 : Nat) (x2 : Int32) (x4 : Int32) (x5 : Int32) (X : IX) (H : Heap) (locs : List Loc) (ls : Array Slot) (hP : va_P D zu_cl (zu_pic cA ad X Y) H) (hS : va_S A s.heap H locs) (hl : lv_has ls 6 [(1, .ref (ad r1)), (2, .int x2), (4, .int x4), (5, .int x5)]) (hr1 : zu_kd r1 = 5) (hf : fn_Read_readStuff_B66 k66 r1 x2 x4 x5 X = some res) : W p l e zR_Read_readStuff s m args below meth c H locs 0 0 (MQ below (zu_Qi D cA ad A res.1 res.2 Y) args s 0 0 A) (F0 m 66 ls []) := by
  obtain ⟨hx, hb, hml, hown, hts, hST⟩ := id B
  unfold fn_Read_readStuff_B66 at hf
  refine lv_iload hx hb zd_Read_readStuff_66 (lv_at hl 3 rfl) ?_
  refine lv_iload hx hb zd_Read_readStuff_68 (lv_at hl 2 rfl) ?_
  refine lv_icmp_gt (tgt := 87) hx hb zd_Read_readStuff_70 (by decide) (fun c20 => ?_) (fun c20 => ?_)
  · have hf := zu_t c20 hf
    refine lv_iconst (v := 1) hx hb zd_Read_readStuff_87 (by decide) ?_
    obtain rfl := Option.some.inj hf
    exact zr_zret hx hb hret hlk hP hS rfl zd_Read_readStuff_88
  · have hf := zu_f c20 hf
    refine lv_aload_n hx hb zd_Read_readStuff_73 rfl (lv_at hl 0 rfl) ?_
    refine zg_Land_stuffs B hP hr1 zq_52 zd_Read_readStuff_74 ?_
    refine lv_iload hx hb zd_Read_readStuff_77 (lv_at hl 3 rfl) ?_
    refine lv_iload_n hx hb zd_Read_readStuff_79 rfl (lv_at hl 1 rfl) ?_
    obtain ⟨hg21, hf⟩ := zu_gd_e hf
    refine zr_iast rfl B hP hS hf (zk_Land_stuffs hr1) (by decide) rfl hg21 zd_Read_readStuff_80 (fun X22 H locs hf hP hS => ?_)
    obtain ⟨v23, ev23, hf⟩ := zu_nx_e hf
    refine lv_iinc (v := v23) (lv' := [(5, .int v23), (1, .ref (ad r1)), (2, .int x2), (4, .int x4)]) hx hb zd_Read_readStuff_81 hl (k := 3) rfl (by rw [ev23]; rfl) (by decide) rfl (fun ls hl => ?_)
    clear ev23
    refine lv_goto (tgt := 66) hx hb zd_Read_readStuff_84 (by decide) ?_
    exact hk66 r1 x2 x4 v23 X22 _ _ _ hP hS (lv_sub hl [1, 2, 3, 0] rfl) hr1 hf
theorem zl_Read_readStuff_L66 {p : Program} {l : Launch} {e : Env} {s : State} {m : MethodId} {args : Array Value} {below : List Frame} {meth : Method} {c : Code} {D : va_G} {cA : Nat → ClassId} {ad : Nat → Nat} {A : Nat → Prop} (B : zu_B p s m args c zb_Read_readStuff 6 "StonePost$TextReader" D cA ad A) (hret : meth.sig.returnType = (some .boolean)) (hlk : meth.locks = false) {Y : LX} {res : Int32 × IX} : ∀ (n : Nat) (r1 : Nat) (x2 : Int32) (x4 : Int32) (x5 : Int32) (X : IX) (H : Heap) (locs : List Loc) (ls : Array Slot), va_P D zu_cl (zu_pic cA ad X Y) H → va_S A s.heap H locs → lv_has ls 6 [(1, .ref (ad r1)), (2, .int x2), (4, .int x4), (5, .int x5)] → zu_kd r1 = 5 → fn_Read_readStuff_L66 n r1 x2 x4 x5 X = some res → W p l e zR_Read_readStuff s m args below meth c H locs 0 0 (MQ below (zu_Qi D cA ad A res.1 res.2 Y) args s 0 0 A) (F0 m 66 ls []) := by
  intro n
  induction n with
  | zero =>
    intro r1 x2 x4 x5 X H locs ls hP hS hl hr1 hf
    exact (Option.some_ne_none _ hf.symm).elim
  | succ n ih =>
    intro r1 x2 x4 x5 X H locs ls hP hS hl hr1 hf
    exact zl_Read_readStuff_B66 B hret hlk ih r1 x2 x4 x5 X H locs ls hP hS hl hr1 hf
set_option maxHeartbeats 4000000 in
theorem zl_Read_readStuff_L63 {p : Program} {l : Launch} {e : Env} {s : State} {m : MethodId} {args : Array Value} {below : List Frame} {meth : Method} {c : Code} {D : va_G} {cA : Nat → ClassId} {ad : Nat → Nat} {A : Nat → Prop} (B : zu_B p s m args c zb_Read_readStuff 6 "StonePost$TextReader" D cA ad A) (hret : meth.sig.returnType = (some .boolean)) (hlk : meth.locks = false) {Y : LX} {res : Int32 × IX} (r1 : Nat) (x2 : Int32) (x3 : Int32) (x4 : Int32) (X : IX) (H : Heap) (locs : List Loc) (ls : Array Slot) (hP : va_P D zu_cl (zu_pic cA ad X Y) H) (hS : va_S A s.heap H locs) (hl : lv_has ls 6 [(1, .ref (ad r1)), (2, .int x2), (3, .int x3), (4, .int x4)]) (hr1 : zu_kd r1 = 5) (hf : fn_Read_readStuff_L63 r1 x2 x3 x4 X = some res) : W p l e zR_Read_readStuff s m args below meth c H locs 0 0 (MQ below (zu_Qi D cA ad A res.1 res.2 Y) args s 0 0 A) (F0 m 63 ls []) := by
  obtain ⟨hx, hb, hml, hown, hts, hST⟩ := id B
  unfold fn_Read_readStuff_L63 at hf
  refine lv_iload_n hx hb zd_Read_readStuff_63 rfl (lv_at hl 2 rfl) ?_
  refine lv_istore (lv' := [(5, .int x3), (1, .ref (ad r1)), (2, .int x2), (3, .int x3), (4, .int x4)]) hx hb zd_Read_readStuff_64 hl (by decide) rfl (fun ls hl => ?_)
  exact zl_Read_readStuff_L66 B hret hlk 400 r1 x2 x4 x3 X _ _ _ hP hS (lv_sub hl [1, 2, 4, 0] rfl) hr1 hf
set_option maxHeartbeats 4000000 in
theorem zl_Read_readStuff {p : Program} {l : Launch} {e : Env} {s : State} {m : MethodId} {args : Array Value} {below : List Frame} {meth : Method} {c : Code} {D : va_G} {cA : Nat → ClassId} {ad : Nat → Nat} {A : Nat → Prop} (B : zu_B p s m args c zb_Read_readStuff 6 "StonePost$TextReader" D cA ad A) (hret : meth.sig.returnType = (some .boolean)) (hlk : meth.locks = false) {Y : LX} {res : Int32 × IX} {r1 : Nat} {a2 : Int32} {X : IX} (H : Heap) (locs : List Loc) (ls : Array Slot) (hP : va_P D zu_cl (zu_pic cA ad X Y) H) (hS : va_S A s.heap H locs) (hl : lv_has ls 6 [(0, .ref (ad 8)), (1, .ref (ad r1)), (2, .int a2)]) (hr1 : zu_kd r1 = 5) (hf : fn_Read_readStuff r1 a2 X = some res) : W p l e zR_Read_readStuff s m args below meth c H locs 0 0 (MQ below (zu_Qi D cA ad A res.1 res.2 Y) args s 0 0 A) (F0 m 0 ls []) := by
  obtain ⟨hx, hb, hml, hown, hts, hST⟩ := id B
  unfold fn_Read_readStuff at hf
  refine lv_aload_n hx hb zd_Read_readStuff_0 rfl (lv_at hl 0 rfl) ?_
  obtain ⟨X1, hq2, hf⟩ := zu_b1_e hf
  refine zw_Tape_readOn (rest := []) B hP hS hq2 zq_716 (Nat.le_of_ble_eq_true rfl) (Nat.le_of_ble_eq_true rfl) hl.1 rfl (Nat.le_of_ble_eq_true rfl) zd_Read_readStuff_1 (by decide) (fun H locs hP hS => ?_)
  clear hq2
  refine lv_aload_n hx hb zd_Read_readStuff_4 rfl (lv_at hl 0 rfl) ?_
  refine lv_iconst (v := 0) hx hb zd_Read_readStuff_5 (by decide) ?_
  refine lv_bipush (v := 23) hx hb zd_Read_readStuff_6 (by decide) ?_
  obtain ⟨v3, hq4, hf⟩ := zu_b1_e hf
  refine zw_Tape_isNumber (rest := []) B hP hS hq4 zq_717 (Nat.le_of_ble_eq_true rfl) (Nat.le_of_ble_eq_true rfl) hl.1 rfl (Nat.le_of_ble_eq_true rfl) zd_Read_readStuff_8 (by decide) (fun H locs hP hS => ?_)
  clear hq4
  refine lv_if_ne (tgt := 16) hx hb zd_Read_readStuff_11 (by decide) (fun c5 => ?_) (fun c5 => ?_)
  · have hf := zu_f c5 hf
    refine lv_aload_n hx hb zd_Read_readStuff_16 rfl (lv_at hl 0 rfl) ?_
    refine zg_Tape_value B hP rfl zq_156 zd_Read_readStuff_17 ?_
    refine zr_nxi hf (fun v6 hf => ?_)
    refine lv_istore_n (lv' := [(3, .int v6), (0, .ref (ad 8)), (1, .ref (ad r1)), (2, .int a2)]) hx hb zd_Read_readStuff_20 rfl hl (by decide) rfl (fun ls hl => ?_)
    refine lv_iload_n hx hb zd_Read_readStuff_21 rfl (lv_at hl 0 rfl) ?_
    refine lv_istore (lv' := [(4, .int v6), (3, .int v6), (0, .ref (ad 8)), (1, .ref (ad r1)), (2, .int a2)]) hx hb zd_Read_readStuff_22 hl (by decide) rfl (fun ls hl => ?_)
    refine lv_aload_n hx hb zd_Read_readStuff_24 rfl (lv_at hl 2 rfl) ?_
    obtain ⟨X7, hq8, hf⟩ := zu_b1_e hf
    refine zw_Tape_readOn (rest := []) B hP hS hq8 zq_716 (Nat.le_of_ble_eq_true rfl) (Nat.le_of_ble_eq_true rfl) hl.1 rfl (Nat.le_of_ble_eq_true rfl) zd_Read_readStuff_25 (by decide) (fun H locs hP hS => ?_)
    clear hq8
    refine lv_aload_n hx hb zd_Read_readStuff_28 rfl (lv_at hl 2 rfl) ?_
    refine va_ldcS hx hb hown (hST.2.2.2.2.1 14 (by decide)) zd_Read_readStuff_29 ?_
    obtain ⟨v9, hq10, hf⟩ := zu_b1_e hf
    refine zw_Tape_isWord (rest := []) B hP hS (by decide) hq10 zq_658 (Nat.le_of_ble_eq_true rfl) (Nat.le_of_ble_eq_true rfl) hl.1 rfl (Nat.le_of_ble_eq_true rfl) zd_Read_readStuff_31 (by decide) (fun H locs hP hS => ?_)
    clear hq10
    refine lv_if_eq (tgt := 63) hx hb zd_Read_readStuff_34 (by decide) (fun c11 => ?_) (fun c11 => ?_)
    · have hf := zu_t c11 hf
      exact zl_Read_readStuff_L63 B hret hlk r1 a2 v6 v6 X7 _ _ _ hP hS (lv_sub hl [3, 4, 1, 0] rfl) hr1 hf
    · have hf := zu_f c11 hf
      refine lv_aload_n hx hb zd_Read_readStuff_37 rfl (lv_at hl 2 rfl) ?_
      obtain ⟨X12, hq13, hf⟩ := zu_b1_e hf
      refine zw_Tape_readOn (rest := []) B hP hS hq13 zq_716 (Nat.le_of_ble_eq_true rfl) (Nat.le_of_ble_eq_true rfl) hl.1 rfl (Nat.le_of_ble_eq_true rfl) zd_Read_readStuff_38 (by decide) (fun H locs hP hS => ?_)
      clear hq13
      refine lv_aload_n hx hb zd_Read_readStuff_41 rfl (lv_at hl 2 rfl) ?_
      refine lv_iload_n hx hb zd_Read_readStuff_42 rfl (lv_at hl 1 rfl) ?_
      refine lv_bipush (v := 23) hx hb zd_Read_readStuff_43 (by decide) ?_
      obtain ⟨v14, hq15, hf⟩ := zu_b1_e hf
      refine zw_Tape_isNumber (rest := []) B hP hS hq15 zq_717 (Nat.le_of_ble_eq_true rfl) (Nat.le_of_ble_eq_true rfl) hl.1 rfl (Nat.le_of_ble_eq_true rfl) zd_Read_readStuff_45 (by decide) (fun H locs hP hS => ?_)
      clear hq15
      refine lv_if_ne (tgt := 53) hx hb zd_Read_readStuff_48 (by decide) (fun c16 => ?_) (fun c16 => ?_)
      · have hf := zu_f c16 hf
        refine lv_aload_n hx hb zd_Read_readStuff_53 rfl (lv_at hl 2 rfl) ?_
        refine zg_Tape_value B hP rfl zq_156 zd_Read_readStuff_54 ?_
        refine zr_nxi hf (fun v17 hf => ?_)
        refine lv_istore (lv' := [(4, .int v17), (3, .int v6), (0, .ref (ad 8)), (1, .ref (ad r1)), (2, .int a2)]) hx hb zd_Read_readStuff_57 hl (by decide) rfl (fun ls hl => ?_)
        refine lv_aload_n hx hb zd_Read_readStuff_59 rfl (lv_at hl 2 rfl) ?_
        obtain ⟨X18, hq19, hf⟩ := zu_b1_e hf
        refine zw_Tape_readOn (rest := []) B hP hS hq19 zq_716 (Nat.le_of_ble_eq_true rfl) (Nat.le_of_ble_eq_true rfl) hl.1 rfl (Nat.le_of_ble_eq_true rfl) zd_Read_readStuff_60 (by decide) (fun H locs hP hS => ?_)
        clear hq19
        exact zl_Read_readStuff_L63 B hret hlk r1 a2 v6 v17 X18 _ _ _ hP hS (lv_sub hl [3, 4, 1, 0] rfl) hr1 hf
      · have hf := zu_t c16 hf
        refine lv_iconst (v := 0) hx hb zd_Read_readStuff_51 (by decide) ?_
        obtain rfl := Option.some.inj hf
        exact zr_zret hx hb hret hlk hP hS rfl zd_Read_readStuff_52
  · have hf := zu_t c5 hf
    refine lv_iconst (v := 0) hx hb zd_Read_readStuff_14 (by decide) ?_
    obtain rfl := Option.some.inj hf
    exact zr_zret hx hb hret hlk hP hS rfl zd_Read_readStuff_15
theorem zC_Read_readStuff (l : Launch) {D : va_G} {cA : Nat → ClassId} {ad : Nat → Nat} {A : Nat → Prop} {r1 : Nat} {a2 : Int32} {X : IX} {Y : LX} {res : Int32 × IX} (hr1 : zu_kd r1 = 5) (hf : fn_Read_readStuff r1 a2 X = some res) : Met l zm_Read_readStuff (zu_ws zm_Read_readStuff zb_Read_readStuff 6 (some .boolean)) zR_Read_readStuff (va_Pc [.ref (ad 8), .ref (ad r1), .int a2] (zu_Pre D cA ad A X Y)) (zu_Qi D cA ad A res.1 res.2 Y) 0 0 A := by
  refine Met.ofW (cc := zb_Read_readStuff) (maxL := 6) (ret := (some .boolean)) (by decide +kernel) rfl ?_
  intro p e s m args below meth c s₁ B0 hml hv
  obtain ⟨rfl, hP, hST⟩ := hv
  have B : zu_B p s m _ c zb_Read_readStuff 6 "StonePost$TextReader" D cA ad A := ⟨B0.exec, B0.bytes, hml, findClass_of_methodNamed B0.named, (fun w hw => atoms_spec (ws := zu_ws zm_Read_readStuff zb_Read_readStuff 6 (some .boolean)) B0.pre w (List.mem_cons_of_mem _ hw)), hST⟩
  have hl := lv_entry ([.ref (ad 8), .ref (ad r1), .int a2]) (n := 6) (Nat.le_of_ble_eq_true rfl)
  rw [lg_entry_eq]
  generalize (lg_sl ([.ref (ad 8), .ref (ad r1), .int a2]) ++ List.replicate (6 - (lg_sl ([.ref (ad 8), .ref (ad r1), .int a2])).length) Slot.unset).toArray = ls at hl ⊢
  exact zl_Read_readStuff B B0.returns B0.notSynchronized s.heap [] ls hP va_S.rf hl hr1 hf
theorem zw_Read_readStuff {p : Program} {l : Launch} {e : Env} {R : Room} {s : State} {m : MethodId} {args : Array Value} {below : List Frame} {meth : Method} {c : Code} {H : Heap} {locs : List Loc} {cells slots : Nat} {Q : State → Prop} {cc : ByteArray} {pc nL : Nat} {ls : Array Slot} {rest st0 : List Value} {D : va_G} {cA : Nat → ClassId} {ad : Nat → Nat} {A : Nat → Prop} {X : IX} {Y : LX} {own : String} {index : Nat} {r1 : Nat} {a2 : Int32} {v1 : Int32} {X1 : IX} (B : zu_B p s m args c cc nL own D cA ad A) (hP : va_P D zu_cl (zu_pic cA ad X Y) H) (hS : va_S A s.heap H locs) (hr1 : zu_kd r1 = 5) (hq : fn_Read_readStuff r1 a2 X = some (v1, X1)) (m1 : Cond.methodLink own index zm_Read_readStuff ∈ zu_TB) (hR1 : 5 + 1 ≤ R.frames) (hR2 : 8 + (6 + 11) + 107 ≤ R.locals) (hsz : ls.size = nL) (hst : st0 = .int a2 :: .ref (ad r1) :: .ref (ad 8) ::  rest) (hw : (rest.map fun v => v.category).sum ≤ 8) (hdg : decode cc pc = .ok (.invokestatic index, 3)) (h00 : cells ≤ R.cells ∧ slots ≤ R.slots) (kk : ∀ (H1 : Heap) (locs1 : List Loc), va_P D zu_cl (zu_pic cA ad X1 Y) H1 → va_S A s.heap H1 locs1 → W p l e R s m args below meth c H1 locs1 cells slots Q (F0 m (pc + 3) ls (.int v1 :: rest))) : W p l e R s m args below meth c H locs cells slots Q (F0 m pc ls st0) := by
  subst hst
  exact zr_cSi (As := [.ref (ad 8), .ref (ad r1), .int a2]) (rest := rest) (n := 3) B hP hS (zC_Read_readStuff l hr1 hq) m1 zq_714 zq_12 zq_715 (by decide +kernel) ⟨hR1, hR2⟩ rfl rfl rfl hsz rfl hw hdg h00 kk
abbrev zR_Read_readItem : Room := { frames := 7, cells := 0, slots := 0, locals := 154 }
theorem zd_Read_readItem_0 : decode zb_Read_readItem 0 = .ok (.aload_n 0, 1) := by decide +kernel
theorem zd_Read_readItem_1 : decode zb_Read_readItem 1 = .ok (.invokestatic 30, 3) := by decide +kernel
theorem zd_Read_readItem_4 : decode zb_Read_readItem 4 = .ok (.istore_n 2, 1) := by decide +kernel
theorem zd_Read_readItem_5 : decode zb_Read_readItem 5 = .ok (.iload_n 2, 1) := by decide +kernel
theorem zd_Read_readItem_6 : decode zb_Read_readItem 6 = .ok (.iconst (-1), 1) := by decide +kernel
theorem zd_Read_readItem_7 : decode zb_Read_readItem 7 = .ok (.if_icmp .eq 10, 3) := by decide +kernel
theorem zd_Read_readItem_10 : decode zb_Read_readItem 10 = .ok (.aload_n 0, 1) := by decide +kernel
theorem zd_Read_readItem_11 : decode zb_Read_readItem 11 = .ok (.aload_n 1, 1) := by decide +kernel
theorem zd_Read_readItem_12 : decode zb_Read_readItem 12 = .ok (.iload_n 2, 1) := by decide +kernel
theorem zd_Read_readItem_13 : decode zb_Read_readItem 13 = .ok (.invokestatic 34, 3) := by decide +kernel
theorem zd_Read_readItem_16 : decode zb_Read_readItem 16 = .ok (.ireturn, 1) := by decide +kernel
theorem zd_Read_readItem_17 : decode zb_Read_readItem 17 = .ok (.aload_n 0, 1) := by decide +kernel
theorem zd_Read_readItem_18 : decode zb_Read_readItem 18 = .ok (.invokestatic 38, 3) := by decide +kernel
theorem zd_Read_readItem_21 : decode zb_Read_readItem 21 = .ok (.istore_n 3, 1) := by decide +kernel
theorem zd_Read_readItem_22 : decode zb_Read_readItem 22 = .ok (.iload_n 3, 1) := by decide +kernel
theorem zd_Read_readItem_23 : decode zb_Read_readItem 23 = .ok (.iconst (-1), 1) := by decide +kernel
theorem zd_Read_readItem_24 : decode zb_Read_readItem 24 = .ok (.if_icmp .eq 10, 3) := by decide +kernel
theorem zd_Read_readItem_27 : decode zb_Read_readItem 27 = .ok (.aload_n 0, 1) := by decide +kernel
theorem zd_Read_readItem_28 : decode zb_Read_readItem 28 = .ok (.aload_n 1, 1) := by decide +kernel
theorem zd_Read_readItem_29 : decode zb_Read_readItem 29 = .ok (.iload_n 3, 1) := by decide +kernel
theorem zd_Read_readItem_30 : decode zb_Read_readItem 30 = .ok (.invokestatic 41, 3) := by decide +kernel
theorem zd_Read_readItem_33 : decode zb_Read_readItem 33 = .ok (.ireturn, 1) := by decide +kernel
theorem zd_Read_readItem_34 : decode zb_Read_readItem 34 = .ok (.aload_n 0, 1) := by decide +kernel
theorem zd_Read_readItem_35 : decode zb_Read_readItem 35 = .ok (.ldc 44, 2) := by decide +kernel
theorem zd_Read_readItem_37 : decode zb_Read_readItem 37 = .ok (.invokevirtual 46, 3) := by decide +kernel
theorem zd_Read_readItem_40 : decode zb_Read_readItem 40 = .ok (.ifCond .eq 9, 3) := by decide +kernel
theorem zd_Read_readItem_43 : decode zb_Read_readItem 43 = .ok (.aload_n 0, 1) := by decide +kernel
theorem zd_Read_readItem_44 : decode zb_Read_readItem 44 = .ok (.aload_n 1, 1) := by decide +kernel
theorem zd_Read_readItem_45 : decode zb_Read_readItem 45 = .ok (.invokestatic 50, 3) := by decide +kernel
theorem zd_Read_readItem_48 : decode zb_Read_readItem 48 = .ok (.ireturn, 1) := by decide +kernel
theorem zd_Read_readItem_49 : decode zb_Read_readItem 49 = .ok (.aload_n 0, 1) := by decide +kernel
theorem zd_Read_readItem_50 : decode zb_Read_readItem 50 = .ok (.ldc 53, 2) := by decide +kernel
theorem zd_Read_readItem_52 : decode zb_Read_readItem 52 = .ok (.invokevirtual 46, 3) := by decide +kernel
theorem zd_Read_readItem_55 : decode zb_Read_readItem 55 = .ok (.ifCond .eq 9, 3) := by decide +kernel
theorem zd_Read_readItem_58 : decode zb_Read_readItem 58 = .ok (.aload_n 0, 1) := by decide +kernel
theorem zd_Read_readItem_59 : decode zb_Read_readItem 59 = .ok (.aload_n 1, 1) := by decide +kernel
theorem zd_Read_readItem_60 : decode zb_Read_readItem 60 = .ok (.invokestatic 55, 3) := by decide +kernel
theorem zd_Read_readItem_63 : decode zb_Read_readItem 63 = .ok (.ireturn, 1) := by decide +kernel
theorem zd_Read_readItem_64 : decode zb_Read_readItem 64 = .ok (.aload_n 0, 1) := by decide +kernel
theorem zd_Read_readItem_65 : decode zb_Read_readItem 65 = .ok (.ldc 58, 2) := by decide +kernel
theorem zd_Read_readItem_67 : decode zb_Read_readItem 67 = .ok (.invokevirtual 46, 3) := by decide +kernel
theorem zd_Read_readItem_70 : decode zb_Read_readItem 70 = .ok (.ifCond .eq 15, 3) := by decide +kernel
theorem zd_Read_readItem_73 : decode zb_Read_readItem 73 = .ok (.aload_n 0, 1) := by decide +kernel
theorem zd_Read_readItem_74 : decode zb_Read_readItem 74 = .ok (.aload_n 1, 1) := by decide +kernel
theorem zd_Read_readItem_75 : decode zb_Read_readItem 75 = .ok (.invokestatic 60, 3) := by decide +kernel
theorem zd_Read_readItem_78 : decode zb_Read_readItem 78 = .ok (.ifCond .eq 7, 3) := by decide +kernel
theorem zd_Read_readItem_81 : decode zb_Read_readItem 81 = .ok (.iconst 1, 1) := by decide +kernel
theorem zd_Read_readItem_82 : decode zb_Read_readItem 82 = .ok (.goto 4, 3) := by decide +kernel
theorem zd_Read_readItem_85 : decode zb_Read_readItem 85 = .ok (.iconst 0, 1) := by decide +kernel
theorem zd_Read_readItem_86 : decode zb_Read_readItem 86 = .ok (.ireturn, 1) := by decide +kernel
set_option maxHeartbeats 4000000 in
theorem zl_Read_readItem_L86 {p : Program} {l : Launch} {e : Env} {s : State} {m : MethodId} {args : Array Value} {below : List Frame} {meth : Method} {c : Code} {D : va_G} {cA : Nat → ClassId} {ad : Nat → Nat} {A : Nat → Prop} (B : zu_B p s m args c zb_Read_readItem 4 "StonePost$TextReader" D cA ad A) (hret : meth.sig.returnType = (some .boolean)) (hlk : meth.locks = false) {Y : LX} {res : Int32 × IX} (y0 : Int32) (X : IX) (H : Heap) (locs : List Loc) (ls : Array Slot) (hP : va_P D zu_cl (zu_pic cA ad X Y) H) (hS : va_S A s.heap H locs) (hl : lv_has ls 4 []) (hf : fn_Read_readItem_L86 y0 X = some res) : W p l e zR_Read_readItem s m args below meth c H locs 0 0 (MQ below (zu_Qi D cA ad A res.1 res.2 Y) args s 0 0 A) (F0 m 86 ls [.int y0]) := by
  obtain ⟨hx, hb, hml, hown, hts, hST⟩ := id B
  unfold fn_Read_readItem_L86 at hf
  obtain ⟨hg36, hf⟩ := zu_gd_e hf
  obtain rfl := Option.some.inj hf
  exact zr_zret hx hb hret hlk hP hS hg36 zd_Read_readItem_86
set_option maxHeartbeats 4000000 in
theorem zl_Read_readItem_L85 {p : Program} {l : Launch} {e : Env} {s : State} {m : MethodId} {args : Array Value} {below : List Frame} {meth : Method} {c : Code} {D : va_G} {cA : Nat → ClassId} {ad : Nat → Nat} {A : Nat → Prop} (B : zu_B p s m args c zb_Read_readItem 4 "StonePost$TextReader" D cA ad A) (hret : meth.sig.returnType = (some .boolean)) (hlk : meth.locks = false) {Y : LX} {res : Int32 × IX} (X : IX) (H : Heap) (locs : List Loc) (ls : Array Slot) (hP : va_P D zu_cl (zu_pic cA ad X Y) H) (hS : va_S A s.heap H locs) (hl : lv_has ls 4 []) (hf : fn_Read_readItem_L85 X = some res) : W p l e zR_Read_readItem s m args below meth c H locs 0 0 (MQ below (zu_Qi D cA ad A res.1 res.2 Y) args s 0 0 A) (F0 m 85 ls []) := by
  obtain ⟨hx, hb, hml, hown, hts, hST⟩ := id B
  unfold fn_Read_readItem_L85 at hf
  refine lv_iconst (v := 0) hx hb zd_Read_readItem_85 (by decide) ?_
  exact zl_Read_readItem_L86 B hret hlk (0 : Int32) X _ _ _ hP hS (lv_sub hl [] rfl) hf
set_option maxHeartbeats 4000000 in
theorem zl_Read_readItem {p : Program} {l : Launch} {e : Env} {s : State} {m : MethodId} {args : Array Value} {below : List Frame} {meth : Method} {c : Code} {D : va_G} {cA : Nat → ClassId} {ad : Nat → Nat} {A : Nat → Prop} (B : zu_B p s m args c zb_Read_readItem 4 "StonePost$TextReader" D cA ad A) (hret : meth.sig.returnType = (some .boolean)) (hlk : meth.locks = false) {Y : LX} {res : Int32 × IX} {r1 : Nat} {X : IX} (H : Heap) (locs : List Loc) (ls : Array Slot) (hP : va_P D zu_cl (zu_pic cA ad X Y) H) (hS : va_S A s.heap H locs) (hl : lv_has ls 4 [(0, .ref (ad 8)), (1, .ref (ad r1))]) (hr1 : zu_kd r1 = 5) (hf : fn_Read_readItem r1 X = some res) : W p l e zR_Read_readItem s m args below meth c H locs 0 0 (MQ below (zu_Qi D cA ad A res.1 res.2 Y) args s 0 0 A) (F0 m 0 ls []) := by
  obtain ⟨hx, hb, hml, hown, hts, hST⟩ := id B
  unfold fn_Read_readItem at hf
  refine lv_aload_n hx hb zd_Read_readItem_0 rfl (lv_at hl 0 rfl) ?_
  obtain ⟨v1, hq2, hf⟩ := zu_b1_e hf
  refine zw_Read_namedStuff (rest := []) B hP hS hq2 zq_654 (Nat.le_of_ble_eq_true rfl) (Nat.le_of_ble_eq_true rfl) hl.1 rfl (Nat.le_of_ble_eq_true rfl) zd_Read_readItem_1 (by decide) (fun H locs hP hS => ?_)
  clear hq2
  refine lv_istore_n (lv' := [(2, .int v1), (0, .ref (ad 8)), (1, .ref (ad r1))]) hx hb zd_Read_readItem_4 rfl hl (by decide) rfl (fun ls hl => ?_)
  refine lv_iload_n hx hb zd_Read_readItem_5 rfl (lv_at hl 0 rfl) ?_
  refine lv_iconst (v := -1) hx hb zd_Read_readItem_6 (by decide) ?_
  refine lv_icmp_eq (tgt := 17) hx hb zd_Read_readItem_7 (by decide) (fun c3 => ?_) (fun c3 => ?_)
  · have hf := zu_t c3 hf
    refine lv_aload_n hx hb zd_Read_readItem_17 rfl (lv_at hl 1 rfl) ?_
    obtain ⟨v4, hq5, hf⟩ := zu_b1_e hf
    refine zw_Read_namedKind (rest := []) B hP hS hq5 zq_723 (Nat.le_of_ble_eq_true rfl) (Nat.le_of_ble_eq_true rfl) hl.1 rfl (Nat.le_of_ble_eq_true rfl) zd_Read_readItem_18 (by decide) (fun H locs hP hS => ?_)
    clear hq5
    refine lv_istore_n (lv' := [(3, .int v4), (2, .int v1), (0, .ref (ad 8)), (1, .ref (ad r1))]) hx hb zd_Read_readItem_21 rfl hl (by decide) rfl (fun ls hl => ?_)
    refine lv_iload_n hx hb zd_Read_readItem_22 rfl (lv_at hl 0 rfl) ?_
    refine lv_iconst (v := -1) hx hb zd_Read_readItem_23 (by decide) ?_
    refine lv_icmp_eq (tgt := 34) hx hb zd_Read_readItem_24 (by decide) (fun c6 => ?_) (fun c6 => ?_)
    · have hf := zu_t c6 hf
      refine lv_aload_n hx hb zd_Read_readItem_34 rfl (lv_at hl 2 rfl) ?_
      refine va_ldcS hx hb hown (hST.2.2.2.2.1 0 (by decide)) zd_Read_readItem_35 ?_
      obtain ⟨v7, hq8, hf⟩ := zu_b1_e hf
      refine zw_Tape_isWord (rest := []) B hP hS (by decide) hq8 zq_658 (Nat.le_of_ble_eq_true rfl) (Nat.le_of_ble_eq_true rfl) hl.1 rfl (Nat.le_of_ble_eq_true rfl) zd_Read_readItem_37 (by decide) (fun H locs hP hS => ?_)
      clear hq8
      refine lv_if_eq (tgt := 49) hx hb zd_Read_readItem_40 (by decide) (fun c9 => ?_) (fun c9 => ?_)
      · have hf := zu_t c9 hf
        refine lv_aload_n hx hb zd_Read_readItem_49 rfl (lv_at hl 2 rfl) ?_
        refine va_ldcS hx hb hown (hST.2.2.2.2.1 1 (by decide)) zd_Read_readItem_50 ?_
        obtain ⟨v10, hq11, hf⟩ := zu_b1_e hf
        refine zw_Tape_isWord (rest := []) B hP hS (by decide) hq11 zq_658 (Nat.le_of_ble_eq_true rfl) (Nat.le_of_ble_eq_true rfl) hl.1 rfl (Nat.le_of_ble_eq_true rfl) zd_Read_readItem_52 (by decide) (fun H locs hP hS => ?_)
        clear hq11
        refine lv_if_eq (tgt := 64) hx hb zd_Read_readItem_55 (by decide) (fun c12 => ?_) (fun c12 => ?_)
        · have hf := zu_t c12 hf
          refine lv_aload_n hx hb zd_Read_readItem_64 rfl (lv_at hl 2 rfl) ?_
          refine va_ldcS hx hb hown (hST.2.2.2.2.1 2 (by decide)) zd_Read_readItem_65 ?_
          obtain ⟨v13, hq14, hf⟩ := zu_b1_e hf
          refine zw_Tape_isWord (rest := []) B hP hS (by decide) hq14 zq_658 (Nat.le_of_ble_eq_true rfl) (Nat.le_of_ble_eq_true rfl) hl.1 rfl (Nat.le_of_ble_eq_true rfl) zd_Read_readItem_67 (by decide) (fun H locs hP hS => ?_)
          clear hq14
          refine lv_if_eq (tgt := 85) hx hb zd_Read_readItem_70 (by decide) (fun c15 => ?_) (fun c15 => ?_)
          · have hf := zu_t c15 hf
            exact zl_Read_readItem_L85 B hret hlk X _ _ _ hP hS (lv_sub hl [] rfl) hf
          · have hf := zu_f c15 hf
            refine lv_aload_n hx hb zd_Read_readItem_73 rfl (lv_at hl 2 rfl) ?_
            refine lv_aload_n hx hb zd_Read_readItem_74 rfl (lv_at hl 3 rfl) ?_
            obtain ⟨v16, X17, hq18, hf⟩ := zu_b2_e hf
            refine zw_Read_readLetter (rest := []) B hP hS hr1 hq18 zq_757 (Nat.le_of_ble_eq_true rfl) (Nat.le_of_ble_eq_true rfl) hl.1 rfl (Nat.le_of_ble_eq_true rfl) zd_Read_readItem_75 (by decide) (fun H locs hP hS => ?_)
            clear hq18
            refine lv_if_eq (tgt := 85) hx hb zd_Read_readItem_78 (by decide) (fun c19 => ?_) (fun c19 => ?_)
            · have hf := zu_t c19 hf
              exact zl_Read_readItem_L85 B hret hlk X17 _ _ _ hP hS (lv_sub hl [] rfl) hf
            · have hf := zu_f c19 hf
              refine lv_iconst (v := 1) hx hb zd_Read_readItem_81 (by decide) ?_
              refine lv_goto (tgt := 86) hx hb zd_Read_readItem_82 (by decide) ?_
              exact zl_Read_readItem_L86 B hret hlk (1 : Int32) X17 _ _ _ hP hS (lv_sub hl [] rfl) hf
        · have hf := zu_f c12 hf
          refine lv_aload_n hx hb zd_Read_readItem_58 rfl (lv_at hl 2 rfl) ?_
          refine lv_aload_n hx hb zd_Read_readItem_59 rfl (lv_at hl 3 rfl) ?_
          obtain ⟨v20, X21, hq22, hf⟩ := zu_b2_e hf
          refine zw_Read_readFetch (rest := []) B hP hS hr1 hq22 zq_753 (Nat.le_of_ble_eq_true rfl) (Nat.le_of_ble_eq_true rfl) hl.1 rfl (Nat.le_of_ble_eq_true rfl) zd_Read_readItem_60 (by decide) (fun H locs hP hS => ?_)
          clear hq22
          obtain ⟨hg23, hf⟩ := zu_gd_e hf
          obtain rfl := Option.some.inj hf
          exact zr_zret hx hb hret hlk hP hS hg23 zd_Read_readItem_63
      · have hf := zu_f c9 hf
        refine lv_aload_n hx hb zd_Read_readItem_43 rfl (lv_at hl 2 rfl) ?_
        refine lv_aload_n hx hb zd_Read_readItem_44 rfl (lv_at hl 3 rfl) ?_
        obtain ⟨v24, X25, hq26, hf⟩ := zu_b2_e hf
        refine zw_Read_readHome (rest := []) B hP hS hr1 hq26 zq_749 (Nat.le_of_ble_eq_true rfl) (Nat.le_of_ble_eq_true rfl) hl.1 rfl (Nat.le_of_ble_eq_true rfl) zd_Read_readItem_45 (by decide) (fun H locs hP hS => ?_)
        clear hq26
        obtain ⟨hg27, hf⟩ := zu_gd_e hf
        obtain rfl := Option.some.inj hf
        exact zr_zret hx hb hret hlk hP hS hg27 zd_Read_readItem_48
    · have hf := zu_f c6 hf
      refine lv_aload_n hx hb zd_Read_readItem_27 rfl (lv_at hl 2 rfl) ?_
      refine lv_aload_n hx hb zd_Read_readItem_28 rfl (lv_at hl 3 rfl) ?_
      refine lv_iload_n hx hb zd_Read_readItem_29 rfl (lv_at hl 0 rfl) ?_
      obtain ⟨v28, X29, hq30, hf⟩ := zu_b2_e hf
      refine zw_Read_readThrower (rest := []) B hP hS hr1 hq30 zq_733 (Nat.le_of_ble_eq_true rfl) (Nat.le_of_ble_eq_true rfl) hl.1 rfl (Nat.le_of_ble_eq_true rfl) zd_Read_readItem_30 (by decide) (fun H locs hP hS => ?_)
      clear hq30
      obtain ⟨hg31, hf⟩ := zu_gd_e hf
      obtain rfl := Option.some.inj hf
      exact zr_zret hx hb hret hlk hP hS hg31 zd_Read_readItem_33
  · have hf := zu_f c3 hf
    refine lv_aload_n hx hb zd_Read_readItem_10 rfl (lv_at hl 1 rfl) ?_
    refine lv_aload_n hx hb zd_Read_readItem_11 rfl (lv_at hl 2 rfl) ?_
    refine lv_iload_n hx hb zd_Read_readItem_12 rfl (lv_at hl 0 rfl) ?_
    obtain ⟨v32, X33, hq34, hf⟩ := zu_b2_e hf
    refine zw_Read_readStuff (rest := []) B hP hS hr1 hq34 zq_713 (Nat.le_of_ble_eq_true rfl) (Nat.le_of_ble_eq_true rfl) hl.1 rfl (Nat.le_of_ble_eq_true rfl) zd_Read_readItem_13 (by decide) (fun H locs hP hS => ?_)
    clear hq34
    obtain ⟨hg35, hf⟩ := zu_gd_e hf
    obtain rfl := Option.some.inj hf
    exact zr_zret hx hb hret hlk hP hS hg35 zd_Read_readItem_16
theorem zC_Read_readItem (l : Launch) {D : va_G} {cA : Nat → ClassId} {ad : Nat → Nat} {A : Nat → Prop} {r1 : Nat} {X : IX} {Y : LX} {res : Int32 × IX} (hr1 : zu_kd r1 = 5) (hf : fn_Read_readItem r1 X = some res) : Met l zm_Read_readItem (zu_ws zm_Read_readItem zb_Read_readItem 4 (some .boolean)) zR_Read_readItem (va_Pc [.ref (ad 8), .ref (ad r1)] (zu_Pre D cA ad A X Y)) (zu_Qi D cA ad A res.1 res.2 Y) 0 0 A := by
  refine Met.ofW (cc := zb_Read_readItem) (maxL := 4) (ret := (some .boolean)) (by decide +kernel) rfl ?_
  intro p e s m args below meth c s₁ B0 hml hv
  obtain ⟨rfl, hP, hST⟩ := hv
  have B : zu_B p s m _ c zb_Read_readItem 4 "StonePost$TextReader" D cA ad A := ⟨B0.exec, B0.bytes, hml, findClass_of_methodNamed B0.named, (fun w hw => atoms_spec (ws := zu_ws zm_Read_readItem zb_Read_readItem 4 (some .boolean)) B0.pre w (List.mem_cons_of_mem _ hw)), hST⟩
  have hl := lv_entry ([.ref (ad 8), .ref (ad r1)]) (n := 4) (Nat.le_of_ble_eq_true rfl)
  rw [lg_entry_eq]
  generalize (lg_sl ([.ref (ad 8), .ref (ad r1)]) ++ List.replicate (4 - (lg_sl ([.ref (ad 8), .ref (ad r1)])).length) Slot.unset).toArray = ls at hl ⊢
  exact zl_Read_readItem B B0.returns B0.notSynchronized s.heap [] ls hP va_S.rf hl hr1 hf
theorem zw_Read_readItem {p : Program} {l : Launch} {e : Env} {R : Room} {s : State} {m : MethodId} {args : Array Value} {below : List Frame} {meth : Method} {c : Code} {H : Heap} {locs : List Loc} {cells slots : Nat} {Q : State → Prop} {cc : ByteArray} {pc nL : Nat} {ls : Array Slot} {rest st0 : List Value} {D : va_G} {cA : Nat → ClassId} {ad : Nat → Nat} {A : Nat → Prop} {X : IX} {Y : LX} {own : String} {index : Nat} {r1 : Nat} {v1 : Int32} {X1 : IX} (B : zu_B p s m args c cc nL own D cA ad A) (hP : va_P D zu_cl (zu_pic cA ad X Y) H) (hS : va_S A s.heap H locs) (hr1 : zu_kd r1 = 5) (hq : fn_Read_readItem r1 X = some (v1, X1)) (m1 : Cond.methodLink own index zm_Read_readItem ∈ zu_TB) (hR1 : 7 + 1 ≤ R.frames) (hR2 : 8 + (4 + 11) + 154 ≤ R.locals) (hsz : ls.size = nL) (hst : st0 = .ref (ad r1) :: .ref (ad 8) ::  rest) (hw : (rest.map fun v => v.category).sum ≤ 8) (hdg : decode cc pc = .ok (.invokestatic index, 3)) (h00 : cells ≤ R.cells ∧ slots ≤ R.slots) (kk : ∀ (H1 : Heap) (locs1 : List Loc), va_P D zu_cl (zu_pic cA ad X1 Y) H1 → va_S A s.heap H1 locs1 → W p l e R s m args below meth c H1 locs1 cells slots Q (F0 m (pc + 3) ls (.int v1 :: rest))) : W p l e R s m args below meth c H locs cells slots Q (F0 m pc ls st0) := by
  subst hst
  exact zr_cSi (As := [.ref (ad 8), .ref (ad r1)]) (rest := rest) (n := 2) B hP hS (zC_Read_readItem l hr1 hq) m1 zq_652 zq_12 zq_653 (by decide +kernel) ⟨hR1, hR2⟩ rfl rfl rfl hsz rfl hw hdg h00 kk
abbrev zR_Read_readItems : Room := { frames := 8, cells := 0, slots := 0, locals := 177 }
theorem zd_Read_readItems_0 : decode zb_Read_readItems 0 = .ok (.aload_n 0, 1) := by decide +kernel
theorem zd_Read_readItems_1 : decode zb_Read_readItems 1 = .ok (.invokevirtual 9, 3) := by decide +kernel
theorem zd_Read_readItems_4 : decode zb_Read_readItems 4 = .ok (.iconst 1, 1) := by decide +kernel
theorem zd_Read_readItems_5 : decode zb_Read_readItems 5 = .ok (.istore_n 2, 1) := by decide +kernel
theorem zd_Read_readItems_6 : decode zb_Read_readItems 6 = .ok (.iload_n 2, 1) := by decide +kernel
theorem zd_Read_readItems_7 : decode zb_Read_readItems 7 = .ok (.bipush 120, 2) := by decide +kernel
theorem zd_Read_readItems_9 : decode zb_Read_readItems 9 = .ok (.if_icmp .gt 45, 3) := by decide +kernel
theorem zd_Read_readItems_12 : decode zb_Read_readItems 12 = .ok (.aload_n 0, 1) := by decide +kernel
theorem zd_Read_readItems_13 : decode zb_Read_readItems 13 = .ok (.aload_n 1, 1) := by decide +kernel
theorem zd_Read_readItems_14 : decode zb_Read_readItems 14 = .ok (.invokestatic 14, 3) := by decide +kernel
theorem zd_Read_readItems_17 : decode zb_Read_readItems 17 = .ok (.ifCond .ne 6, 3) := by decide +kernel
theorem zd_Read_readItems_20 : decode zb_Read_readItems 20 = .ok (.goto 34, 3) := by decide +kernel
theorem zd_Read_readItems_23 : decode zb_Read_readItems 23 = .ok (.aload_n 0, 1) := by decide +kernel
theorem zd_Read_readItems_24 : decode zb_Read_readItems 24 = .ok (.getfield 20, 3) := by decide +kernel
theorem zd_Read_readItems_27 : decode zb_Read_readItems 27 = .ok (.iconst 3, 1) := by decide +kernel
theorem zd_Read_readItems_28 : decode zb_Read_readItems 28 = .ok (.if_icmp .ne 5, 3) := by decide +kernel
theorem zd_Read_readItems_31 : decode zb_Read_readItems 31 = .ok (.iload_n 2, 1) := by decide +kernel
theorem zd_Read_readItems_32 : decode zb_Read_readItems 32 = .ok (.ireturn, 1) := by decide +kernel
theorem zd_Read_readItems_33 : decode zb_Read_readItems 33 = .ok (.aload_n 0, 1) := by decide +kernel
theorem zd_Read_readItems_34 : decode zb_Read_readItems 34 = .ok (.getfield 20, 3) := by decide +kernel
theorem zd_Read_readItems_37 : decode zb_Read_readItems 37 = .ok (.iconst 2, 1) := by decide +kernel
theorem zd_Read_readItems_38 : decode zb_Read_readItems 38 = .ok (.if_icmp .eq 6, 3) := by decide +kernel
theorem zd_Read_readItems_41 : decode zb_Read_readItems 41 = .ok (.goto 13, 3) := by decide +kernel
theorem zd_Read_readItems_44 : decode zb_Read_readItems 44 = .ok (.aload_n 0, 1) := by decide +kernel
theorem zd_Read_readItems_45 : decode zb_Read_readItems 45 = .ok (.invokevirtual 24, 3) := by decide +kernel
theorem zd_Read_readItems_48 : decode zb_Read_readItems 48 = .ok (.iinc 2 1, 3) := by decide +kernel
theorem zd_Read_readItems_51 : decode zb_Read_readItems 51 = .ok (.goto (-45), 3) := by decide +kernel
theorem zd_Read_readItems_54 : decode zb_Read_readItems 54 = .ok (.iconst (-1), 1) := by decide +kernel
theorem zd_Read_readItems_55 : decode zb_Read_readItems 55 = .ok (.aload_n 0, 1) := by decide +kernel
theorem zd_Read_readItems_56 : decode zb_Read_readItems 56 = .ok (.getfield 27, 3) := by decide +kernel
theorem zd_Read_readItems_59 : decode zb_Read_readItems 59 = .ok (.isub, 1) := by decide +kernel
theorem zd_Read_readItems_60 : decode zb_Read_readItems 60 = .ok (.ireturn, 1) := by decide +kernel
set_option maxHeartbeats 4000000 in
theorem zl_Read_readItems_L54 {p : Program} {l : Launch} {e : Env} {s : State} {m : MethodId} {args : Array Value} {below : List Frame} {meth : Method} {c : Code} {D : va_G} {cA : Nat → ClassId} {ad : Nat → Nat} {A : Nat → Prop} (B : zu_B p s m args c zb_Read_readItems 3 "StonePost$TextReader" D cA ad A) (hret : meth.sig.returnType = (some .int)) (hlk : meth.locks = false) {Y : LX} {res : Int32 × IX} (X : IX) (H : Heap) (locs : List Loc) (ls : Array Slot) (hP : va_P D zu_cl (zu_pic cA ad X Y) H) (hS : va_S A s.heap H locs) (hl : lv_has ls 3 [(0, .ref (ad 8))]) (hf : fn_Read_readItems_L54 X = some res) : W p l e zR_Read_readItems s m args below meth c H locs 0 0 (MQ below (zu_Qi D cA ad A res.1 res.2 Y) args s 0 0 A) (F0 m 54 ls []) := by
  obtain ⟨hx, hb, hml, hown, hts, hST⟩ := id B
  unfold fn_Read_readItems_L54 at hf
  refine lv_iconst (v := -1) hx hb zd_Read_readItems_54 (by decide) ?_
  refine lv_aload_n hx hb zd_Read_readItems_55 rfl (lv_at hl 0 rfl) ?_
  refine zg_Tape_start B hP rfl zq_153 zd_Read_readItems_56 ?_
  refine lv_isub hx hb zd_Read_readItems_59 ?_
  obtain rfl := Option.some.inj hf
  exact zr_iret hx hb hret hlk hP hS zd_Read_readItems_60
set_option maxHeartbeats 4000000 in
theorem zl_Read_readItems_B6 {p : Program} {l : Launch} {e : Env} {s : State} {m : MethodId} {args : Array Value} {below : List Frame} {meth : Method} {c : Code} {D : va_G} {cA : Nat → ClassId} {ad : Nat → Nat} {A : Nat → Prop} (B : zu_B p s m args c zb_Read_readItems 3 "StonePost$TextReader" D cA ad A) (hret : meth.sig.returnType = (some .int)) (hlk : meth.locks = false) {Y : LX} {res : Int32 × IX} {k6 : Nat → Int32 → IX → Option (Int32 × IX)} (hk6 : ∀ (r1 : Nat) (x2 : Int32) (X : IX) (H : Heap) (locs : List Loc) (ls : Array Slot), va_P D zu_cl (zu_pic cA ad X Y) H → va_S A s.heap H locs → lv_has ls 3 [(0, .ref (ad 8)), (1, .ref (ad r1)), (2, .int x2)] → zu_kd r1 = 5 → k6 r1 x2 X = some res → W p l e zR_Read_readItems s m args below meth c H locs 0 0 (MQ below (zu_Qi D cA ad A res.1 res.2 Y) args s 0 0 A) (F0 m 6 ls [])) (r1 : Nat) (x2 : Int32) (X : IX) (H : Heap) (locs : List Loc) (ls : Array Slot) (hP : va_P D zu_cl (zu_pic cA ad X Y) H) (hS : va_S A s.heap H locs) (hl : lv_has ls 3 [(0, .ref (ad 8)), (1, .ref (ad r1)), (2, .int x2)]) (hr1 : zu_kd r1 = 5) (hf : fn_Read_readItems_B6 k6 r1 x2 X = some res) : W p l e zR_Read_readItems s m args below meth c H locs 0 0 (MQ below (zu_Qi D cA ad A res.1 res.2 Y) args s 0 0 A) (F0 m 6 ls []) := by
  obtain ⟨hx, hb, hml, hown, hts, hST⟩ := id B
  unfold fn_Read_readItems_B6 at hf
  refine lv_iload_n hx hb zd_Read_readItems_6 rfl (lv_at hl 2 rfl) ?_
  refine lv_bipush (v := 120) hx hb zd_Read_readItems_7 (by decide) ?_
  refine lv_icmp_gt (tgt := 54) hx hb zd_Read_readItems_9 (by decide) (fun c3 => ?_) (fun c3 => ?_)
  · have hf := zu_t c3 hf
    exact zl_Read_readItems_L54 B hret hlk X _ _ _ hP hS (lv_sub hl [0] rfl) hf
  · have hf := zu_f c3 hf
    refine lv_aload_n hx hb zd_Read_readItems_12 rfl (lv_at hl 0 rfl) ?_
    refine lv_aload_n hx hb zd_Read_readItems_13 rfl (lv_at hl 1 rfl) ?_
    obtain ⟨v4, X5, hq6, hf⟩ := zu_b2_e hf
    refine zw_Read_readItem (rest := []) B hP hS hr1 hq6 zq_651 (Nat.le_of_ble_eq_true rfl) (Nat.le_of_ble_eq_true rfl) hl.1 rfl (Nat.le_of_ble_eq_true rfl) zd_Read_readItems_14 (by decide) (fun H locs hP hS => ?_)
    clear hq6
    refine lv_if_ne (tgt := 23) hx hb zd_Read_readItems_17 (by decide) (fun c7 => ?_) (fun c7 => ?_)
    · have hf := zu_f c7 hf
      refine lv_aload_n hx hb zd_Read_readItems_23 rfl (lv_at hl 0 rfl) ?_
      refine zg_Tape_token B hP rfl zq_151 zd_Read_readItems_24 ?_
      refine lv_iconst (v := 3) hx hb zd_Read_readItems_27 (by decide) ?_
      refine lv_icmp_ne (tgt := 33) hx hb zd_Read_readItems_28 (by decide) (fun c8 => ?_) (fun c8 => ?_)
      · have hf := zu_f c8 hf
        refine lv_aload_n hx hb zd_Read_readItems_33 rfl (lv_at hl 0 rfl) ?_
        refine zg_Tape_token B hP rfl zq_151 zd_Read_readItems_34 ?_
        refine lv_iconst (v := 2) hx hb zd_Read_readItems_37 (by decide) ?_
        refine lv_icmp_eq (tgt := 44) hx hb zd_Read_readItems_38 (by decide) (fun c9 => ?_) (fun c9 => ?_)
        · have hf := zu_t c9 hf
          refine lv_aload_n hx hb zd_Read_readItems_44 rfl (lv_at hl 0 rfl) ?_
          obtain ⟨X10, hq11, hf⟩ := zu_b1_e hf
          refine zw_Tape_readOn (rest := []) B hP hS hq11 zq_716 (Nat.le_of_ble_eq_true rfl) (Nat.le_of_ble_eq_true rfl) hl.1 rfl (Nat.le_of_ble_eq_true rfl) zd_Read_readItems_45 (by decide) (fun H locs hP hS => ?_)
          clear hq11
          obtain ⟨v12, ev12, hf⟩ := zu_nx_e hf
          refine lv_iinc (v := v12) (lv' := [(2, .int v12), (0, .ref (ad 8)), (1, .ref (ad r1))]) hx hb zd_Read_readItems_48 hl (k := 2) rfl (by rw [ev12]; rfl) (by decide) rfl (fun ls hl => ?_)
          clear ev12
          refine lv_goto (tgt := 6) hx hb zd_Read_readItems_51 (by decide) ?_
          exact hk6 r1 v12 X10 _ _ _ hP hS (lv_sub hl [1, 2, 0] rfl) hr1 hf
        · have hf := zu_f c9 hf
          refine lv_goto (tgt := 54) hx hb zd_Read_readItems_41 (by decide) ?_
          exact zl_Read_readItems_L54 B hret hlk X5 _ _ _ hP hS (lv_sub hl [0] rfl) hf
      · have hf := zu_t c8 hf
        refine lv_iload_n hx hb zd_Read_readItems_31 rfl (lv_at hl 2 rfl) ?_
        obtain rfl := Option.some.inj hf
        exact zr_iret hx hb hret hlk hP hS zd_Read_readItems_32
    · have hf := zu_t c7 hf
      refine lv_goto (tgt := 54) hx hb zd_Read_readItems_20 (by decide) ?_
      exact zl_Read_readItems_L54 B hret hlk X5 _ _ _ hP hS (lv_sub hl [0] rfl) hf
theorem zl_Read_readItems_L6 {p : Program} {l : Launch} {e : Env} {s : State} {m : MethodId} {args : Array Value} {below : List Frame} {meth : Method} {c : Code} {D : va_G} {cA : Nat → ClassId} {ad : Nat → Nat} {A : Nat → Prop} (B : zu_B p s m args c zb_Read_readItems 3 "StonePost$TextReader" D cA ad A) (hret : meth.sig.returnType = (some .int)) (hlk : meth.locks = false) {Y : LX} {res : Int32 × IX} : ∀ (n : Nat) (r1 : Nat) (x2 : Int32) (X : IX) (H : Heap) (locs : List Loc) (ls : Array Slot), va_P D zu_cl (zu_pic cA ad X Y) H → va_S A s.heap H locs → lv_has ls 3 [(0, .ref (ad 8)), (1, .ref (ad r1)), (2, .int x2)] → zu_kd r1 = 5 → fn_Read_readItems_L6 n r1 x2 X = some res → W p l e zR_Read_readItems s m args below meth c H locs 0 0 (MQ below (zu_Qi D cA ad A res.1 res.2 Y) args s 0 0 A) (F0 m 6 ls []) := by
  intro n
  induction n with
  | zero =>
    intro r1 x2 X H locs ls hP hS hl hr1 hf
    exact (Option.some_ne_none _ hf.symm).elim
  | succ n ih =>
    intro r1 x2 X H locs ls hP hS hl hr1 hf
    exact zl_Read_readItems_B6 B hret hlk ih r1 x2 X H locs ls hP hS hl hr1 hf
set_option maxHeartbeats 4000000 in
theorem zl_Read_readItems {p : Program} {l : Launch} {e : Env} {s : State} {m : MethodId} {args : Array Value} {below : List Frame} {meth : Method} {c : Code} {D : va_G} {cA : Nat → ClassId} {ad : Nat → Nat} {A : Nat → Prop} (B : zu_B p s m args c zb_Read_readItems 3 "StonePost$TextReader" D cA ad A) (hret : meth.sig.returnType = (some .int)) (hlk : meth.locks = false) {Y : LX} {res : Int32 × IX} {r1 : Nat} {X : IX} (H : Heap) (locs : List Loc) (ls : Array Slot) (hP : va_P D zu_cl (zu_pic cA ad X Y) H) (hS : va_S A s.heap H locs) (hl : lv_has ls 3 [(0, .ref (ad 8)), (1, .ref (ad r1))]) (hr1 : zu_kd r1 = 5) (hf : fn_Read_readItems r1 X = some res) : W p l e zR_Read_readItems s m args below meth c H locs 0 0 (MQ below (zu_Qi D cA ad A res.1 res.2 Y) args s 0 0 A) (F0 m 0 ls []) := by
  obtain ⟨hx, hb, hml, hown, hts, hST⟩ := id B
  unfold fn_Read_readItems at hf
  refine lv_aload_n hx hb zd_Read_readItems_0 rfl (lv_at hl 0 rfl) ?_
  obtain ⟨X1, hq2, hf⟩ := zu_b1_e hf
  refine zw_Tape_readFirst (rest := []) B hP hS hq2 zq_628 (Nat.le_of_ble_eq_true rfl) (Nat.le_of_ble_eq_true rfl) hl.1 rfl (Nat.le_of_ble_eq_true rfl) zd_Read_readItems_1 (by decide) (fun H locs hP hS => ?_)
  clear hq2
  refine lv_iconst (v := 1) hx hb zd_Read_readItems_4 (by decide) ?_
  refine lv_istore_n (lv' := [(2, .int (1 : Int32)), (0, .ref (ad 8)), (1, .ref (ad r1))]) hx hb zd_Read_readItems_5 rfl hl (by decide) rfl (fun ls hl => ?_)
  exact zl_Read_readItems_L6 B hret hlk 400 r1 (1 : Int32) X1 _ _ _ hP hS (lv_sub hl [1, 2, 0] rfl) hr1 hf
theorem zC_Read_readItems (l : Launch) {D : va_G} {cA : Nat → ClassId} {ad : Nat → Nat} {A : Nat → Prop} {r1 : Nat} {X : IX} {Y : LX} {res : Int32 × IX} (hr1 : zu_kd r1 = 5) (hf : fn_Read_readItems r1 X = some res) : Met l zm_Read_readItems (zu_ws zm_Read_readItems zb_Read_readItems 3 (some .int)) zR_Read_readItems (va_Pc [.ref (ad 8), .ref (ad r1)] (zu_Pre D cA ad A X Y)) (zu_Qi D cA ad A res.1 res.2 Y) 0 0 A := by
  refine Met.ofW (cc := zb_Read_readItems) (maxL := 3) (ret := (some .int)) (by decide +kernel) rfl ?_
  intro p e s m args below meth c s₁ B0 hml hv
  obtain ⟨rfl, hP, hST⟩ := hv
  have B : zu_B p s m _ c zb_Read_readItems 3 "StonePost$TextReader" D cA ad A := ⟨B0.exec, B0.bytes, hml, findClass_of_methodNamed B0.named, (fun w hw => atoms_spec (ws := zu_ws zm_Read_readItems zb_Read_readItems 3 (some .int)) B0.pre w (List.mem_cons_of_mem _ hw)), hST⟩
  have hl := lv_entry ([.ref (ad 8), .ref (ad r1)]) (n := 3) (Nat.le_of_ble_eq_true rfl)
  rw [lg_entry_eq]
  generalize (lg_sl ([.ref (ad 8), .ref (ad r1)]) ++ List.replicate (3 - (lg_sl ([.ref (ad 8), .ref (ad r1)])).length) Slot.unset).toArray = ls at hl ⊢
  exact zl_Read_readItems B B0.returns B0.notSynchronized s.heap [] ls hP va_S.rf hl hr1 hf
theorem zw_Read_readItems {p : Program} {l : Launch} {e : Env} {R : Room} {s : State} {m : MethodId} {args : Array Value} {below : List Frame} {meth : Method} {c : Code} {H : Heap} {locs : List Loc} {cells slots : Nat} {Q : State → Prop} {cc : ByteArray} {pc nL : Nat} {ls : Array Slot} {rest st0 : List Value} {D : va_G} {cA : Nat → ClassId} {ad : Nat → Nat} {A : Nat → Prop} {X : IX} {Y : LX} {own : String} {index : Nat} {r1 : Nat} {v1 : Int32} {X1 : IX} (B : zu_B p s m args c cc nL own D cA ad A) (hP : va_P D zu_cl (zu_pic cA ad X Y) H) (hS : va_S A s.heap H locs) (hr1 : zu_kd r1 = 5) (hq : fn_Read_readItems r1 X = some (v1, X1)) (m1 : Cond.methodLink own index zm_Read_readItems ∈ zu_TB) (hR1 : 8 + 1 ≤ R.frames) (hR2 : 8 + (3 + 11) + 177 ≤ R.locals) (hsz : ls.size = nL) (hst : st0 = .ref (ad r1) :: .ref (ad 8) ::  rest) (hw : (rest.map fun v => v.category).sum ≤ 8) (hdg : decode cc pc = .ok (.invokestatic index, 3)) (h00 : cells ≤ R.cells ∧ slots ≤ R.slots) (kk : ∀ (H1 : Heap) (locs1 : List Loc), va_P D zu_cl (zu_pic cA ad X1 Y) H1 → va_S A s.heap H1 locs1 → W p l e R s m args below meth c H1 locs1 cells slots Q (F0 m (pc + 3) ls (.int v1 :: rest))) : W p l e R s m args below meth c H locs cells slots Q (F0 m pc ls st0) := by
  subst hst
  exact zr_cSi (As := [.ref (ad 8), .ref (ad r1)]) (rest := rest) (n := 2) B hP hS (zC_Read_readItems l hr1 hq) m1 zq_626 zq_12 zq_627 (by decide +kernel) ⟨hR1, hR2⟩ rfl rfl rfl hsz rfl hw hdg h00 kk
abbrev zR_Post_text : Room := { frames := 9, cells := 0, slots := 0, locals := 199 }
theorem zd_Post_text_0 : decode zb_Post_text 0 = .ok (.aload_n 0, 1) := by decide +kernel
theorem zd_Post_text_1 : decode zb_Post_text 1 = .ok (.getfield 19, 3) := by decide +kernel
theorem zd_Post_text_4 : decode zb_Post_text 4 = .ok (.aload_n 0, 1) := by decide +kernel
theorem zd_Post_text_5 : decode zb_Post_text 5 = .ok (.getfield 10, 3) := by decide +kernel
theorem zd_Post_text_8 : decode zb_Post_text 8 = .ok (.invokevirtual 197, 3) := by decide +kernel
theorem zd_Post_text_11 : decode zb_Post_text 11 = .ok (.aload_n 0, 1) := by decide +kernel
theorem zd_Post_text_12 : decode zb_Post_text 12 = .ok (.getfield 32, 3) := by decide +kernel
theorem zd_Post_text_15 : decode zb_Post_text 15 = .ok (.aload_n 0, 1) := by decide +kernel
theorem zd_Post_text_16 : decode zb_Post_text 16 = .ok (.getfield 19, 3) := by decide +kernel
theorem zd_Post_text_19 : decode zb_Post_text 19 = .ok (.invokestatic 240, 3) := by decide +kernel
theorem zd_Post_text_22 : decode zb_Post_text 22 = .ok (.istore_n 1, 1) := by decide +kernel
theorem zd_Post_text_23 : decode zb_Post_text 23 = .ok (.iload_n 1, 1) := by decide +kernel
theorem zd_Post_text_24 : decode zb_Post_text 24 = .ok (.ifCond .lt 14, 3) := by decide +kernel
theorem zd_Post_text_27 : decode zb_Post_text 27 = .ok (.aload_n 0, 1) := by decide +kernel
theorem zd_Post_text_28 : decode zb_Post_text 28 = .ok (.getfield 10, 3) := by decide +kernel
theorem zd_Post_text_31 : decode zb_Post_text 31 = .ok (.aload_n 0, 1) := by decide +kernel
theorem zd_Post_text_32 : decode zb_Post_text 32 = .ok (.getfield 19, 3) := by decide +kernel
theorem zd_Post_text_35 : decode zb_Post_text 35 = .ok (.invokevirtual 197, 3) := by decide +kernel
theorem zd_Post_text_38 : decode zb_Post_text 38 = .ok (.aload_n 0, 1) := by decide +kernel
theorem zd_Post_text_39 : decode zb_Post_text 39 = .ok (.getfield 32, 3) := by decide +kernel
theorem zd_Post_text_42 : decode zb_Post_text 42 = .ok (.iconst 0, 1) := by decide +kernel
theorem zd_Post_text_43 : decode zb_Post_text 43 = .ok (.putfield 234, 3) := by decide +kernel
theorem zd_Post_text_46 : decode zb_Post_text 46 = .ok (.iload_n 1, 1) := by decide +kernel
theorem zd_Post_text_47 : decode zb_Post_text 47 = .ok (.ireturn, 1) := by decide +kernel
set_option maxHeartbeats 4000000 in
theorem zl_Post_text_L38 {p : Program} {l : Launch} {e : Env} {s : State} {m : MethodId} {args : Array Value} {below : List Frame} {meth : Method} {c : Code} {D : va_G} {cA : Nat → ClassId} {ad : Nat → Nat} {A : Nat → Prop} (B : zu_B p s m args c zb_Post_text 2 "StonePost" D cA ad A) (hret : meth.sig.returnType = (some .int)) (hlk : meth.locks = false) {Y : LX} {res : Int32 × IX} (x1 : Int32) (X : IX) (H : Heap) (locs : List Loc) (ls : Array Slot) (hP : va_P D zu_cl (zu_pic cA ad X Y) H) (hS : va_S A s.heap H locs) (hl : lv_has ls 2 [(0, .ref (ad 0)), (1, .int x1)]) (hf : fn_Post_text_L38 x1 X = some res) : W p l e zR_Post_text s m args below meth c H locs 0 0 (MQ below (zu_Qi D cA ad A res.1 res.2 Y) args s 0 0 A) (F0 m 38 ls []) := by
  obtain ⟨hx, hb, hml, hown, hts, hST⟩ := id B
  unfold fn_Post_text_L38 at hf
  refine lv_aload_n hx hb zd_Post_text_38 rfl (lv_at hl 0 rfl) ?_
  refine zg_Post_tape B hP rfl zq_195 zd_Post_text_39 ?_
  refine lv_iconst (v := 0) hx hb zd_Post_text_42 (by decide) ?_
  refine zp_Tape_length B hP hS hf rfl zq_150 zd_Post_text_43 (fun X9 H locs hf hP hS => ?_)
  refine lv_iload_n hx hb zd_Post_text_46 rfl (lv_at hl 1 rfl) ?_
  obtain rfl := Option.some.inj hf
  exact zr_iret hx hb hret hlk hP hS zd_Post_text_47
set_option maxHeartbeats 4000000 in
theorem zl_Post_text {p : Program} {l : Launch} {e : Env} {s : State} {m : MethodId} {args : Array Value} {below : List Frame} {meth : Method} {c : Code} {D : va_G} {cA : Nat → ClassId} {ad : Nat → Nat} {A : Nat → Prop} (B : zu_B p s m args c zb_Post_text 2 "StonePost" D cA ad A) (hret : meth.sig.returnType = (some .int)) (hlk : meth.locks = false) {Y : LX} {res : Int32 × IX} {X : IX} (H : Heap) (locs : List Loc) (ls : Array Slot) (hP : va_P D zu_cl (zu_pic cA ad X Y) H) (hS : va_S A s.heap H locs) (hl : lv_has ls 2 [(0, .ref (ad 0))]) (hf : fn_Post_text X = some res) : W p l e zR_Post_text s m args below meth c H locs 0 0 (MQ below (zu_Qi D cA ad A res.1 res.2 Y) args s 0 0 A) (F0 m 0 ls []) := by
  obtain ⟨hx, hb, hml, hown, hts, hST⟩ := id B
  unfold fn_Post_text at hf
  refine lv_aload_n hx hb zd_Post_text_0 rfl (lv_at hl 0 rfl) ?_
  refine zg_Post_trial B hP rfl zq_193 zd_Post_text_1 ?_
  refine lv_aload_n hx hb zd_Post_text_4 rfl (lv_at hl 0 rfl) ?_
  refine zg_Post_land B hP rfl zq_191 zd_Post_text_5 ?_
  obtain ⟨X1, hq2, hf⟩ := zu_b1_e hf
  refine zw_Land_become (rest := []) B hP hS rfl rfl hq2 zq_539 (Nat.le_of_ble_eq_true rfl) (Nat.le_of_ble_eq_true rfl) hl.1 rfl (Nat.le_of_ble_eq_true rfl) zd_Post_text_8 (by decide) (fun H locs hP hS => ?_)
  clear hq2
  refine lv_aload_n hx hb zd_Post_text_11 rfl (lv_at hl 0 rfl) ?_
  refine zg_Post_tape B hP rfl zq_195 zd_Post_text_12 ?_
  refine lv_aload_n hx hb zd_Post_text_15 rfl (lv_at hl 0 rfl) ?_
  refine zg_Post_trial B hP rfl zq_193 zd_Post_text_16 ?_
  obtain ⟨v3, X4, hq5, hf⟩ := zu_b2_e hf
  refine zw_Read_readItems (rest := []) B hP hS rfl hq5 zq_625 (Nat.le_of_ble_eq_true rfl) (Nat.le_of_ble_eq_true rfl) hl.1 rfl (Nat.le_of_ble_eq_true rfl) zd_Post_text_19 (by decide) (fun H locs hP hS => ?_)
  clear hq5
  refine lv_istore_n (lv' := [(1, .int v3), (0, .ref (ad 0))]) hx hb zd_Post_text_22 rfl hl (by decide) rfl (fun ls hl => ?_)
  refine lv_iload_n hx hb zd_Post_text_23 rfl (lv_at hl 0 rfl) ?_
  refine lv_if_lt (tgt := 38) hx hb zd_Post_text_24 (by decide) (fun c6 => ?_) (fun c6 => ?_)
  · have hf := zu_t c6 hf
    exact zl_Post_text_L38 B hret hlk v3 X4 _ _ _ hP hS (lv_sub hl [1, 0] rfl) hf
  · have hf := zu_f c6 hf
    refine lv_aload_n hx hb zd_Post_text_27 rfl (lv_at hl 1 rfl) ?_
    refine zg_Post_land B hP rfl zq_191 zd_Post_text_28 ?_
    refine lv_aload_n hx hb zd_Post_text_31 rfl (lv_at hl 1 rfl) ?_
    refine zg_Post_trial B hP rfl zq_193 zd_Post_text_32 ?_
    obtain ⟨X7, hq8, hf⟩ := zu_b1_e hf
    refine zw_Land_become (rest := []) B hP hS rfl rfl hq8 zq_539 (Nat.le_of_ble_eq_true rfl) (Nat.le_of_ble_eq_true rfl) hl.1 rfl (Nat.le_of_ble_eq_true rfl) zd_Post_text_35 (by decide) (fun H locs hP hS => ?_)
    clear hq8
    exact zl_Post_text_L38 B hret hlk v3 X7 _ _ _ hP hS (lv_sub hl [1, 0] rfl) hf
theorem zC_Post_text (l : Launch) {D : va_G} {cA : Nat → ClassId} {ad : Nat → Nat} {A : Nat → Prop} {X : IX} {Y : LX} {res : Int32 × IX} (hf : fn_Post_text X = some res) : Met l zm_Post_text (zu_ws zm_Post_text zb_Post_text 2 (some .int)) zR_Post_text (va_Pc [.ref (ad 0)] (zu_Pre D cA ad A X Y)) (zu_Qi D cA ad A res.1 res.2 Y) 0 0 A := by
  refine Met.ofW (cc := zb_Post_text) (maxL := 2) (ret := (some .int)) (by decide +kernel) rfl ?_
  intro p e s m args below meth c s₁ B0 hml hv
  obtain ⟨rfl, hP, hST⟩ := hv
  have B : zu_B p s m _ c zb_Post_text 2 "StonePost" D cA ad A := ⟨B0.exec, B0.bytes, hml, findClass_of_methodNamed B0.named, (fun w hw => atoms_spec (ws := zu_ws zm_Post_text zb_Post_text 2 (some .int)) B0.pre w (List.mem_cons_of_mem _ hw)), hST⟩
  have hl := lv_entry ([.ref (ad 0)]) (n := 2) (Nat.le_of_ble_eq_true rfl)
  rw [lg_entry_eq]
  generalize (lg_sl ([.ref (ad 0)]) ++ List.replicate (2 - (lg_sl ([.ref (ad 0)])).length) Slot.unset).toArray = ls at hl ⊢
  exact zl_Post_text B B0.returns B0.notSynchronized s.heap [] ls hP va_S.rf hl  hf
theorem zw_Post_text {p : Program} {l : Launch} {e : Env} {R : Room} {s : State} {m : MethodId} {args : Array Value} {below : List Frame} {meth : Method} {c : Code} {H : Heap} {locs : List Loc} {cells slots : Nat} {Q : State → Prop} {cc : ByteArray} {pc nL : Nat} {ls : Array Slot} {rest st0 : List Value} {D : va_G} {cA : Nat → ClassId} {ad : Nat → Nat} {A : Nat → Prop} {X : IX} {Y : LX} {own : String} {index : Nat} {v1 : Int32} {X1 : IX} (B : zu_B p s m args c cc nL own D cA ad A) (hP : va_P D zu_cl (zu_pic cA ad X Y) H) (hS : va_S A s.heap H locs) (hq : fn_Post_text X = some (v1, X1)) (m1 : Cond.methodLink own index zm_Post_text ∈ zu_TB) (hR1 : 9 + 1 ≤ R.frames) (hR2 : 8 + (2 + 11) + 199 ≤ R.locals) (hsz : ls.size = nL) (hst : st0 = .ref (ad 0) :: rest) (hw : (rest.map fun v => v.category).sum ≤ 8) (hdg : decode cc pc = .ok (.invokevirtual index, 3)) (h00 : cells ≤ R.cells ∧ slots ≤ R.slots) (kk : ∀ (H1 : Heap) (locs1 : List Loc), va_P D zu_cl (zu_pic cA ad X1 Y) H1 → va_S A s.heap H1 locs1 → W p l e R s m args below meth c H1 locs1 cells slots Q (F0 m (pc + 3) ls (.int v1 :: rest))) : W p l e R s m args below meth c H locs cells slots Q (F0 m pc ls st0) := by
  subst hst
  exact zr_cVi (As := []) (rest := rest) (n := 0) (C := "StonePost") (T := zt_Post) (N := 8) B hP hS (zC_Post_text l  hq) (K := 1) rfl (by decide) (by decide) rfl rfl m1 zq_622 zq_623 zq_1 zq_624 (by decide +kernel) ⟨hR1, hR2⟩ rfl rfl rfl hsz rfl hw hdg h00 kk
abbrev zR_Post_hold : Room := { frames := 2, cells := 0, slots := 0, locals := 44 }
theorem zd_Post_hold_0 : decode zb_Post_hold 0 = .ok (.iload_n 1, 1) := by decide +kernel
theorem zd_Post_hold_1 : decode zb_Post_hold 1 = .ok (.iconst 0, 1) := by decide +kernel
theorem zd_Post_hold_2 : decode zb_Post_hold 2 = .ok (.bipush 9, 2) := by decide +kernel
theorem zd_Post_hold_4 : decode zb_Post_hold 4 = .ok (.invokestatic 51, 3) := by decide +kernel
theorem zd_Post_hold_7 : decode zb_Post_hold 7 = .ok (.ifCond .eq 16, 3) := by decide +kernel
theorem zd_Post_hold_10 : decode zb_Post_hold 10 = .ok (.iload_n 2, 1) := by decide +kernel
theorem zd_Post_hold_11 : decode zb_Post_hold 11 = .ok (.iconst (-1), 1) := by decide +kernel
theorem zd_Post_hold_12 : decode zb_Post_hold 12 = .ok (.if_icmp .eq 18, 3) := by decide +kernel
theorem zd_Post_hold_15 : decode zb_Post_hold 15 = .ok (.aload_n 0, 1) := by decide +kernel
theorem zd_Post_hold_16 : decode zb_Post_hold 16 = .ok (.iload_n 2, 1) := by decide +kernel
theorem zd_Post_hold_17 : decode zb_Post_hold 17 = .ok (.invokevirtual 82, 3) := by decide +kernel
theorem zd_Post_hold_20 : decode zb_Post_hold 20 = .ok (.ifCond .ne 10, 3) := by decide +kernel
theorem zd_Post_hold_23 : decode zb_Post_hold 23 = .ok (.aload_n 0, 1) := by decide +kernel
theorem zd_Post_hold_24 : decode zb_Post_hold 24 = .ok (.ldc 55, 2) := by decide +kernel
theorem zd_Post_hold_26 : decode zb_Post_hold 26 = .ok (.invokevirtual 56, 3) := by decide +kernel
theorem zd_Post_hold_29 : decode zb_Post_hold 29 = .ok (.ireturn, 1) := by decide +kernel
theorem zd_Post_hold_30 : decode zb_Post_hold 30 = .ok (.aload_n 0, 1) := by decide +kernel
theorem zd_Post_hold_31 : decode zb_Post_hold 31 = .ok (.getfield 10, 3) := by decide +kernel
theorem zd_Post_hold_34 : decode zb_Post_hold 34 = .ok (.getfield 246, 3) := by decide +kernel
theorem zd_Post_hold_37 : decode zb_Post_hold 37 = .ok (.iload_n 1, 1) := by decide +kernel
theorem zd_Post_hold_38 : decode zb_Post_hold 38 = .ok (.iload_n 2, 1) := by decide +kernel
theorem zd_Post_hold_39 : decode zb_Post_hold 39 = .ok (.iastore, 1) := by decide +kernel
theorem zd_Post_hold_40 : decode zb_Post_hold 40 = .ok (.iconst 1, 1) := by decide +kernel
theorem zd_Post_hold_41 : decode zb_Post_hold 41 = .ok (.ireturn, 1) := by decide +kernel
set_option maxHeartbeats 4000000 in
theorem zl_Post_hold_L30 {p : Program} {l : Launch} {e : Env} {s : State} {m : MethodId} {args : Array Value} {below : List Frame} {meth : Method} {c : Code} {D : va_G} {cA : Nat → ClassId} {ad : Nat → Nat} {A : Nat → Prop} (B : zu_B p s m args c zb_Post_hold 3 "StonePost" D cA ad A) (hret : meth.sig.returnType = (some .int)) (hlk : meth.locks = false) {Y : LX} {res : Int32 × IX} (x1 : Int32) (x2 : Int32) (X : IX) (H : Heap) (locs : List Loc) (ls : Array Slot) (hP : va_P D zu_cl (zu_pic cA ad X Y) H) (hS : va_S A s.heap H locs) (hl : lv_has ls 3 [(0, .ref (ad 0)), (1, .int x1), (2, .int x2)]) (hf : fn_Post_hold_L30 x1 x2 X = some res) : W p l e zR_Post_hold s m args below meth c H locs 0 0 (MQ below (zu_Qi D cA ad A res.1 res.2 Y) args s 0 0 A) (F0 m 30 ls []) := by
  obtain ⟨hx, hb, hml, hown, hts, hST⟩ := id B
  unfold fn_Post_hold_L30 at hf
  refine lv_aload_n hx hb zd_Post_hold_30 rfl (lv_at hl 0 rfl) ?_
  refine zg_Post_land B hP rfl zq_191 zd_Post_hold_31 ?_
  refine zg_Land_spots B hP rfl zq_60 zd_Post_hold_34 ?_
  refine lv_iload_n hx hb zd_Post_hold_37 rfl (lv_at hl 1 rfl) ?_
  refine lv_iload_n hx hb zd_Post_hold_38 rfl (lv_at hl 2 rfl) ?_
  obtain ⟨hg11, hf⟩ := zu_gd_e hf
  refine zr_iast rfl B hP hS hf (zk_Land_spots rfl) (by decide) rfl hg11 zd_Post_hold_39 (fun X12 H locs hf hP hS => ?_)
  refine lv_iconst (v := 1) hx hb zd_Post_hold_40 (by decide) ?_
  obtain rfl := Option.some.inj hf
  exact zr_iret hx hb hret hlk hP hS zd_Post_hold_41
set_option maxHeartbeats 4000000 in
theorem zl_Post_hold_L23 {p : Program} {l : Launch} {e : Env} {s : State} {m : MethodId} {args : Array Value} {below : List Frame} {meth : Method} {c : Code} {D : va_G} {cA : Nat → ClassId} {ad : Nat → Nat} {A : Nat → Prop} (B : zu_B p s m args c zb_Post_hold 3 "StonePost" D cA ad A) (hret : meth.sig.returnType = (some .int)) (hlk : meth.locks = false) {Y : LX} {res : Int32 × IX} (X : IX) (H : Heap) (locs : List Loc) (ls : Array Slot) (hP : va_P D zu_cl (zu_pic cA ad X Y) H) (hS : va_S A s.heap H locs) (hl : lv_has ls 3 [(0, .ref (ad 0))]) (hf : fn_Post_hold_L23 X = some res) : W p l e zR_Post_hold s m args below meth c H locs 0 0 (MQ below (zu_Qi D cA ad A res.1 res.2 Y) args s 0 0 A) (F0 m 23 ls []) := by
  obtain ⟨hx, hb, hml, hown, hts, hST⟩ := id B
  unfold fn_Post_hold_L23 at hf
  refine lv_aload_n hx hb zd_Post_hold_23 rfl (lv_at hl 0 rfl) ?_
  refine lv_ldc (v := -1000001) hx hb hown (hts _ zq_226) zd_Post_hold_24 ?_
  obtain ⟨v8, X9, hq10, hf⟩ := zu_b2_e hf
  refine zw_Post_finding (rest := []) B hP hS hq10 zq_227 (Nat.le_of_ble_eq_true rfl) (Nat.le_of_ble_eq_true rfl) hl.1 rfl (Nat.le_of_ble_eq_true rfl) zd_Post_hold_26 (by decide) (fun H locs hP hS => ?_)
  clear hq10
  obtain rfl := Option.some.inj hf
  exact zr_iret hx hb hret hlk hP hS zd_Post_hold_29
set_option maxHeartbeats 4000000 in
theorem zl_Post_hold {p : Program} {l : Launch} {e : Env} {s : State} {m : MethodId} {args : Array Value} {below : List Frame} {meth : Method} {c : Code} {D : va_G} {cA : Nat → ClassId} {ad : Nat → Nat} {A : Nat → Prop} (B : zu_B p s m args c zb_Post_hold 3 "StonePost" D cA ad A) (hret : meth.sig.returnType = (some .int)) (hlk : meth.locks = false) {Y : LX} {res : Int32 × IX} {a1 : Int32} {a2 : Int32} {X : IX} (H : Heap) (locs : List Loc) (ls : Array Slot) (hP : va_P D zu_cl (zu_pic cA ad X Y) H) (hS : va_S A s.heap H locs) (hl : lv_has ls 3 [(0, .ref (ad 0)), (1, .int a1), (2, .int a2)]) (hf : fn_Post_hold a1 a2 X = some res) : W p l e zR_Post_hold s m args below meth c H locs 0 0 (MQ below (zu_Qi D cA ad A res.1 res.2 Y) args s 0 0 A) (F0 m 0 ls []) := by
  obtain ⟨hx, hb, hml, hown, hts, hST⟩ := id B
  unfold fn_Post_hold at hf
  refine lv_iload_n hx hb zd_Post_hold_0 rfl (lv_at hl 1 rfl) ?_
  refine lv_iconst (v := 0) hx hb zd_Post_hold_1 (by decide) ?_
  refine lv_bipush (v := 9) hx hb zd_Post_hold_2 (by decide) ?_
  obtain ⟨v1, hq2, hf⟩ := zu_b1_e hf
  refine zw_Post_isWithin (rest := []) B hP hS hq2 zq_223 (Nat.le_of_ble_eq_true rfl) (Nat.le_of_ble_eq_true rfl) hl.1 rfl (Nat.le_of_ble_eq_true rfl) zd_Post_hold_4 (by decide) (fun H locs hP hS => ?_)
  clear hq2
  refine lv_if_eq (tgt := 23) hx hb zd_Post_hold_7 (by decide) (fun c3 => ?_) (fun c3 => ?_)
  · have hf := zu_t c3 hf
    exact zl_Post_hold_L23 B hret hlk X _ _ _ hP hS (lv_sub hl [0] rfl) hf
  · have hf := zu_f c3 hf
    refine lv_iload_n hx hb zd_Post_hold_10 rfl (lv_at hl 2 rfl) ?_
    refine lv_iconst (v := -1) hx hb zd_Post_hold_11 (by decide) ?_
    refine lv_icmp_eq (tgt := 30) hx hb zd_Post_hold_12 (by decide) (fun c4 => ?_) (fun c4 => ?_)
    · have hf := zu_t c4 hf
      exact zl_Post_hold_L30 B hret hlk a1 a2 X _ _ _ hP hS (lv_sub hl [0, 1, 2] rfl) hf
    · have hf := zu_f c4 hf
      refine lv_aload_n hx hb zd_Post_hold_15 rfl (lv_at hl 0 rfl) ?_
      refine lv_iload_n hx hb zd_Post_hold_16 rfl (lv_at hl 2 rfl) ?_
      obtain ⟨v5, hq6, hf⟩ := zu_b1_e hf
      refine zw_Post_isThrower (rest := []) B hP hS hq6 zq_265 (Nat.le_of_ble_eq_true rfl) (Nat.le_of_ble_eq_true rfl) hl.1 rfl (Nat.le_of_ble_eq_true rfl) zd_Post_hold_17 (by decide) (fun H locs hP hS => ?_)
      clear hq6
      refine lv_if_ne (tgt := 30) hx hb zd_Post_hold_20 (by decide) (fun c7 => ?_) (fun c7 => ?_)
      · have hf := zu_f c7 hf
        exact zl_Post_hold_L30 B hret hlk a1 a2 X _ _ _ hP hS (lv_sub hl [0, 1, 2] rfl) hf
      · have hf := zu_t c7 hf
        exact zl_Post_hold_L23 B hret hlk X _ _ _ hP hS (lv_sub hl [0] rfl) hf
theorem zC_Post_hold (l : Launch) {D : va_G} {cA : Nat → ClassId} {ad : Nat → Nat} {A : Nat → Prop} {a1 : Int32} {a2 : Int32} {X : IX} {Y : LX} {res : Int32 × IX} (hf : fn_Post_hold a1 a2 X = some res) : Met l zm_Post_hold (zu_ws zm_Post_hold zb_Post_hold 3 (some .int)) zR_Post_hold (va_Pc [.ref (ad 0), .int a1, .int a2] (zu_Pre D cA ad A X Y)) (zu_Qi D cA ad A res.1 res.2 Y) 0 0 A := by
  refine Met.ofW (cc := zb_Post_hold) (maxL := 3) (ret := (some .int)) (by decide +kernel) rfl ?_
  intro p e s m args below meth c s₁ B0 hml hv
  obtain ⟨rfl, hP, hST⟩ := hv
  have B : zu_B p s m _ c zb_Post_hold 3 "StonePost" D cA ad A := ⟨B0.exec, B0.bytes, hml, findClass_of_methodNamed B0.named, (fun w hw => atoms_spec (ws := zu_ws zm_Post_hold zb_Post_hold 3 (some .int)) B0.pre w (List.mem_cons_of_mem _ hw)), hST⟩
  have hl := lv_entry ([.ref (ad 0), .int a1, .int a2]) (n := 3) (Nat.le_of_ble_eq_true rfl)
  rw [lg_entry_eq]
  generalize (lg_sl ([.ref (ad 0), .int a1, .int a2]) ++ List.replicate (3 - (lg_sl ([.ref (ad 0), .int a1, .int a2])).length) Slot.unset).toArray = ls at hl ⊢
  exact zl_Post_hold B B0.returns B0.notSynchronized s.heap [] ls hP va_S.rf hl  hf
theorem zw_Post_hold {p : Program} {l : Launch} {e : Env} {R : Room} {s : State} {m : MethodId} {args : Array Value} {below : List Frame} {meth : Method} {c : Code} {H : Heap} {locs : List Loc} {cells slots : Nat} {Q : State → Prop} {cc : ByteArray} {pc nL : Nat} {ls : Array Slot} {rest st0 : List Value} {D : va_G} {cA : Nat → ClassId} {ad : Nat → Nat} {A : Nat → Prop} {X : IX} {Y : LX} {own : String} {index : Nat} {a1 : Int32} {a2 : Int32} {v1 : Int32} {X1 : IX} (B : zu_B p s m args c cc nL own D cA ad A) (hP : va_P D zu_cl (zu_pic cA ad X Y) H) (hS : va_S A s.heap H locs) (hq : fn_Post_hold a1 a2 X = some (v1, X1)) (m1 : Cond.methodLink own index zm_Post_hold ∈ zu_TB) (hR1 : 2 + 1 ≤ R.frames) (hR2 : 8 + (3 + 11) + 44 ≤ R.locals) (hsz : ls.size = nL) (hst : st0 = .int a2 :: .int a1 :: .ref (ad 0) :: rest) (hw : (rest.map fun v => v.category).sum ≤ 8) (hdg : decode cc pc = .ok (.invokevirtual index, 3)) (h00 : cells ≤ R.cells ∧ slots ≤ R.slots) (kk : ∀ (H1 : Heap) (locs1 : List Loc), va_P D zu_cl (zu_pic cA ad X1 Y) H1 → va_S A s.heap H1 locs1 → W p l e R s m args below meth c H1 locs1 cells slots Q (F0 m (pc + 3) ls (.int v1 :: rest))) : W p l e R s m args below meth c H locs cells slots Q (F0 m pc ls st0) := by
  subst hst
  exact zr_cVi (As := [.int a1, .int a2]) (rest := rest) (n := 2) (C := "StonePost") (T := zt_Post) (N := 8) B hP hS (zC_Post_hold l  hq) (K := 1) rfl (by decide) (by decide) rfl rfl m1 zq_763 zq_764 zq_1 zq_765 (by decide +kernel) ⟨hR1, hR2⟩ rfl rfl rfl hsz rfl hw hdg h00 kk
abbrev zR_Thr_isA : Room := { frames := 2, cells := 0, slots := 0, locals := 42 }
theorem zd_Thr_isA_0 : decode zb_Thr_isA 0 = .ok (.aload_n 0, 1) := by decide +kernel
theorem zd_Thr_isA_1 : decode zb_Thr_isA 1 = .ok (.getfield 11, 3) := by decide +kernel
theorem zd_Thr_isA_4 : decode zb_Thr_isA 4 = .ok (.iconst 0, 1) := by decide +kernel
theorem zd_Thr_isA_5 : decode zb_Thr_isA 5 = .ok (.iaload, 1) := by decide +kernel
theorem zd_Thr_isA_6 : decode zb_Thr_isA 6 = .ok (.istore_n 2, 1) := by decide +kernel
theorem zd_Thr_isA_7 : decode zb_Thr_isA 7 = .ok (.iconst 0, 1) := by decide +kernel
theorem zd_Thr_isA_8 : decode zb_Thr_isA 8 = .ok (.istore_n 3, 1) := by decide +kernel
theorem zd_Thr_isA_9 : decode zb_Thr_isA 9 = .ok (.iload_n 3, 1) := by decide +kernel
theorem zd_Thr_isA_10 : decode zb_Thr_isA 10 = .ok (.bipush 6, 2) := by decide +kernel
theorem zd_Thr_isA_12 : decode zb_Thr_isA 12 = .ok (.if_icmp .gt 29, 3) := by decide +kernel
theorem zd_Thr_isA_15 : decode zb_Thr_isA 15 = .ok (.iload_n 2, 1) := by decide +kernel
theorem zd_Thr_isA_16 : decode zb_Thr_isA 16 = .ok (.invokestatic 34, 3) := by decide +kernel
theorem zd_Thr_isA_19 : decode zb_Thr_isA 19 = .ok (.ifCond .eq 22, 3) := by decide +kernel
theorem zd_Thr_isA_22 : decode zb_Thr_isA 22 = .ok (.iload_n 2, 1) := by decide +kernel
theorem zd_Thr_isA_23 : decode zb_Thr_isA 23 = .ok (.iload_n 1, 1) := by decide +kernel
theorem zd_Thr_isA_24 : decode zb_Thr_isA 24 = .ok (.if_icmp .ne 5, 3) := by decide +kernel
theorem zd_Thr_isA_27 : decode zb_Thr_isA 27 = .ok (.iconst 1, 1) := by decide +kernel
theorem zd_Thr_isA_28 : decode zb_Thr_isA 28 = .ok (.ireturn, 1) := by decide +kernel
theorem zd_Thr_isA_29 : decode zb_Thr_isA 29 = .ok (.getstatic 38, 3) := by decide +kernel
theorem zd_Thr_isA_32 : decode zb_Thr_isA 32 = .ok (.iload_n 2, 1) := by decide +kernel
theorem zd_Thr_isA_33 : decode zb_Thr_isA 33 = .ok (.iaload, 1) := by decide +kernel
theorem zd_Thr_isA_34 : decode zb_Thr_isA 34 = .ok (.istore_n 2, 1) := by decide +kernel
theorem zd_Thr_isA_35 : decode zb_Thr_isA 35 = .ok (.iinc 3 1, 3) := by decide +kernel
theorem zd_Thr_isA_38 : decode zb_Thr_isA 38 = .ok (.goto (-29), 3) := by decide +kernel
theorem zd_Thr_isA_41 : decode zb_Thr_isA 41 = .ok (.iconst 0, 1) := by decide +kernel
theorem zd_Thr_isA_42 : decode zb_Thr_isA 42 = .ok (.ireturn, 1) := by decide +kernel
set_option maxHeartbeats 4000000 in
theorem zl_Thr_isA_L41 {p : Program} {l : Launch} {e : Env} {s : State} {m : MethodId} {args : Array Value} {below : List Frame} {meth : Method} {c : Code} {D : va_G} {cA : Nat → ClassId} {ad : Nat → Nat} {A : Nat → Prop} (B : zu_B p s m args c zb_Thr_isA 4 "StonePost$Thrower" D cA ad A) (hret : meth.sig.returnType = (some .boolean)) (hlk : meth.locks = false) {X : IX} {Y : LX} {res : Int32} (H : Heap) (locs : List Loc) (ls : Array Slot) (hP : va_P D zu_cl (zu_pic cA ad X Y) H) (hS : va_S A s.heap H locs) (hl : lv_has ls 4 []) (hf : fn_Thr_isA_L41 X = some res) : W p l e zR_Thr_isA s m args below meth c H locs 0 0 (MQ below (zu_Qi D cA ad A res X Y) args s 0 0 A) (F0 m 41 ls []) := by
  obtain ⟨hx, hb, hml, hown, hts, hST⟩ := id B
  unfold fn_Thr_isA_L41 at hf
  refine lv_iconst (v := 0) hx hb zd_Thr_isA_41 (by decide) ?_
  obtain rfl := Option.some.inj hf
  exact zr_zret hx hb hret hlk hP hS rfl zd_Thr_isA_42
set_option maxHeartbeats 4000000 in
theorem zl_Thr_isA_B9 {p : Program} {l : Launch} {e : Env} {s : State} {m : MethodId} {args : Array Value} {below : List Frame} {meth : Method} {c : Code} {D : va_G} {cA : Nat → ClassId} {ad : Nat → Nat} {A : Nat → Prop} (B : zu_B p s m args c zb_Thr_isA 4 "StonePost$Thrower" D cA ad A) (hret : meth.sig.returnType = (some .boolean)) (hlk : meth.locks = false) {X : IX} {Y : LX} {res : Int32} {k9 : Int32 → Int32 → Int32 → Option Int32} (hk9 : ∀ (x1 : Int32) (x2 : Int32) (x3 : Int32) (H : Heap) (locs : List Loc) (ls : Array Slot), va_P D zu_cl (zu_pic cA ad X Y) H → va_S A s.heap H locs → lv_has ls 4 [(1, .int x1), (2, .int x2), (3, .int x3)] → k9 x1 x2 x3 = some res → W p l e zR_Thr_isA s m args below meth c H locs 0 0 (MQ below (zu_Qi D cA ad A res X Y) args s 0 0 A) (F0 m 9 ls [])) (x1 : Int32) (x2 : Int32) (x3 : Int32) (H : Heap) (locs : List Loc) (ls : Array Slot) (hP : va_P D zu_cl (zu_pic cA ad X Y) H) (hS : va_S A s.heap H locs) (hl : lv_has ls 4 [(1, .int x1), (2, .int x2), (3, .int x3)]) (hf : fn_Thr_isA_B9 X k9 x1 x2 x3 = some res) : W p l e zR_Thr_isA s m args below meth c H locs 0 0 (MQ below (zu_Qi D cA ad A res X Y) args s 0 0 A) (F0 m 9 ls []) := by
  obtain ⟨hx, hb, hml, hown, hts, hST⟩ := id B
  unfold fn_Thr_isA_B9 at hf
  refine lv_iload_n hx hb zd_Thr_isA_9 rfl (lv_at hl 2 rfl) ?_
  refine lv_bipush (v := 6) hx hb zd_Thr_isA_10 (by decide) ?_
  refine lv_icmp_gt (tgt := 41) hx hb zd_Thr_isA_12 (by decide) (fun c2 => ?_) (fun c2 => ?_)
  · have hf := zu_t c2 hf
    exact zl_Thr_isA_L41 B hret hlk _ _ _ hP hS (lv_sub hl [] rfl) hf
  · have hf := zu_f c2 hf
    refine lv_iload_n hx hb zd_Thr_isA_15 rfl (lv_at hl 1 rfl) ?_
    obtain ⟨v3, hq4, hf⟩ := zu_b1_e hf
    refine zwN_Post_isKind (rest := []) B hP hS hq4 (hST.2.2.2.2.2.2.2.2.2.2.2.2.2.2) (Nat.le_of_ble_eq_true rfl) (Nat.le_of_ble_eq_true rfl) hl.1 rfl (Nat.le_of_ble_eq_true rfl) zd_Thr_isA_16 (by decide) (fun H locs hP hS => ?_)
    clear hq4
    refine lv_if_eq (tgt := 41) hx hb zd_Thr_isA_19 (by decide) (fun c5 => ?_) (fun c5 => ?_)
    · have hf := zu_t c5 hf
      exact zl_Thr_isA_L41 B hret hlk _ _ _ hP hS (lv_sub hl [] rfl) hf
    · have hf := zu_f c5 hf
      refine lv_iload_n hx hb zd_Thr_isA_22 rfl (lv_at hl 1 rfl) ?_
      refine lv_iload_n hx hb zd_Thr_isA_23 rfl (lv_at hl 0 rfl) ?_
      refine lv_icmp_ne (tgt := 29) hx hb zd_Thr_isA_24 (by decide) (fun c6 => ?_) (fun c6 => ?_)
      · have hf := zu_f c6 hf
        refine va_gets hx hb (hST.2.2.1.2.2.2.2.2.2.1) hS hown (hts _ zq_776) (fun _ h9 => h9) zd_Thr_isA_29 ?_
        refine lv_iload_n hx hb zd_Thr_isA_32 rfl (lv_at hl 1 rfl) ?_
        obtain ⟨hg7, hf⟩ := zu_gd_e hf
        refine va_ti hx hb (hST.2.2.1.2.2.2.2.2.2.2) hS (zu_ib_in hg7) rfl zd_Thr_isA_33 ?_
        refine zr_nxi hf (fun v8 hf => ?_)
        refine lv_istore_n (lv' := [(2, .int v8), (1, .int x1), (3, .int x3)]) hx hb zd_Thr_isA_34 rfl hl (by decide) rfl (fun ls hl => ?_)
        obtain ⟨v9, ev9, hf⟩ := zu_nx_e hf
        refine lv_iinc (v := v9) (lv' := [(3, .int v9), (2, .int v8), (1, .int x1)]) hx hb zd_Thr_isA_35 hl (k := 2) rfl (by rw [ev9]; rfl) (by decide) rfl (fun ls hl => ?_)
        clear ev9
        refine lv_goto (tgt := 9) hx hb zd_Thr_isA_38 (by decide) ?_
        exact hk9 x1 v8 v9 _ _ _ hP hS (lv_sub hl [2, 1, 0] rfl) hf
      · have hf := zu_t c6 hf
        refine lv_iconst (v := 1) hx hb zd_Thr_isA_27 (by decide) ?_
        obtain rfl := Option.some.inj hf
        exact zr_zret hx hb hret hlk hP hS rfl zd_Thr_isA_28
theorem zl_Thr_isA_L9 {p : Program} {l : Launch} {e : Env} {s : State} {m : MethodId} {args : Array Value} {below : List Frame} {meth : Method} {c : Code} {D : va_G} {cA : Nat → ClassId} {ad : Nat → Nat} {A : Nat → Prop} (B : zu_B p s m args c zb_Thr_isA 4 "StonePost$Thrower" D cA ad A) (hret : meth.sig.returnType = (some .boolean)) (hlk : meth.locks = false) {X : IX} {Y : LX} {res : Int32} : ∀ (n : Nat) (x1 : Int32) (x2 : Int32) (x3 : Int32) (H : Heap) (locs : List Loc) (ls : Array Slot), va_P D zu_cl (zu_pic cA ad X Y) H → va_S A s.heap H locs → lv_has ls 4 [(1, .int x1), (2, .int x2), (3, .int x3)] → fn_Thr_isA_L9 X n x1 x2 x3 = some res → W p l e zR_Thr_isA s m args below meth c H locs 0 0 (MQ below (zu_Qi D cA ad A res X Y) args s 0 0 A) (F0 m 9 ls []) := by
  intro n
  induction n with
  | zero =>
    intro x1 x2 x3 H locs ls hP hS hl hf
    exact (Option.some_ne_none _ hf.symm).elim
  | succ n ih =>
    intro x1 x2 x3 H locs ls hP hS hl hf
    exact zl_Thr_isA_B9 B hret hlk ih x1 x2 x3 H locs ls hP hS hl  hf
set_option maxHeartbeats 4000000 in
theorem zl_Thr_isA {p : Program} {l : Launch} {e : Env} {s : State} {m : MethodId} {args : Array Value} {below : List Frame} {meth : Method} {c : Code} {D : va_G} {cA : Nat → ClassId} {ad : Nat → Nat} {A : Nat → Prop} (B : zu_B p s m args c zb_Thr_isA 4 "StonePost$Thrower" D cA ad A) (hret : meth.sig.returnType = (some .boolean)) (hlk : meth.locks = false) {X : IX} {Y : LX} {res : Int32} {r0 : Nat} {a1 : Int32} (H : Heap) (locs : List Loc) (ls : Array Slot) (hP : va_P D zu_cl (zu_pic cA ad X Y) H) (hS : va_S A s.heap H locs) (hl : lv_has ls 4 [(0, .ref (ad r0)), (1, .int a1)]) (hr0 : zu_kd r0 = 6) (hf : fn_Thr_isA X r0 a1 = some res) : W p l e zR_Thr_isA s m args below meth c H locs 0 0 (MQ below (zu_Qi D cA ad A res X Y) args s 0 0 A) (F0 m 0 ls []) := by
  obtain ⟨hx, hb, hml, hown, hts, hST⟩ := id B
  unfold fn_Thr_isA at hf
  refine lv_aload_n hx hb zd_Thr_isA_0 rfl (lv_at hl 0 rfl) ?_
  refine zg_Thr_facts B hP hr0 zq_38 zd_Thr_isA_1 ?_
  refine lv_iconst (v := 0) hx hb zd_Thr_isA_4 (by decide) ?_
  refine zr_iald (j := 0) (by decide) B hP (zk_Thr_facts hr0) (by decide) rfl (by decide) zd_Thr_isA_5 ?_
  refine zr_nxi hf (fun v1 hf => ?_)
  refine lv_istore_n (lv' := [(2, .int v1), (0, .ref (ad r0)), (1, .int a1)]) hx hb zd_Thr_isA_6 rfl hl (by decide) rfl (fun ls hl => ?_)
  refine lv_iconst (v := 0) hx hb zd_Thr_isA_7 (by decide) ?_
  refine lv_istore_n (lv' := [(3, .int (0 : Int32)), (2, .int v1), (0, .ref (ad r0)), (1, .int a1)]) hx hb zd_Thr_isA_8 rfl hl (by decide) rfl (fun ls hl => ?_)
  exact zl_Thr_isA_L9 B hret hlk 400 a1 v1 (0 : Int32) _ _ _ hP hS (lv_sub hl [3, 1, 0] rfl) hf
theorem zC_Thr_isA (l : Launch) {D : va_G} {cA : Nat → ClassId} {ad : Nat → Nat} {A : Nat → Prop} {r0 : Nat} {a1 : Int32} {X : IX} {Y : LX} {res : Int32} (hr0 : zu_kd r0 = 6) (hf : fn_Thr_isA X r0 a1 = some res) : Met l zm_Thr_isA (zu_ws zm_Thr_isA zb_Thr_isA 4 (some .boolean)) zR_Thr_isA (va_Pc [.ref (ad r0), .int a1] (zu_Pre D cA ad A X Y)) (zu_Qi D cA ad A res X Y) 0 0 A := by
  refine Met.ofW (cc := zb_Thr_isA) (maxL := 4) (ret := (some .boolean)) (by decide +kernel) rfl ?_
  intro p e s m args below meth c s₁ B0 hml hv
  obtain ⟨rfl, hP, hST⟩ := hv
  have B : zu_B p s m _ c zb_Thr_isA 4 "StonePost$Thrower" D cA ad A := ⟨B0.exec, B0.bytes, hml, findClass_of_methodNamed B0.named, (fun w hw => atoms_spec (ws := zu_ws zm_Thr_isA zb_Thr_isA 4 (some .boolean)) B0.pre w (List.mem_cons_of_mem _ hw)), hST⟩
  have hl := lv_entry ([.ref (ad r0), .int a1]) (n := 4) (Nat.le_of_ble_eq_true rfl)
  rw [lg_entry_eq]
  generalize (lg_sl ([.ref (ad r0), .int a1]) ++ List.replicate (4 - (lg_sl ([.ref (ad r0), .int a1])).length) Slot.unset).toArray = ls at hl ⊢
  exact zl_Thr_isA B B0.returns B0.notSynchronized s.heap [] ls hP va_S.rf hl hr0 hf
theorem zw_Thr_isA {p : Program} {l : Launch} {e : Env} {R : Room} {s : State} {m : MethodId} {args : Array Value} {below : List Frame} {meth : Method} {c : Code} {H : Heap} {locs : List Loc} {cells slots : Nat} {Q : State → Prop} {cc : ByteArray} {pc nL : Nat} {ls : Array Slot} {rest st0 : List Value} {D : va_G} {cA : Nat → ClassId} {ad : Nat → Nat} {A : Nat → Prop} {X : IX} {Y : LX} {own : String} {index : Nat} {r0 : Nat} {a1 : Int32} {v1 : Int32} (B : zu_B p s m args c cc nL own D cA ad A) (hP : va_P D zu_cl (zu_pic cA ad X Y) H) (hS : va_S A s.heap H locs) (hr0 : zu_kd r0 = 6) (hq : fn_Thr_isA X r0 a1 = some v1) (m1 : Cond.methodLink own index zm_Thr_isA ∈ zu_TB) (hR1 : 2 + 1 ≤ R.frames) (hR2 : 8 + (4 + 11) + 42 ≤ R.locals) (hsz : ls.size = nL) (hst : st0 = .int a1 :: .ref (ad r0) :: rest) (hw : (rest.map fun v => v.category).sum ≤ 8) (hdg : decode cc pc = .ok (.invokevirtual index, 3)) (h00 : cells ≤ R.cells ∧ slots ≤ R.slots) (kk : ∀ (H1 : Heap) (locs1 : List Loc), va_P D zu_cl (zu_pic cA ad X Y) H1 → va_S A s.heap H1 locs1 → W p l e R s m args below meth c H1 locs1 cells slots Q (F0 m (pc + 3) ls (.int v1 :: rest))) : W p l e R s m args below meth c H locs cells slots Q (F0 m pc ls st0) := by
  subst hst
  exact zr_cVi (As := [.int a1]) (rest := rest) (n := 1) (C := "StonePost$Thrower") (T := zt_Thr) (N := 1) B hP hS (zC_Thr_isA l hr0 hq) (K := 6) hr0 (by decide) (by decide) rfl rfl m1 zq_772 zq_773 zq_3 zq_774 (by decide +kernel) ⟨hR1, hR2⟩ rfl rfl rfl hsz rfl hw hdg h00 kk
abbrev zR_Post_as : Room := { frames := 3, cells := 0, slots := 0, locals := 65 }
theorem zd_Post_as_0 : decode zb_Post_as 0 = .ok (.iload_n 1, 1) := by decide +kernel
theorem zd_Post_as_1 : decode zb_Post_as 1 = .ok (.iconst 0, 1) := by decide +kernel
theorem zd_Post_as_2 : decode zb_Post_as 2 = .ok (.bipush 9, 2) := by decide +kernel
theorem zd_Post_as_4 : decode zb_Post_as 4 = .ok (.invokestatic 51, 3) := by decide +kernel
theorem zd_Post_as_7 : decode zb_Post_as 7 = .ok (.ifCond .eq 10, 3) := by decide +kernel
theorem zd_Post_as_10 : decode zb_Post_as 10 = .ok (.iload_n 2, 1) := by decide +kernel
theorem zd_Post_as_11 : decode zb_Post_as 11 = .ok (.invokestatic 70, 3) := by decide +kernel
theorem zd_Post_as_14 : decode zb_Post_as 14 = .ok (.ifCond .ne 10, 3) := by decide +kernel
theorem zd_Post_as_17 : decode zb_Post_as 17 = .ok (.aload_n 0, 1) := by decide +kernel
theorem zd_Post_as_18 : decode zb_Post_as 18 = .ok (.ldc 55, 2) := by decide +kernel
theorem zd_Post_as_20 : decode zb_Post_as 20 = .ok (.invokevirtual 56, 3) := by decide +kernel
theorem zd_Post_as_23 : decode zb_Post_as 23 = .ok (.ireturn, 1) := by decide +kernel
theorem zd_Post_as_24 : decode zb_Post_as 24 = .ok (.aload_n 0, 1) := by decide +kernel
theorem zd_Post_as_25 : decode zb_Post_as 25 = .ok (.getfield 10, 3) := by decide +kernel
theorem zd_Post_as_28 : decode zb_Post_as 28 = .ok (.getfield 246, 3) := by decide +kernel
theorem zd_Post_as_31 : decode zb_Post_as 31 = .ok (.iload_n 1, 1) := by decide +kernel
theorem zd_Post_as_32 : decode zb_Post_as 32 = .ok (.iaload, 1) := by decide +kernel
theorem zd_Post_as_33 : decode zb_Post_as 33 = .ok (.istore_n 3, 1) := by decide +kernel
theorem zd_Post_as_34 : decode zb_Post_as 34 = .ok (.aload_n 0, 1) := by decide +kernel
theorem zd_Post_as_35 : decode zb_Post_as 35 = .ok (.iload_n 3, 1) := by decide +kernel
theorem zd_Post_as_36 : decode zb_Post_as 36 = .ok (.invokevirtual 82, 3) := by decide +kernel
theorem zd_Post_as_39 : decode zb_Post_as 39 = .ok (.ifCond .ne 10, 3) := by decide +kernel
theorem zd_Post_as_42 : decode zb_Post_as 42 = .ok (.aload_n 0, 1) := by decide +kernel
theorem zd_Post_as_43 : decode zb_Post_as 43 = .ok (.ldc 249, 2) := by decide +kernel
theorem zd_Post_as_45 : decode zb_Post_as 45 = .ok (.invokevirtual 56, 3) := by decide +kernel
theorem zd_Post_as_48 : decode zb_Post_as 48 = .ok (.ireturn, 1) := by decide +kernel
theorem zd_Post_as_49 : decode zb_Post_as 49 = .ok (.aload_n 0, 1) := by decide +kernel
theorem zd_Post_as_50 : decode zb_Post_as 50 = .ok (.getfield 10, 3) := by decide +kernel
theorem zd_Post_as_53 : decode zb_Post_as 53 = .ok (.getfield 87, 3) := by decide +kernel
theorem zd_Post_as_56 : decode zb_Post_as 56 = .ok (.iload_n 3, 1) := by decide +kernel
theorem zd_Post_as_57 : decode zb_Post_as 57 = .ok (.aaload, 1) := by decide +kernel
theorem zd_Post_as_58 : decode zb_Post_as 58 = .ok (.iload_n 2, 1) := by decide +kernel
theorem zd_Post_as_59 : decode zb_Post_as 59 = .ok (.invokevirtual 250, 3) := by decide +kernel
theorem zd_Post_as_62 : decode zb_Post_as 62 = .ok (.ifCond .eq 7, 3) := by decide +kernel
theorem zd_Post_as_65 : decode zb_Post_as 65 = .ok (.iload_n 3, 1) := by decide +kernel
theorem zd_Post_as_66 : decode zb_Post_as 66 = .ok (.goto 9, 3) := by decide +kernel
theorem zd_Post_as_69 : decode zb_Post_as 69 = .ok (.aload_n 0, 1) := by decide +kernel
theorem zd_Post_as_70 : decode zb_Post_as 70 = .ok (.ldc 253, 2) := by decide +kernel
theorem zd_Post_as_72 : decode zb_Post_as 72 = .ok (.invokevirtual 56, 3) := by decide +kernel
theorem zd_Post_as_75 : decode zb_Post_as 75 = .ok (.ireturn, 1) := by decide +kernel
set_option maxHeartbeats 4000000 in
theorem zl_Post_as_L75 {p : Program} {l : Launch} {e : Env} {s : State} {m : MethodId} {args : Array Value} {below : List Frame} {meth : Method} {c : Code} {D : va_G} {cA : Nat → ClassId} {ad : Nat → Nat} {A : Nat → Prop} (B : zu_B p s m args c zb_Post_as 4 "StonePost" D cA ad A) (hret : meth.sig.returnType = (some .int)) (hlk : meth.locks = false) {Y : LX} {res : Int32 × IX} (y0 : Int32) (X : IX) (H : Heap) (locs : List Loc) (ls : Array Slot) (hP : va_P D zu_cl (zu_pic cA ad X Y) H) (hS : va_S A s.heap H locs) (hl : lv_has ls 4 []) (hf : fn_Post_as_L75 y0 X = some res) : W p l e zR_Post_as s m args below meth c H locs 0 0 (MQ below (zu_Qi D cA ad A res.1 res.2 Y) args s 0 0 A) (F0 m 75 ls [.int y0]) := by
  obtain ⟨hx, hb, hml, hown, hts, hST⟩ := id B
  unfold fn_Post_as_L75 at hf
  obtain rfl := Option.some.inj hf
  exact zr_iret hx hb hret hlk hP hS zd_Post_as_75
set_option maxHeartbeats 4000000 in
theorem zl_Post_as_L17 {p : Program} {l : Launch} {e : Env} {s : State} {m : MethodId} {args : Array Value} {below : List Frame} {meth : Method} {c : Code} {D : va_G} {cA : Nat → ClassId} {ad : Nat → Nat} {A : Nat → Prop} (B : zu_B p s m args c zb_Post_as 4 "StonePost" D cA ad A) (hret : meth.sig.returnType = (some .int)) (hlk : meth.locks = false) {Y : LX} {res : Int32 × IX} (X : IX) (H : Heap) (locs : List Loc) (ls : Array Slot) (hP : va_P D zu_cl (zu_pic cA ad X Y) H) (hS : va_S A s.heap H locs) (hl : lv_has ls 4 [(0, .ref (ad 0))]) (hf : fn_Post_as_L17 X = some res) : W p l e zR_Post_as s m args below meth c H locs 0 0 (MQ below (zu_Qi D cA ad A res.1 res.2 Y) args s 0 0 A) (F0 m 17 ls []) := by
  obtain ⟨hx, hb, hml, hown, hts, hST⟩ := id B
  unfold fn_Post_as_L17 at hf
  refine lv_aload_n hx hb zd_Post_as_17 rfl (lv_at hl 0 rfl) ?_
  refine lv_ldc (v := -1000001) hx hb hown (hts _ zq_226) zd_Post_as_18 ?_
  obtain ⟨v22, X23, hq24, hf⟩ := zu_b2_e hf
  refine zw_Post_finding (rest := []) B hP hS hq24 zq_227 (Nat.le_of_ble_eq_true rfl) (Nat.le_of_ble_eq_true rfl) hl.1 rfl (Nat.le_of_ble_eq_true rfl) zd_Post_as_20 (by decide) (fun H locs hP hS => ?_)
  clear hq24
  obtain rfl := Option.some.inj hf
  exact zr_iret hx hb hret hlk hP hS zd_Post_as_23
set_option maxHeartbeats 4000000 in
theorem zl_Post_as {p : Program} {l : Launch} {e : Env} {s : State} {m : MethodId} {args : Array Value} {below : List Frame} {meth : Method} {c : Code} {D : va_G} {cA : Nat → ClassId} {ad : Nat → Nat} {A : Nat → Prop} (B : zu_B p s m args c zb_Post_as 4 "StonePost" D cA ad A) (hret : meth.sig.returnType = (some .int)) (hlk : meth.locks = false) {Y : LX} {res : Int32 × IX} {a1 : Int32} {a2 : Int32} {X : IX} (H : Heap) (locs : List Loc) (ls : Array Slot) (hP : va_P D zu_cl (zu_pic cA ad X Y) H) (hS : va_S A s.heap H locs) (hl : lv_has ls 4 [(0, .ref (ad 0)), (1, .int a1), (2, .int a2)]) (hf : fn_Post_as a1 a2 X = some res) : W p l e zR_Post_as s m args below meth c H locs 0 0 (MQ below (zu_Qi D cA ad A res.1 res.2 Y) args s 0 0 A) (F0 m 0 ls []) := by
  obtain ⟨hx, hb, hml, hown, hts, hST⟩ := id B
  unfold fn_Post_as at hf
  refine lv_iload_n hx hb zd_Post_as_0 rfl (lv_at hl 1 rfl) ?_
  refine lv_iconst (v := 0) hx hb zd_Post_as_1 (by decide) ?_
  refine lv_bipush (v := 9) hx hb zd_Post_as_2 (by decide) ?_
  obtain ⟨v1, hq2, hf⟩ := zu_b1_e hf
  refine zw_Post_isWithin (rest := []) B hP hS hq2 zq_223 (Nat.le_of_ble_eq_true rfl) (Nat.le_of_ble_eq_true rfl) hl.1 rfl (Nat.le_of_ble_eq_true rfl) zd_Post_as_4 (by decide) (fun H locs hP hS => ?_)
  clear hq2
  refine lv_if_eq (tgt := 17) hx hb zd_Post_as_7 (by decide) (fun c3 => ?_) (fun c3 => ?_)
  · have hf := zu_t c3 hf
    exact zl_Post_as_L17 B hret hlk X _ _ _ hP hS (lv_sub hl [0] rfl) hf
  · have hf := zu_f c3 hf
    refine lv_iload_n hx hb zd_Post_as_10 rfl (lv_at hl 2 rfl) ?_
    obtain ⟨v4, hq5, hf⟩ := zu_b1_e hf
    refine zw_Post_isKind (rest := []) B hP hS hq5 zq_239 (Nat.le_of_ble_eq_true rfl) (Nat.le_of_ble_eq_true rfl) hl.1 rfl (Nat.le_of_ble_eq_true rfl) zd_Post_as_11 (by decide) (fun H locs hP hS => ?_)
    clear hq5
    refine lv_if_ne (tgt := 24) hx hb zd_Post_as_14 (by decide) (fun c6 => ?_) (fun c6 => ?_)
    · have hf := zu_f c6 hf
      refine lv_aload_n hx hb zd_Post_as_24 rfl (lv_at hl 0 rfl) ?_
      refine zg_Post_land B hP rfl zq_191 zd_Post_as_25 ?_
      refine zg_Land_spots B hP rfl zq_60 zd_Post_as_28 ?_
      refine lv_iload_n hx hb zd_Post_as_31 rfl (lv_at hl 1 rfl) ?_
      obtain ⟨hg7, hf⟩ := zu_gd_e hf
      refine zr_iald rfl B hP (zk_Land_spots rfl) (by decide) rfl hg7 zd_Post_as_32 ?_
      refine zr_nxi hf (fun v8 hf => ?_)
      refine lv_istore_n (lv' := [(3, .int v8), (0, .ref (ad 0)), (1, .int a1), (2, .int a2)]) hx hb zd_Post_as_33 rfl hl (by decide) rfl (fun ls hl => ?_)
      refine lv_aload_n hx hb zd_Post_as_34 rfl (lv_at hl 1 rfl) ?_
      refine lv_iload_n hx hb zd_Post_as_35 rfl (lv_at hl 0 rfl) ?_
      obtain ⟨v9, hq10, hf⟩ := zu_b1_e hf
      refine zw_Post_isThrower (rest := []) B hP hS hq10 zq_265 (Nat.le_of_ble_eq_true rfl) (Nat.le_of_ble_eq_true rfl) hl.1 rfl (Nat.le_of_ble_eq_true rfl) zd_Post_as_36 (by decide) (fun H locs hP hS => ?_)
      clear hq10
      refine lv_if_ne (tgt := 49) hx hb zd_Post_as_39 (by decide) (fun c11 => ?_) (fun c11 => ?_)
      · have hf := zu_f c11 hf
        refine lv_aload_n hx hb zd_Post_as_49 rfl (lv_at hl 1 rfl) ?_
        refine zg_Post_land B hP rfl zq_191 zd_Post_as_50 ?_
        refine zg_Land_throwers B hP rfl zq_55 zd_Post_as_53 ?_
        refine lv_iload_n hx hb zd_Post_as_56 rfl (lv_at hl 0 rfl) ?_
        obtain ⟨hg12, hf⟩ := zu_gd_e hf
        refine zr_thr rfl B hP (zk_Land_throwers rfl) hg12 zd_Post_as_57 ?_
        refine lv_iload_n hx hb zd_Post_as_58 rfl (lv_at hl 3 rfl) ?_
        obtain ⟨v13, hq14, hf⟩ := zu_b1_e hf
        refine zw_Thr_isA (rest := []) B hP hS (zk_thr (zk_Land_throwers rfl) (zu_ib_lt hg12)) hq14 zq_771 (Nat.le_of_ble_eq_true rfl) (Nat.le_of_ble_eq_true rfl) hl.1 rfl (Nat.le_of_ble_eq_true rfl) zd_Post_as_59 (by decide) (fun H locs hP hS => ?_)
        clear hq14
        refine lv_if_eq (tgt := 69) hx hb zd_Post_as_62 (by decide) (fun c15 => ?_) (fun c15 => ?_)
        · have hf := zu_t c15 hf
          refine lv_aload_n hx hb zd_Post_as_69 rfl (lv_at hl 1 rfl) ?_
          refine lv_ldc (v := -1000003) hx hb hown (hts _ zq_778) zd_Post_as_70 ?_
          obtain ⟨v16, X17, hq18, hf⟩ := zu_b2_e hf
          refine zw_Post_finding (rest := []) B hP hS hq18 zq_227 (Nat.le_of_ble_eq_true rfl) (Nat.le_of_ble_eq_true rfl) hl.1 rfl (Nat.le_of_ble_eq_true rfl) zd_Post_as_72 (by decide) (fun H locs hP hS => ?_)
          clear hq18
          exact zl_Post_as_L75 B hret hlk v16 X17 _ _ _ hP hS (lv_sub hl [] rfl) hf
        · have hf := zu_f c15 hf
          refine lv_iload_n hx hb zd_Post_as_65 rfl (lv_at hl 0 rfl) ?_
          refine lv_goto (tgt := 75) hx hb zd_Post_as_66 (by decide) ?_
          exact zl_Post_as_L75 B hret hlk v8 X _ _ _ hP hS (lv_sub hl [] rfl) hf
      · have hf := zu_t c11 hf
        refine lv_aload_n hx hb zd_Post_as_42 rfl (lv_at hl 1 rfl) ?_
        refine lv_ldc (v := -1000006) hx hb hown (hts _ zq_770) zd_Post_as_43 ?_
        obtain ⟨v19, X20, hq21, hf⟩ := zu_b2_e hf
        refine zw_Post_finding (rest := []) B hP hS hq21 zq_227 (Nat.le_of_ble_eq_true rfl) (Nat.le_of_ble_eq_true rfl) hl.1 rfl (Nat.le_of_ble_eq_true rfl) zd_Post_as_45 (by decide) (fun H locs hP hS => ?_)
        clear hq21
        obtain rfl := Option.some.inj hf
        exact zr_iret hx hb hret hlk hP hS zd_Post_as_48
    · have hf := zu_t c6 hf
      exact zl_Post_as_L17 B hret hlk X _ _ _ hP hS (lv_sub hl [0] rfl) hf
theorem zC_Post_as (l : Launch) {D : va_G} {cA : Nat → ClassId} {ad : Nat → Nat} {A : Nat → Prop} {a1 : Int32} {a2 : Int32} {X : IX} {Y : LX} {res : Int32 × IX} (hf : fn_Post_as a1 a2 X = some res) : Met l zm_Post_as (zu_ws zm_Post_as zb_Post_as 4 (some .int)) zR_Post_as (va_Pc [.ref (ad 0), .int a1, .int a2] (zu_Pre D cA ad A X Y)) (zu_Qi D cA ad A res.1 res.2 Y) 0 0 A := by
  refine Met.ofW (cc := zb_Post_as) (maxL := 4) (ret := (some .int)) (by decide +kernel) rfl ?_
  intro p e s m args below meth c s₁ B0 hml hv
  obtain ⟨rfl, hP, hST⟩ := hv
  have B : zu_B p s m _ c zb_Post_as 4 "StonePost" D cA ad A := ⟨B0.exec, B0.bytes, hml, findClass_of_methodNamed B0.named, (fun w hw => atoms_spec (ws := zu_ws zm_Post_as zb_Post_as 4 (some .int)) B0.pre w (List.mem_cons_of_mem _ hw)), hST⟩
  have hl := lv_entry ([.ref (ad 0), .int a1, .int a2]) (n := 4) (Nat.le_of_ble_eq_true rfl)
  rw [lg_entry_eq]
  generalize (lg_sl ([.ref (ad 0), .int a1, .int a2]) ++ List.replicate (4 - (lg_sl ([.ref (ad 0), .int a1, .int a2])).length) Slot.unset).toArray = ls at hl ⊢
  exact zl_Post_as B B0.returns B0.notSynchronized s.heap [] ls hP va_S.rf hl  hf
theorem zw_Post_as {p : Program} {l : Launch} {e : Env} {R : Room} {s : State} {m : MethodId} {args : Array Value} {below : List Frame} {meth : Method} {c : Code} {H : Heap} {locs : List Loc} {cells slots : Nat} {Q : State → Prop} {cc : ByteArray} {pc nL : Nat} {ls : Array Slot} {rest st0 : List Value} {D : va_G} {cA : Nat → ClassId} {ad : Nat → Nat} {A : Nat → Prop} {X : IX} {Y : LX} {own : String} {index : Nat} {a1 : Int32} {a2 : Int32} {v1 : Int32} {X1 : IX} (B : zu_B p s m args c cc nL own D cA ad A) (hP : va_P D zu_cl (zu_pic cA ad X Y) H) (hS : va_S A s.heap H locs) (hq : fn_Post_as a1 a2 X = some (v1, X1)) (m1 : Cond.methodLink own index zm_Post_as ∈ zu_TB) (hR1 : 3 + 1 ≤ R.frames) (hR2 : 8 + (4 + 11) + 65 ≤ R.locals) (hsz : ls.size = nL) (hst : st0 = .int a2 :: .int a1 :: .ref (ad 0) :: rest) (hw : (rest.map fun v => v.category).sum ≤ 8) (hdg : decode cc pc = .ok (.invokevirtual index, 3)) (h00 : cells ≤ R.cells ∧ slots ≤ R.slots) (kk : ∀ (H1 : Heap) (locs1 : List Loc), va_P D zu_cl (zu_pic cA ad X1 Y) H1 → va_S A s.heap H1 locs1 → W p l e R s m args below meth c H1 locs1 cells slots Q (F0 m (pc + 3) ls (.int v1 :: rest))) : W p l e R s m args below meth c H locs cells slots Q (F0 m pc ls st0) := by
  subst hst
  exact zr_cVi (As := [.int a1, .int a2]) (rest := rest) (n := 2) (C := "StonePost") (T := zt_Post) (N := 8) B hP hS (zC_Post_as l  hq) (K := 1) rfl (by decide) (by decide) rfl rfl m1 zq_767 zq_768 zq_1 zq_769 (by decide +kernel) ⟨hR1, hR2⟩ rfl rfl rfl hsz rfl hw hdg h00 kk
abbrev zR_Post_isSheet : Room := { frames := 1, cells := 0, slots := 0, locals := 22 }
theorem zd_Post_isSheet_0 : decode zb_Post_isSheet 0 = .ok (.iload_n 0, 1) := by decide +kernel
theorem zd_Post_isSheet_1 : decode zb_Post_isSheet 1 = .ok (.iconst 0, 1) := by decide +kernel
theorem zd_Post_isSheet_2 : decode zb_Post_isSheet 2 = .ok (.iconst 3, 1) := by decide +kernel
theorem zd_Post_isSheet_3 : decode zb_Post_isSheet 3 = .ok (.invokestatic 51, 3) := by decide +kernel
theorem zd_Post_isSheet_6 : decode zb_Post_isSheet 6 = .ok (.ireturn, 1) := by decide +kernel
set_option maxHeartbeats 4000000 in
theorem zl_Post_isSheet {p : Program} {l : Launch} {e : Env} {s : State} {m : MethodId} {args : Array Value} {below : List Frame} {meth : Method} {c : Code} {D : va_G} {cA : Nat → ClassId} {ad : Nat → Nat} {A : Nat → Prop} (B : zu_B p s m args c zb_Post_isSheet 1 "StonePost" D cA ad A) (hret : meth.sig.returnType = (some .boolean)) (hlk : meth.locks = false) {X : IX} {Y : LX} {res : Int32} {a0 : Int32} (H : Heap) (locs : List Loc) (ls : Array Slot) (hP : va_P D zu_cl (zu_pic cA ad X Y) H) (hS : va_S A s.heap H locs) (hl : lv_has ls 1 [(0, .int a0)]) (hf : fn_Post_isSheet a0 = some res) : W p l e zR_Post_isSheet s m args below meth c H locs 0 0 (MQ below (zu_Qi D cA ad A res X Y) args s 0 0 A) (F0 m 0 ls []) := by
  obtain ⟨hx, hb, hml, hown, hts, hST⟩ := id B
  unfold fn_Post_isSheet at hf
  refine lv_iload_n hx hb zd_Post_isSheet_0 rfl (lv_at hl 0 rfl) ?_
  refine lv_iconst (v := 0) hx hb zd_Post_isSheet_1 (by decide) ?_
  refine lv_iconst (v := 3) hx hb zd_Post_isSheet_2 (by decide) ?_
  obtain ⟨v1, hq2, hf⟩ := zu_b1_e hf
  refine zw_Post_isWithin (rest := []) B hP hS hq2 zq_223 (Nat.le_of_ble_eq_true rfl) (Nat.le_of_ble_eq_true rfl) hl.1 rfl (Nat.le_of_ble_eq_true rfl) zd_Post_isSheet_3 (by decide) (fun H locs hP hS => ?_)
  clear hq2
  obtain ⟨hg3, hf⟩ := zu_gd_e hf
  obtain rfl := Option.some.inj hf
  exact zr_zret hx hb hret hlk hP hS hg3 zd_Post_isSheet_6
theorem zC_Post_isSheet (l : Launch) {D : va_G} {cA : Nat → ClassId} {ad : Nat → Nat} {A : Nat → Prop} {a0 : Int32} {X : IX} {Y : LX} {res : Int32} (hf : fn_Post_isSheet a0 = some res) : Met l zm_Post_isSheet (zu_ws zm_Post_isSheet zb_Post_isSheet 1 (some .boolean)) zR_Post_isSheet (va_Pc [.int a0] (zu_Pre D cA ad A X Y)) (zu_Qi D cA ad A res X Y) 0 0 A := by
  refine Met.ofW (cc := zb_Post_isSheet) (maxL := 1) (ret := (some .boolean)) (by decide +kernel) rfl ?_
  intro p e s m args below meth c s₁ B0 hml hv
  obtain ⟨rfl, hP, hST⟩ := hv
  have B : zu_B p s m _ c zb_Post_isSheet 1 "StonePost" D cA ad A := ⟨B0.exec, B0.bytes, hml, findClass_of_methodNamed B0.named, (fun w hw => atoms_spec (ws := zu_ws zm_Post_isSheet zb_Post_isSheet 1 (some .boolean)) B0.pre w (List.mem_cons_of_mem _ hw)), hST⟩
  have hl := lv_entry ([.int a0]) (n := 1) (Nat.le_of_ble_eq_true rfl)
  rw [lg_entry_eq]
  generalize (lg_sl ([.int a0]) ++ List.replicate (1 - (lg_sl ([.int a0])).length) Slot.unset).toArray = ls at hl ⊢
  exact zl_Post_isSheet B B0.returns B0.notSynchronized s.heap [] ls hP va_S.rf hl  hf
theorem zw_Post_isSheet {p : Program} {l : Launch} {e : Env} {R : Room} {s : State} {m : MethodId} {args : Array Value} {below : List Frame} {meth : Method} {c : Code} {H : Heap} {locs : List Loc} {cells slots : Nat} {Q : State → Prop} {cc : ByteArray} {pc nL : Nat} {ls : Array Slot} {rest st0 : List Value} {D : va_G} {cA : Nat → ClassId} {ad : Nat → Nat} {A : Nat → Prop} {X : IX} {Y : LX} {own : String} {index : Nat} {a0 : Int32} {v1 : Int32} (B : zu_B p s m args c cc nL own D cA ad A) (hP : va_P D zu_cl (zu_pic cA ad X Y) H) (hS : va_S A s.heap H locs) (hq : fn_Post_isSheet a0 = some v1) (m1 : Cond.methodLink own index zm_Post_isSheet ∈ zu_TB) (hR1 : 1 + 1 ≤ R.frames) (hR2 : 8 + (1 + 11) + 22 ≤ R.locals) (hsz : ls.size = nL) (hst : st0 = .int a0 ::  rest) (hw : (rest.map fun v => v.category).sum ≤ 8) (hdg : decode cc pc = .ok (.invokestatic index, 3)) (h00 : cells ≤ R.cells ∧ slots ≤ R.slots) (kk : ∀ (H1 : Heap) (locs1 : List Loc), va_P D zu_cl (zu_pic cA ad X Y) H1 → va_S A s.heap H1 locs1 → W p l e R s m args below meth c H1 locs1 cells slots Q (F0 m (pc + 3) ls (.int v1 :: rest))) : W p l e R s m args below meth c H locs cells slots Q (F0 m pc ls st0) := by
  subst hst
  exact zr_cSi (As := [.int a0]) (rest := rest) (n := 1) B hP hS (zC_Post_isSheet l  hq) m1 zq_784 zq_1 zq_785 (by decide +kernel) ⟨hR1, hR2⟩ rfl rfl rfl hsz rfl hw hdg h00 kk
abbrev zR_Sheet_isWidth : Room := { frames := 0, cells := 0, slots := 0, locals := 0 }
theorem zd_Sheet_isWidth_0 : decode zb_Sheet_isWidth 0 = .ok (.iload_n 0, 1) := by decide +kernel
theorem zd_Sheet_isWidth_1 : decode zb_Sheet_isWidth 1 = .ok (.ifCond .eq 21, 3) := by decide +kernel
theorem zd_Sheet_isWidth_4 : decode zb_Sheet_isWidth 4 = .ok (.iload_n 0, 1) := by decide +kernel
theorem zd_Sheet_isWidth_5 : decode zb_Sheet_isWidth 5 = .ok (.bipush 8, 2) := by decide +kernel
theorem zd_Sheet_isWidth_7 : decode zb_Sheet_isWidth 7 = .ok (.if_icmp .eq 15, 3) := by decide +kernel
theorem zd_Sheet_isWidth_10 : decode zb_Sheet_isWidth 10 = .ok (.iload_n 0, 1) := by decide +kernel
theorem zd_Sheet_isWidth_11 : decode zb_Sheet_isWidth 11 = .ok (.bipush 16, 2) := by decide +kernel
theorem zd_Sheet_isWidth_13 : decode zb_Sheet_isWidth 13 = .ok (.if_icmp .eq 9, 3) := by decide +kernel
theorem zd_Sheet_isWidth_16 : decode zb_Sheet_isWidth 16 = .ok (.iload_n 0, 1) := by decide +kernel
theorem zd_Sheet_isWidth_17 : decode zb_Sheet_isWidth 17 = .ok (.bipush 32, 2) := by decide +kernel
theorem zd_Sheet_isWidth_19 : decode zb_Sheet_isWidth 19 = .ok (.if_icmp .ne 7, 3) := by decide +kernel
theorem zd_Sheet_isWidth_22 : decode zb_Sheet_isWidth 22 = .ok (.iconst 1, 1) := by decide +kernel
theorem zd_Sheet_isWidth_23 : decode zb_Sheet_isWidth 23 = .ok (.goto 4, 3) := by decide +kernel
theorem zd_Sheet_isWidth_26 : decode zb_Sheet_isWidth 26 = .ok (.iconst 0, 1) := by decide +kernel
theorem zd_Sheet_isWidth_27 : decode zb_Sheet_isWidth 27 = .ok (.ireturn, 1) := by decide +kernel
set_option maxHeartbeats 4000000 in
theorem zl_Sheet_isWidth_L27 {p : Program} {l : Launch} {e : Env} {s : State} {m : MethodId} {args : Array Value} {below : List Frame} {meth : Method} {c : Code} {D : va_G} {cA : Nat → ClassId} {ad : Nat → Nat} {A : Nat → Prop} (B : zu_B p s m args c zb_Sheet_isWidth 1 "StonePost$Sheet" D cA ad A) (hret : meth.sig.returnType = (some .boolean)) (hlk : meth.locks = false) {X : IX} {Y : LX} {res : Int32} (y0 : Int32) (H : Heap) (locs : List Loc) (ls : Array Slot) (hP : va_P D zu_cl (zu_pic cA ad X Y) H) (hS : va_S A s.heap H locs) (hl : lv_has ls 1 []) (hf : fn_Sheet_isWidth_L27 y0 = some res) : W p l e zR_Sheet_isWidth s m args below meth c H locs 0 0 (MQ below (zu_Qi D cA ad A res X Y) args s 0 0 A) (F0 m 27 ls [.int y0]) := by
  obtain ⟨hx, hb, hml, hown, hts, hST⟩ := id B
  unfold fn_Sheet_isWidth_L27 at hf
  obtain ⟨hg5, hf⟩ := zu_gd_e hf
  obtain rfl := Option.some.inj hf
  exact zr_zret hx hb hret hlk hP hS hg5 zd_Sheet_isWidth_27
set_option maxHeartbeats 4000000 in
theorem zl_Sheet_isWidth_L22 {p : Program} {l : Launch} {e : Env} {s : State} {m : MethodId} {args : Array Value} {below : List Frame} {meth : Method} {c : Code} {D : va_G} {cA : Nat → ClassId} {ad : Nat → Nat} {A : Nat → Prop} (B : zu_B p s m args c zb_Sheet_isWidth 1 "StonePost$Sheet" D cA ad A) (hret : meth.sig.returnType = (some .boolean)) (hlk : meth.locks = false) {X : IX} {Y : LX} {res : Int32} (H : Heap) (locs : List Loc) (ls : Array Slot) (hP : va_P D zu_cl (zu_pic cA ad X Y) H) (hS : va_S A s.heap H locs) (hl : lv_has ls 1 []) (hf : fn_Sheet_isWidth_L22 = some res) : W p l e zR_Sheet_isWidth s m args below meth c H locs 0 0 (MQ below (zu_Qi D cA ad A res X Y) args s 0 0 A) (F0 m 22 ls []) := by
  obtain ⟨hx, hb, hml, hown, hts, hST⟩ := id B
  unfold fn_Sheet_isWidth_L22 at hf
  refine lv_iconst (v := 1) hx hb zd_Sheet_isWidth_22 (by decide) ?_
  refine lv_goto (tgt := 27) hx hb zd_Sheet_isWidth_23 (by decide) ?_
  exact zl_Sheet_isWidth_L27 B hret hlk (1 : Int32) _ _ _ hP hS (lv_sub hl [] rfl) hf
set_option maxHeartbeats 4000000 in
theorem zl_Sheet_isWidth {p : Program} {l : Launch} {e : Env} {s : State} {m : MethodId} {args : Array Value} {below : List Frame} {meth : Method} {c : Code} {D : va_G} {cA : Nat → ClassId} {ad : Nat → Nat} {A : Nat → Prop} (B : zu_B p s m args c zb_Sheet_isWidth 1 "StonePost$Sheet" D cA ad A) (hret : meth.sig.returnType = (some .boolean)) (hlk : meth.locks = false) {X : IX} {Y : LX} {res : Int32} {a0 : Int32} (H : Heap) (locs : List Loc) (ls : Array Slot) (hP : va_P D zu_cl (zu_pic cA ad X Y) H) (hS : va_S A s.heap H locs) (hl : lv_has ls 1 [(0, .int a0)]) (hf : fn_Sheet_isWidth a0 = some res) : W p l e zR_Sheet_isWidth s m args below meth c H locs 0 0 (MQ below (zu_Qi D cA ad A res X Y) args s 0 0 A) (F0 m 0 ls []) := by
  obtain ⟨hx, hb, hml, hown, hts, hST⟩ := id B
  unfold fn_Sheet_isWidth at hf
  refine lv_iload_n hx hb zd_Sheet_isWidth_0 rfl (lv_at hl 0 rfl) ?_
  refine lv_if_eq (tgt := 22) hx hb zd_Sheet_isWidth_1 (by decide) (fun c1 => ?_) (fun c1 => ?_)
  · have hf := zu_t c1 hf
    exact zl_Sheet_isWidth_L22 B hret hlk _ _ _ hP hS (lv_sub hl [] rfl) hf
  · have hf := zu_f c1 hf
    refine lv_iload_n hx hb zd_Sheet_isWidth_4 rfl (lv_at hl 0 rfl) ?_
    refine lv_bipush (v := 8) hx hb zd_Sheet_isWidth_5 (by decide) ?_
    refine lv_icmp_eq (tgt := 22) hx hb zd_Sheet_isWidth_7 (by decide) (fun c2 => ?_) (fun c2 => ?_)
    · have hf := zu_t c2 hf
      exact zl_Sheet_isWidth_L22 B hret hlk _ _ _ hP hS (lv_sub hl [] rfl) hf
    · have hf := zu_f c2 hf
      refine lv_iload_n hx hb zd_Sheet_isWidth_10 rfl (lv_at hl 0 rfl) ?_
      refine lv_bipush (v := 16) hx hb zd_Sheet_isWidth_11 (by decide) ?_
      refine lv_icmp_eq (tgt := 22) hx hb zd_Sheet_isWidth_13 (by decide) (fun c3 => ?_) (fun c3 => ?_)
      · have hf := zu_t c3 hf
        exact zl_Sheet_isWidth_L22 B hret hlk _ _ _ hP hS (lv_sub hl [] rfl) hf
      · have hf := zu_f c3 hf
        refine lv_iload_n hx hb zd_Sheet_isWidth_16 rfl (lv_at hl 0 rfl) ?_
        refine lv_bipush (v := 32) hx hb zd_Sheet_isWidth_17 (by decide) ?_
        refine lv_icmp_ne (tgt := 26) hx hb zd_Sheet_isWidth_19 (by decide) (fun c4 => ?_) (fun c4 => ?_)
        · have hf := zu_f c4 hf
          refine lv_iconst (v := 0) hx hb zd_Sheet_isWidth_26 (by decide) ?_
          exact zl_Sheet_isWidth_L27 B hret hlk (0 : Int32) _ _ _ hP hS (lv_sub hl [] rfl) hf
        · have hf := zu_t c4 hf
          exact zl_Sheet_isWidth_L22 B hret hlk _ _ _ hP hS (lv_sub hl [] rfl) hf
theorem zC_Sheet_isWidth (l : Launch) {D : va_G} {cA : Nat → ClassId} {ad : Nat → Nat} {A : Nat → Prop} {a0 : Int32} {X : IX} {Y : LX} {res : Int32} (hf : fn_Sheet_isWidth a0 = some res) : Met l zm_Sheet_isWidth (zu_ws zm_Sheet_isWidth zb_Sheet_isWidth 1 (some .boolean)) zR_Sheet_isWidth (va_Pc [.int a0] (zu_Pre D cA ad A X Y)) (zu_Qi D cA ad A res X Y) 0 0 A := by
  refine Met.ofW (cc := zb_Sheet_isWidth) (maxL := 1) (ret := (some .boolean)) (by decide +kernel) rfl ?_
  intro p e s m args below meth c s₁ B0 hml hv
  obtain ⟨rfl, hP, hST⟩ := hv
  have B : zu_B p s m _ c zb_Sheet_isWidth 1 "StonePost$Sheet" D cA ad A := ⟨B0.exec, B0.bytes, hml, findClass_of_methodNamed B0.named, (fun w hw => atoms_spec (ws := zu_ws zm_Sheet_isWidth zb_Sheet_isWidth 1 (some .boolean)) B0.pre w (List.mem_cons_of_mem _ hw)), hST⟩
  have hl := lv_entry ([.int a0]) (n := 1) (Nat.le_of_ble_eq_true rfl)
  rw [lg_entry_eq]
  generalize (lg_sl ([.int a0]) ++ List.replicate (1 - (lg_sl ([.int a0])).length) Slot.unset).toArray = ls at hl ⊢
  exact zl_Sheet_isWidth B B0.returns B0.notSynchronized s.heap [] ls hP va_S.rf hl  hf
theorem zw_Sheet_isWidth {p : Program} {l : Launch} {e : Env} {R : Room} {s : State} {m : MethodId} {args : Array Value} {below : List Frame} {meth : Method} {c : Code} {H : Heap} {locs : List Loc} {cells slots : Nat} {Q : State → Prop} {cc : ByteArray} {pc nL : Nat} {ls : Array Slot} {rest st0 : List Value} {D : va_G} {cA : Nat → ClassId} {ad : Nat → Nat} {A : Nat → Prop} {X : IX} {Y : LX} {own : String} {index : Nat} {a0 : Int32} {v1 : Int32} (B : zu_B p s m args c cc nL own D cA ad A) (hP : va_P D zu_cl (zu_pic cA ad X Y) H) (hS : va_S A s.heap H locs) (hq : fn_Sheet_isWidth a0 = some v1) (m1 : Cond.methodLink own index zm_Sheet_isWidth ∈ zu_TB) (hR1 : 0 + 1 ≤ R.frames) (hR2 : 8 + (1 + 11) + 0 ≤ R.locals) (hsz : ls.size = nL) (hst : st0 = .int a0 ::  rest) (hw : (rest.map fun v => v.category).sum ≤ 8) (hdg : decode cc pc = .ok (.invokestatic index, 3)) (h00 : cells ≤ R.cells ∧ slots ≤ R.slots) (kk : ∀ (H1 : Heap) (locs1 : List Loc), va_P D zu_cl (zu_pic cA ad X Y) H1 → va_S A s.heap H1 locs1 → W p l e R s m args below meth c H1 locs1 cells slots Q (F0 m (pc + 3) ls (.int v1 :: rest))) : W p l e R s m args below meth c H locs cells slots Q (F0 m pc ls st0) := by
  subst hst
  exact zr_cSi (As := [.int a0]) (rest := rest) (n := 1) B hP hS (zC_Sheet_isWidth l  hq) m1 zq_787 zq_7 zq_788 (by decide +kernel) ⟨hR1, hR2⟩ rfl rfl rfl hsz rfl hw hdg h00 kk
