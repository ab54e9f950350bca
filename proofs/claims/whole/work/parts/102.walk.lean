abbrev zR_Land_isRoad : Room := { frames := 0, cells := 0, slots := 0, locals := 0 }
theorem zd_Land_isRoad_0 : decode zb_Land_isRoad 0 = .ok (.aload_n 0, 1) := by decide +kernel
theorem zd_Land_isRoad_1 : decode zb_Land_isRoad 1 = .ok (.getfield 9, 3) := by decide +kernel
theorem zd_Land_isRoad_4 : decode zb_Land_isRoad 4 = .ok (.iload_n 1, 1) := by decide +kernel
theorem zd_Land_isRoad_5 : decode zb_Land_isRoad 5 = .ok (.iaload, 1) := by decide +kernel
theorem zd_Land_isRoad_6 : decode zb_Land_isRoad 6 = .ok (.iconst 3, 1) := by decide +kernel
theorem zd_Land_isRoad_7 : decode zb_Land_isRoad 7 = .ok (.if_icmp .ne 7, 3) := by decide +kernel
theorem zd_Land_isRoad_10 : decode zb_Land_isRoad 10 = .ok (.iconst 1, 1) := by decide +kernel
theorem zd_Land_isRoad_11 : decode zb_Land_isRoad 11 = .ok (.goto 4, 3) := by decide +kernel
theorem zd_Land_isRoad_14 : decode zb_Land_isRoad 14 = .ok (.iconst 0, 1) := by decide +kernel
theorem zd_Land_isRoad_15 : decode zb_Land_isRoad 15 = .ok (.ireturn, 1) := by decide +kernel
set_option maxHeartbeats 4000000 in
theorem zl_Land_isRoad_L15 {p : Program} {l : Launch} {e : Env} {s : State} {m : MethodId} {args : Array Value} {below : List Frame} {meth : Method} {c : Code} {D : va_G} {cA : Nat → ClassId} {ad : Nat → Nat} {A : Nat → Prop} (B : zu_B p s m args c zb_Land_isRoad 2 "StonePost$Land" D cA ad A) (hret : meth.sig.returnType = (some .boolean)) (hlk : meth.locks = false) {X : IX} {Y : LX} {res : Int32} (y0 : Int32) (H : Heap) (locs : List Loc) (ls : Array Slot) (hP : va_P D zu_cl (zu_pic cA ad X Y) H) (hS : va_S A s.heap H locs) (hl : lv_has ls 2 []) (hf : fn_Land_isRoad_L15 X y0 = some res) : W p l e zR_Land_isRoad s m args below meth c H locs 0 0 (MQ below (zu_Qi D cA ad A res X Y) args s 0 0 A) (F0 m 15 ls [.int y0]) := by
  obtain ⟨hx, hb, hml, hown, hts, hST⟩ := id B
  unfold fn_Land_isRoad_L15 at hf
  obtain ⟨hg3, hf⟩ := zu_gd_e hf
  obtain rfl := Option.some.inj hf
  exact zr_zret hx hb hret hlk hP hS hg3 zd_Land_isRoad_15
set_option maxHeartbeats 4000000 in
theorem zl_Land_isRoad {p : Program} {l : Launch} {e : Env} {s : State} {m : MethodId} {args : Array Value} {below : List Frame} {meth : Method} {c : Code} {D : va_G} {cA : Nat → ClassId} {ad : Nat → Nat} {A : Nat → Prop} (B : zu_B p s m args c zb_Land_isRoad 2 "StonePost$Land" D cA ad A) (hret : meth.sig.returnType = (some .boolean)) (hlk : meth.locks = false) {X : IX} {Y : LX} {res : Int32} {r0 : Nat} {a1 : Int32} (H : Heap) (locs : List Loc) (ls : Array Slot) (hP : va_P D zu_cl (zu_pic cA ad X Y) H) (hS : va_S A s.heap H locs) (hl : lv_has ls 2 [(0, .ref (ad r0)), (1, .int a1)]) (hr0 : zu_kd r0 = 5) (hf : fn_Land_isRoad X r0 a1 = some res) : W p l e zR_Land_isRoad s m args below meth c H locs 0 0 (MQ below (zu_Qi D cA ad A res X Y) args s 0 0 A) (F0 m 0 ls []) := by
  obtain ⟨hx, hb, hml, hown, hts, hST⟩ := id B
  unfold fn_Land_isRoad at hf
  refine lv_aload_n hx hb zd_Land_isRoad_0 rfl (lv_at hl 0 rfl) ?_
  refine zg_Land_stuffs B hP hr0 zq_50 zd_Land_isRoad_1 ?_
  refine lv_iload_n hx hb zd_Land_isRoad_4 rfl (lv_at hl 1 rfl) ?_
  obtain ⟨hg1, hf⟩ := zu_gd_e hf
  refine zr_iald rfl B hP (zk_Land_stuffs hr0) (by decide) rfl hg1 zd_Land_isRoad_5 ?_
  refine lv_iconst (v := 3) hx hb zd_Land_isRoad_6 (by decide) ?_
  refine lv_icmp_ne (tgt := 14) hx hb zd_Land_isRoad_7 (by decide) (fun c2 => ?_) (fun c2 => ?_)
  · have hf := zu_f c2 hf
    refine lv_iconst (v := 0) hx hb zd_Land_isRoad_14 (by decide) ?_
    exact zl_Land_isRoad_L15 B hret hlk (0 : Int32) _ _ _ hP hS (lv_sub hl [] rfl) hf
  · have hf := zu_t c2 hf
    refine lv_iconst (v := 1) hx hb zd_Land_isRoad_10 (by decide) ?_
    refine lv_goto (tgt := 15) hx hb zd_Land_isRoad_11 (by decide) ?_
    exact zl_Land_isRoad_L15 B hret hlk (1 : Int32) _ _ _ hP hS (lv_sub hl [] rfl) hf
theorem zC_Land_isRoad (l : Launch) {D : va_G} {cA : Nat → ClassId} {ad : Nat → Nat} {A : Nat → Prop} {r0 : Nat} {a1 : Int32} {X : IX} {Y : LX} {res : Int32} (hr0 : zu_kd r0 = 5) (hf : fn_Land_isRoad X r0 a1 = some res) : Met l zm_Land_isRoad (zu_ws zm_Land_isRoad zb_Land_isRoad 2 (some .boolean)) zR_Land_isRoad (va_Pc [.ref (ad r0), .int a1] (zu_Pre D cA ad A X Y)) (zu_Qi D cA ad A res X Y) 0 0 A := by
  refine Met.ofW (cc := zb_Land_isRoad) (maxL := 2) (ret := (some .boolean)) (by decide +kernel) rfl ?_
  intro p e s m args below meth c s₁ B0 hml hv
  obtain ⟨rfl, hP, hST⟩ := hv
  have B : zu_B p s m _ c zb_Land_isRoad 2 "StonePost$Land" D cA ad A := ⟨B0.exec, B0.bytes, hml, findClass_of_methodNamed B0.named, (fun w hw => atoms_spec (ws := zu_ws zm_Land_isRoad zb_Land_isRoad 2 (some .boolean)) B0.pre w (List.mem_cons_of_mem _ hw)), hST⟩
  have hl := lv_entry ([.ref (ad r0), .int a1]) (n := 2) (Nat.le_of_ble_eq_true rfl)
  rw [lg_entry_eq]
  generalize (lg_sl ([.ref (ad r0), .int a1]) ++ List.replicate (2 - (lg_sl ([.ref (ad r0), .int a1])).length) Slot.unset).toArray = ls at hl ⊢
  exact zl_Land_isRoad B B0.returns B0.notSynchronized s.heap [] ls hP va_S.rf hl hr0 hf
theorem zw_Land_isRoad {p : Program} {l : Launch} {e : Env} {R : Room} {s : State} {m : MethodId} {args : Array Value} {below : List Frame} {meth : Method} {c : Code} {H : Heap} {locs : List Loc} {cells slots : Nat} {Q : State → Prop} {cc : ByteArray} {pc nL : Nat} {ls : Array Slot} {rest st0 : List Value} {D : va_G} {cA : Nat → ClassId} {ad : Nat → Nat} {A : Nat → Prop} {X : IX} {Y : LX} {own : String} {index : Nat} {r0 : Nat} {a1 : Int32} {v1 : Int32} (B : zu_B p s m args c cc nL own D cA ad A) (hP : va_P D zu_cl (zu_pic cA ad X Y) H) (hS : va_S A s.heap H locs) (hr0 : zu_kd r0 = 5) (hq : fn_Land_isRoad X r0 a1 = some v1) (m1 : Cond.methodLink own index zm_Land_isRoad ∈ zu_TB) (hR1 : 0 + 1 ≤ R.frames) (hR2 : 8 + (2 + 11) + 0 ≤ R.locals) (hsz : ls.size = nL) (hst : st0 = .int a1 :: .ref (ad r0) :: rest) (hw : (rest.map fun v => v.category).sum ≤ 8) (hdg : decode cc pc = .ok (.invokevirtual index, 3)) (h00 : cells ≤ R.cells ∧ slots ≤ R.slots) (kk : ∀ (H1 : Heap) (locs1 : List Loc), va_P D zu_cl (zu_pic cA ad X Y) H1 → va_S A s.heap H1 locs1 → W p l e R s m args below meth c H1 locs1 cells slots Q (F0 m (pc + 3) ls (.int v1 :: rest))) : W p l e R s m args below meth c H locs cells slots Q (F0 m pc ls st0) := by
  subst hst
  exact zr_cVi (As := [.int a1]) (rest := rest) (n := 1) (C := "StonePost$Land") (T := zt_Land) (N := 10) B hP hS (zC_Land_isRoad l hr0 hq) (K := 5) hr0 (by decide) (by decide) rfl rfl m1 zq_401 zq_402 zq_2 zq_403 (by decide +kernel) ⟨hR1, hR2⟩ rfl rfl rfl hsz rfl hw hdg h00 kk
abbrev zR_Chart_unfetchedCell : Room := { frames := 2, cells := 0, slots := 0, locals := 42 }
theorem zd_Chart_unfetchedCell_0 : decode zb_Chart_unfetchedCell 0 = .ok (.aload_n 1, 1) := by decide +kernel
theorem zd_Chart_unfetchedCell_1 : decode zb_Chart_unfetchedCell 1 = .ok (.iload_n 2, 1) := by decide +kernel
theorem zd_Chart_unfetchedCell_2 : decode zb_Chart_unfetchedCell 2 = .ok (.invokevirtual 82, 3) := by decide +kernel
theorem zd_Chart_unfetchedCell_5 : decode zb_Chart_unfetchedCell 5 = .ok (.ifCond .ne 11, 3) := by decide +kernel
theorem zd_Chart_unfetchedCell_8 : decode zb_Chart_unfetchedCell 8 = .ok (.aload_n 1, 1) := by decide +kernel
theorem zd_Chart_unfetchedCell_9 : decode zb_Chart_unfetchedCell 9 = .ok (.iload_n 2, 1) := by decide +kernel
theorem zd_Chart_unfetchedCell_10 : decode zb_Chart_unfetchedCell 10 = .ok (.invokevirtual 85, 3) := by decide +kernel
theorem zd_Chart_unfetchedCell_13 : decode zb_Chart_unfetchedCell 13 = .ok (.ifCond .ne 5, 3) := by decide +kernel
theorem zd_Chart_unfetchedCell_16 : decode zb_Chart_unfetchedCell 16 = .ok (.iload_n 2, 1) := by decide +kernel
theorem zd_Chart_unfetchedCell_17 : decode zb_Chart_unfetchedCell 17 = .ok (.ireturn, 1) := by decide +kernel
theorem zd_Chart_unfetchedCell_18 : decode zb_Chart_unfetchedCell 18 = .ok (.iload_n 2, 1) := by decide +kernel
theorem zd_Chart_unfetchedCell_19 : decode zb_Chart_unfetchedCell 19 = .ok (.aload_n 1, 1) := by decide +kernel
theorem zd_Chart_unfetchedCell_20 : decode zb_Chart_unfetchedCell 20 = .ok (.getfield 45, 3) := by decide +kernel
theorem zd_Chart_unfetchedCell_23 : decode zb_Chart_unfetchedCell 23 = .ok (.if_icmp .ge 9, 3) := by decide +kernel
theorem zd_Chart_unfetchedCell_26 : decode zb_Chart_unfetchedCell 26 = .ok (.iload_n 2, 1) := by decide +kernel
theorem zd_Chart_unfetchedCell_27 : decode zb_Chart_unfetchedCell 27 = .ok (.iconst 1, 1) := by decide +kernel
theorem zd_Chart_unfetchedCell_28 : decode zb_Chart_unfetchedCell 28 = .ok (.iadd, 1) := by decide +kernel
theorem zd_Chart_unfetchedCell_29 : decode zb_Chart_unfetchedCell 29 = .ok (.goto 6, 3) := by decide +kernel
theorem zd_Chart_unfetchedCell_32 : decode zb_Chart_unfetchedCell 32 = .ok (.iload_n 2, 1) := by decide +kernel
theorem zd_Chart_unfetchedCell_33 : decode zb_Chart_unfetchedCell 33 = .ok (.iconst 1, 1) := by decide +kernel
theorem zd_Chart_unfetchedCell_34 : decode zb_Chart_unfetchedCell 34 = .ok (.isub, 1) := by decide +kernel
theorem zd_Chart_unfetchedCell_35 : decode zb_Chart_unfetchedCell 35 = .ok (.ireturn, 1) := by decide +kernel
set_option maxHeartbeats 4000000 in
theorem zl_Chart_unfetchedCell_L35 {p : Program} {l : Launch} {e : Env} {s : State} {m : MethodId} {args : Array Value} {below : List Frame} {meth : Method} {c : Code} {D : va_G} {cA : Nat → ClassId} {ad : Nat → Nat} {A : Nat → Prop} (B : zu_B p s m args c zb_Chart_unfetchedCell 3 "StonePost$Chart" D cA ad A) (hret : meth.sig.returnType = (some .int)) (hlk : meth.locks = false) {X : IX} {Y : LX} {res : Int32} (y0 : Int32) (H : Heap) (locs : List Loc) (ls : Array Slot) (hP : va_P D zu_cl (zu_pic cA ad X Y) H) (hS : va_S A s.heap H locs) (hl : lv_has ls 3 []) (hf : fn_Chart_unfetchedCell_L35 X y0 = some res) : W p l e zR_Chart_unfetchedCell s m args below meth c H locs 0 0 (MQ below (zu_Qi D cA ad A res X Y) args s 0 0 A) (F0 m 35 ls [.int y0]) := by
  obtain ⟨hx, hb, hml, hown, hts, hST⟩ := id B
  unfold fn_Chart_unfetchedCell_L35 at hf
  obtain rfl := Option.some.inj hf
  exact zr_iret hx hb hret hlk hP hS zd_Chart_unfetchedCell_35
set_option maxHeartbeats 4000000 in
theorem zl_Chart_unfetchedCell_L16 {p : Program} {l : Launch} {e : Env} {s : State} {m : MethodId} {args : Array Value} {below : List Frame} {meth : Method} {c : Code} {D : va_G} {cA : Nat → ClassId} {ad : Nat → Nat} {A : Nat → Prop} (B : zu_B p s m args c zb_Chart_unfetchedCell 3 "StonePost$Chart" D cA ad A) (hret : meth.sig.returnType = (some .int)) (hlk : meth.locks = false) {X : IX} {Y : LX} {res : Int32} (x2 : Int32) (H : Heap) (locs : List Loc) (ls : Array Slot) (hP : va_P D zu_cl (zu_pic cA ad X Y) H) (hS : va_S A s.heap H locs) (hl : lv_has ls 3 [(2, .int x2)]) (hf : fn_Chart_unfetchedCell_L16 X x2 = some res) : W p l e zR_Chart_unfetchedCell s m args below meth c H locs 0 0 (MQ below (zu_Qi D cA ad A res X Y) args s 0 0 A) (F0 m 16 ls []) := by
  obtain ⟨hx, hb, hml, hown, hts, hST⟩ := id B
  unfold fn_Chart_unfetchedCell_L16 at hf
  refine lv_iload_n hx hb zd_Chart_unfetchedCell_16 rfl (lv_at hl 0 rfl) ?_
  obtain rfl := Option.some.inj hf
  exact zr_iret hx hb hret hlk hP hS zd_Chart_unfetchedCell_17
set_option maxHeartbeats 4000000 in
theorem zl_Chart_unfetchedCell {p : Program} {l : Launch} {e : Env} {s : State} {m : MethodId} {args : Array Value} {below : List Frame} {meth : Method} {c : Code} {D : va_G} {cA : Nat → ClassId} {ad : Nat → Nat} {A : Nat → Prop} (B : zu_B p s m args c zb_Chart_unfetchedCell 3 "StonePost$Chart" D cA ad A) (hret : meth.sig.returnType = (some .int)) (hlk : meth.locks = false) {X : IX} {Y : LX} {res : Int32} {r1 : Nat} {a2 : Int32} (H : Heap) (locs : List Loc) (ls : Array Slot) (hP : va_P D zu_cl (zu_pic cA ad X Y) H) (hS : va_S A s.heap H locs) (hl : lv_has ls 3 [(0, .ref (ad 1)), (1, .ref (ad r1)), (2, .int a2)]) (hr1 : zu_kd r1 = 5) (hf : fn_Chart_unfetchedCell X r1 a2 = some res) : W p l e zR_Chart_unfetchedCell s m args below meth c H locs 0 0 (MQ below (zu_Qi D cA ad A res X Y) args s 0 0 A) (F0 m 0 ls []) := by
  obtain ⟨hx, hb, hml, hown, hts, hST⟩ := id B
  unfold fn_Chart_unfetchedCell at hf
  refine lv_aload_n hx hb zd_Chart_unfetchedCell_0 rfl (lv_at hl 1 rfl) ?_
  refine lv_iload_n hx hb zd_Chart_unfetchedCell_1 rfl (lv_at hl 2 rfl) ?_
  obtain ⟨v1, hq2, hf⟩ := zu_b1_e hf
  refine zw_Land_staysOn (rest := []) B hP hS hr1 hq2 zq_399 (Nat.le_of_ble_eq_true rfl) (Nat.le_of_ble_eq_true rfl) hl.1 rfl (Nat.le_of_ble_eq_true rfl) zd_Chart_unfetchedCell_2 (by decide) (fun H locs hP hS => ?_)
  clear hq2
  refine lv_if_ne (tgt := 16) hx hb zd_Chart_unfetchedCell_5 (by decide) (fun c3 => ?_) (fun c3 => ?_)
  · have hf := zu_f c3 hf
    exact zl_Chart_unfetchedCell_L16 B hret hlk a2 _ _ _ hP hS (lv_sub hl [2] rfl) hf
  · have hf := zu_t c3 hf
    refine lv_aload_n hx hb zd_Chart_unfetchedCell_8 rfl (lv_at hl 1 rfl) ?_
    refine lv_iload_n hx hb zd_Chart_unfetchedCell_9 rfl (lv_at hl 2 rfl) ?_
    obtain ⟨v4, hq5, hf⟩ := zu_b1_e hf
    refine zw_Land_isRoad (rest := []) B hP hS hr1 hq5 zq_400 (Nat.le_of_ble_eq_true rfl) (Nat.le_of_ble_eq_true rfl) hl.1 rfl (Nat.le_of_ble_eq_true rfl) zd_Chart_unfetchedCell_10 (by decide) (fun H locs hP hS => ?_)
    clear hq5
    refine lv_if_ne (tgt := 18) hx hb zd_Chart_unfetchedCell_13 (by decide) (fun c6 => ?_) (fun c6 => ?_)
    · have hf := zu_f c6 hf
      refine lv_iload_n hx hb zd_Chart_unfetchedCell_18 rfl (lv_at hl 2 rfl) ?_
      refine lv_aload_n hx hb zd_Chart_unfetchedCell_19 rfl (lv_at hl 1 rfl) ?_
      refine zg_Land_home B hP hr1 zq_68 zd_Chart_unfetchedCell_20 ?_
      refine lv_icmp_ge (tgt := 32) hx hb zd_Chart_unfetchedCell_23 (by decide) (fun c7 => ?_) (fun c7 => ?_)
      · have hf := zu_t c7 hf
        refine lv_iload_n hx hb zd_Chart_unfetchedCell_32 rfl (lv_at hl 2 rfl) ?_
        refine lv_iconst (v := 1) hx hb zd_Chart_unfetchedCell_33 (by decide) ?_
        refine lv_isub hx hb zd_Chart_unfetchedCell_34 ?_
        exact zl_Chart_unfetchedCell_L35 B hret hlk (a2 - (1 : Int32)) _ _ _ hP hS (lv_sub hl [] rfl) hf
      · have hf := zu_f c7 hf
        refine lv_iload_n hx hb zd_Chart_unfetchedCell_26 rfl (lv_at hl 2 rfl) ?_
        refine lv_iconst (v := 1) hx hb zd_Chart_unfetchedCell_27 (by decide) ?_
        refine lv_iadd hx hb zd_Chart_unfetchedCell_28 ?_
        refine lv_goto (tgt := 35) hx hb zd_Chart_unfetchedCell_29 (by decide) ?_
        exact zl_Chart_unfetchedCell_L35 B hret hlk (a2 + (1 : Int32)) _ _ _ hP hS (lv_sub hl [] rfl) hf
    · have hf := zu_t c6 hf
      exact zl_Chart_unfetchedCell_L16 B hret hlk a2 _ _ _ hP hS (lv_sub hl [2] rfl) hf
theorem zC_Chart_unfetchedCell (l : Launch) {D : va_G} {cA : Nat → ClassId} {ad : Nat → Nat} {A : Nat → Prop} {r1 : Nat} {a2 : Int32} {X : IX} {Y : LX} {res : Int32} (hr1 : zu_kd r1 = 5) (hf : fn_Chart_unfetchedCell X r1 a2 = some res) : Met l zm_Chart_unfetchedCell (zu_ws zm_Chart_unfetchedCell zb_Chart_unfetchedCell 3 (some .int)) zR_Chart_unfetchedCell (va_Pc [.ref (ad 1), .ref (ad r1), .int a2] (zu_Pre D cA ad A X Y)) (zu_Qi D cA ad A res X Y) 0 0 A := by
  refine Met.ofW (cc := zb_Chart_unfetchedCell) (maxL := 3) (ret := (some .int)) (by decide +kernel) rfl ?_
  intro p e s m args below meth c s₁ B0 hml hv
  obtain ⟨rfl, hP, hST⟩ := hv
  have B : zu_B p s m _ c zb_Chart_unfetchedCell 3 "StonePost$Chart" D cA ad A := ⟨B0.exec, B0.bytes, hml, findClass_of_methodNamed B0.named, (fun w hw => atoms_spec (ws := zu_ws zm_Chart_unfetchedCell zb_Chart_unfetchedCell 3 (some .int)) B0.pre w (List.mem_cons_of_mem _ hw)), hST⟩
  have hl := lv_entry ([.ref (ad 1), .ref (ad r1), .int a2]) (n := 3) (Nat.le_of_ble_eq_true rfl)
  rw [lg_entry_eq]
  generalize (lg_sl ([.ref (ad 1), .ref (ad r1), .int a2]) ++ List.replicate (3 - (lg_sl ([.ref (ad 1), .ref (ad r1), .int a2])).length) Slot.unset).toArray = ls at hl ⊢
  exact zl_Chart_unfetchedCell B B0.returns B0.notSynchronized s.heap [] ls hP va_S.rf hl hr1 hf
theorem zw_Chart_unfetchedCell {p : Program} {l : Launch} {e : Env} {R : Room} {s : State} {m : MethodId} {args : Array Value} {below : List Frame} {meth : Method} {c : Code} {H : Heap} {locs : List Loc} {cells slots : Nat} {Q : State → Prop} {cc : ByteArray} {pc nL : Nat} {ls : Array Slot} {rest st0 : List Value} {D : va_G} {cA : Nat → ClassId} {ad : Nat → Nat} {A : Nat → Prop} {X : IX} {Y : LX} {own : String} {index : Nat} {r1 : Nat} {a2 : Int32} {v1 : Int32} (B : zu_B p s m args c cc nL own D cA ad A) (hP : va_P D zu_cl (zu_pic cA ad X Y) H) (hS : va_S A s.heap H locs) (hr1 : zu_kd r1 = 5) (hq : fn_Chart_unfetchedCell X r1 a2 = some v1) (m1 : Cond.methodLink own index zm_Chart_unfetchedCell ∈ zu_TB) (hR1 : 2 + 1 ≤ R.frames) (hR2 : 8 + (3 + 11) + 42 ≤ R.locals) (hsz : ls.size = nL) (hst : st0 = .int a2 :: .ref (ad r1) :: .ref (ad 1) :: rest) (hw : (rest.map fun v => v.category).sum ≤ 8) (hdg : decode cc pc = .ok (.invokevirtual index, 3)) (h00 : cells ≤ R.cells ∧ slots ≤ R.slots) (kk : ∀ (H1 : Heap) (locs1 : List Loc), va_P D zu_cl (zu_pic cA ad X Y) H1 → va_S A s.heap H1 locs1 → W p l e R s m args below meth c H1 locs1 cells slots Q (F0 m (pc + 3) ls (.int v1 :: rest))) : W p l e R s m args below meth c H locs cells slots Q (F0 m pc ls st0) := by
  subst hst
  exact zr_cVi (As := [.ref (ad r1), .int a2]) (rest := rest) (n := 2) (C := "StonePost$Chart") (T := zt_Chart) (N := 9) B hP hS (zC_Chart_unfetchedCell l hr1 hq) (K := 2) rfl (by decide) (by decide) rfl rfl m1 zq_397 zqP_7 zq_5 zq_398 (by decide +kernel) ⟨hR1, hR2⟩ rfl rfl rfl hsz rfl hw hdg h00 kk
abbrev zR_Chart_layPlain : Room := { frames := 0, cells := 0, slots := 0, locals := 0 }
theorem zd_Chart_layPlain_0 : decode zb_Chart_layPlain 0 = .ok (.iload_n 1, 1) := by decide +kernel
theorem zd_Chart_layPlain_1 : decode zb_Chart_layPlain 1 = .ok (.istore 4, 2) := by decide +kernel
theorem zd_Chart_layPlain_3 : decode zb_Chart_layPlain 3 = .ok (.iload 4, 2) := by decide +kernel
theorem zd_Chart_layPlain_5 : decode zb_Chart_layPlain 5 = .ok (.bipush 96, 2) := by decide +kernel
theorem zd_Chart_layPlain_7 : decode zb_Chart_layPlain 7 = .ok (.if_icmp .ge 33, 3) := by decide +kernel
theorem zd_Chart_layPlain_10 : decode zb_Chart_layPlain 10 = .ok (.aload_n 0, 1) := by decide +kernel
theorem zd_Chart_layPlain_11 : decode zb_Chart_layPlain 11 = .ok (.getfield 11, 3) := by decide +kernel
theorem zd_Chart_layPlain_14 : decode zb_Chart_layPlain 14 = .ok (.iload 4, 2) := by decide +kernel
theorem zd_Chart_layPlain_16 : decode zb_Chart_layPlain 16 = .ok (.iload_n 2, 1) := by decide +kernel
theorem zd_Chart_layPlain_17 : decode zb_Chart_layPlain 17 = .ok (.iastore, 1) := by decide +kernel
theorem zd_Chart_layPlain_18 : decode zb_Chart_layPlain 18 = .ok (.aload_n 0, 1) := by decide +kernel
theorem zd_Chart_layPlain_19 : decode zb_Chart_layPlain 19 = .ok (.getfield 15, 3) := by decide +kernel
theorem zd_Chart_layPlain_22 : decode zb_Chart_layPlain 22 = .ok (.iload 4, 2) := by decide +kernel
theorem zd_Chart_layPlain_24 : decode zb_Chart_layPlain 24 = .ok (.iload_n 1, 1) := by decide +kernel
theorem zd_Chart_layPlain_25 : decode zb_Chart_layPlain 25 = .ok (.iastore, 1) := by decide +kernel
theorem zd_Chart_layPlain_26 : decode zb_Chart_layPlain 26 = .ok (.aload_n 0, 1) := by decide +kernel
theorem zd_Chart_layPlain_27 : decode zb_Chart_layPlain 27 = .ok (.getfield 18, 3) := by decide +kernel
theorem zd_Chart_layPlain_30 : decode zb_Chart_layPlain 30 = .ok (.iload 4, 2) := by decide +kernel
theorem zd_Chart_layPlain_32 : decode zb_Chart_layPlain 32 = .ok (.iload_n 3, 1) := by decide +kernel
theorem zd_Chart_layPlain_33 : decode zb_Chart_layPlain 33 = .ok (.iastore, 1) := by decide +kernel
theorem zd_Chart_layPlain_34 : decode zb_Chart_layPlain 34 = .ok (.iinc 4 24, 3) := by decide +kernel
theorem zd_Chart_layPlain_37 : decode zb_Chart_layPlain 37 = .ok (.goto (-34), 3) := by decide +kernel
theorem zd_Chart_layPlain_40 : decode zb_Chart_layPlain 40 = .ok (.return_, 1) := by decide +kernel
set_option maxHeartbeats 4000000 in
theorem zl_Chart_layPlain_B3 {p : Program} {l : Launch} {e : Env} {s : State} {m : MethodId} {args : Array Value} {below : List Frame} {meth : Method} {c : Code} {D : va_G} {cA : Nat → ClassId} {ad : Nat → Nat} {A : Nat → Prop} (B : zu_B p s m args c zb_Chart_layPlain 5 "StonePost$Chart" D cA ad A) (hret : meth.sig.returnType = none) (hlk : meth.locks = false) {Y : LX} {res : IX} {k3 : Int32 → Int32 → Int32 → Int32 → IX → Option IX} (hk3 : ∀ (x1 : Int32) (x2 : Int32) (x3 : Int32) (x4 : Int32) (X : IX) (H : Heap) (locs : List Loc) (ls : Array Slot), va_P D zu_cl (zu_pic cA ad X Y) H → va_S A s.heap H locs → lv_has ls 5 [(0, .ref (ad 1)), (1, .int x1), (2, .int x2), (3, .int x3), (4, .int x4)] → k3 x1 x2 x3 x4 X = some res → W p l e zR_Chart_layPlain s m args below meth c H locs 0 0 (MQ below (zu_Qv D cA ad A res Y) args s 0 0 A) (F0 m 3 ls [])) (x1 : Int32) (x2 : Int32) (x3 : Int32) (x4 : Int32) (X : IX) (H : Heap) (locs : List Loc) (ls : Array Slot) (hP : va_P D zu_cl (zu_pic cA ad X Y) H) (hS : va_S A s.heap H locs) (hl : lv_has ls 5 [(0, .ref (ad 1)), (1, .int x1), (2, .int x2), (3, .int x3), (4, .int x4)]) (hf : fn_Chart_layPlain_B3 k3 x1 x2 x3 x4 X = some res) : W p l e zR_Chart_layPlain s m args below meth c H locs 0 0 (MQ below (zu_Qv D cA ad A res Y) args s 0 0 A) (F0 m 3 ls []) := by
  obtain ⟨hx, hb, hml, hown, hts, hST⟩ := id B
  unfold fn_Chart_layPlain_B3 at hf
  refine lv_iload hx hb zd_Chart_layPlain_3 (lv_at hl 4 rfl) ?_
  refine lv_bipush (v := 96) hx hb zd_Chart_layPlain_5 (by decide) ?_
  refine lv_icmp_ge (tgt := 40) hx hb zd_Chart_layPlain_7 (by decide) (fun c1 => ?_) (fun c1 => ?_)
  · have hf := zu_t c1 hf
    obtain rfl := Option.some.inj hf
    exact zr_vret hx hb hret hlk hP hS zd_Chart_layPlain_40
  · have hf := zu_f c1 hf
    refine lv_aload_n hx hb zd_Chart_layPlain_10 rfl (lv_at hl 0 rfl) ?_
    refine zg_Chart_first B hP rfl zq_106 zd_Chart_layPlain_11 ?_
    refine lv_iload hx hb zd_Chart_layPlain_14 (lv_at hl 4 rfl) ?_
    refine lv_iload_n hx hb zd_Chart_layPlain_16 rfl (lv_at hl 2 rfl) ?_
    obtain ⟨hg2, hf⟩ := zu_gd_e hf
    refine zr_iast rfl B hP hS hf rfl (by decide) rfl hg2 zd_Chart_layPlain_17 (fun X3 H locs hf hP hS => ?_)
    refine lv_aload_n hx hb zd_Chart_layPlain_18 rfl (lv_at hl 0 rfl) ?_
    refine zg_Chart_second B hP rfl zq_108 zd_Chart_layPlain_19 ?_
    refine lv_iload hx hb zd_Chart_layPlain_22 (lv_at hl 4 rfl) ?_
    refine lv_iload_n hx hb zd_Chart_layPlain_24 rfl (lv_at hl 1 rfl) ?_
    obtain ⟨hg4, hf⟩ := zu_gd_e hf
    refine zr_iast rfl B hP hS hf rfl (by decide) rfl hg4 zd_Chart_layPlain_25 (fun X5 H locs hf hP hS => ?_)
    refine lv_aload_n hx hb zd_Chart_layPlain_26 rfl (lv_at hl 0 rfl) ?_
    refine zg_Chart_twelfths B hP rfl zq_110 zd_Chart_layPlain_27 ?_
    refine lv_iload hx hb zd_Chart_layPlain_30 (lv_at hl 4 rfl) ?_
    refine lv_iload_n hx hb zd_Chart_layPlain_32 rfl (lv_at hl 3 rfl) ?_
    obtain ⟨hg6, hf⟩ := zu_gd_e hf
    refine zr_iast rfl B hP hS hf rfl (by decide) rfl hg6 zd_Chart_layPlain_33 (fun X7 H locs hf hP hS => ?_)
    obtain ⟨v8, ev8, hf⟩ := zu_nx_e hf
    refine lv_iinc (v := v8) (lv' := [(4, .int v8), (0, .ref (ad 1)), (1, .int x1), (2, .int x2), (3, .int x3)]) hx hb zd_Chart_layPlain_34 hl (k := 4) rfl (by rw [ev8]; rfl) (by decide) rfl (fun ls hl => ?_)
    clear ev8
    refine lv_goto (tgt := 3) hx hb zd_Chart_layPlain_37 (by decide) ?_
    exact hk3 x1 x2 x3 v8 X7 _ _ _ hP hS (lv_sub hl [1, 2, 3, 4, 0] rfl) hf
theorem zl_Chart_layPlain_L3 {p : Program} {l : Launch} {e : Env} {s : State} {m : MethodId} {args : Array Value} {below : List Frame} {meth : Method} {c : Code} {D : va_G} {cA : Nat → ClassId} {ad : Nat → Nat} {A : Nat → Prop} (B : zu_B p s m args c zb_Chart_layPlain 5 "StonePost$Chart" D cA ad A) (hret : meth.sig.returnType = none) (hlk : meth.locks = false) {Y : LX} {res : IX} : ∀ (n : Nat) (x1 : Int32) (x2 : Int32) (x3 : Int32) (x4 : Int32) (X : IX) (H : Heap) (locs : List Loc) (ls : Array Slot), va_P D zu_cl (zu_pic cA ad X Y) H → va_S A s.heap H locs → lv_has ls 5 [(0, .ref (ad 1)), (1, .int x1), (2, .int x2), (3, .int x3), (4, .int x4)] → fn_Chart_layPlain_L3 n x1 x2 x3 x4 X = some res → W p l e zR_Chart_layPlain s m args below meth c H locs 0 0 (MQ below (zu_Qv D cA ad A res Y) args s 0 0 A) (F0 m 3 ls []) := by
  intro n
  induction n with
  | zero =>
    intro x1 x2 x3 x4 X H locs ls hP hS hl hf
    exact (Option.some_ne_none _ hf.symm).elim
  | succ n ih =>
    intro x1 x2 x3 x4 X H locs ls hP hS hl hf
    exact zl_Chart_layPlain_B3 B hret hlk ih x1 x2 x3 x4 X H locs ls hP hS hl  hf
set_option maxHeartbeats 4000000 in
theorem zl_Chart_layPlain {p : Program} {l : Launch} {e : Env} {s : State} {m : MethodId} {args : Array Value} {below : List Frame} {meth : Method} {c : Code} {D : va_G} {cA : Nat → ClassId} {ad : Nat → Nat} {A : Nat → Prop} (B : zu_B p s m args c zb_Chart_layPlain 5 "StonePost$Chart" D cA ad A) (hret : meth.sig.returnType = none) (hlk : meth.locks = false) {Y : LX} {res : IX} {a1 : Int32} {a2 : Int32} {a3 : Int32} {X : IX} (H : Heap) (locs : List Loc) (ls : Array Slot) (hP : va_P D zu_cl (zu_pic cA ad X Y) H) (hS : va_S A s.heap H locs) (hl : lv_has ls 5 [(0, .ref (ad 1)), (1, .int a1), (2, .int a2), (3, .int a3)]) (hf : fn_Chart_layPlain a1 a2 a3 X = some res) : W p l e zR_Chart_layPlain s m args below meth c H locs 0 0 (MQ below (zu_Qv D cA ad A res Y) args s 0 0 A) (F0 m 0 ls []) := by
  obtain ⟨hx, hb, hml, hown, hts, hST⟩ := id B
  unfold fn_Chart_layPlain at hf
  refine lv_iload_n hx hb zd_Chart_layPlain_0 rfl (lv_at hl 1 rfl) ?_
  refine lv_istore (lv' := [(4, .int a1), (0, .ref (ad 1)), (1, .int a1), (2, .int a2), (3, .int a3)]) hx hb zd_Chart_layPlain_1 hl (by decide) rfl (fun ls hl => ?_)
  exact zl_Chart_layPlain_L3 B hret hlk 400 a1 a2 a3 a1 X _ _ _ hP hS (lv_sub hl [1, 2, 3, 4, 0] rfl) hf
theorem zC_Chart_layPlain (l : Launch) {D : va_G} {cA : Nat → ClassId} {ad : Nat → Nat} {A : Nat → Prop} {a1 : Int32} {a2 : Int32} {a3 : Int32} {X : IX} {Y : LX} {res : IX} (hf : fn_Chart_layPlain a1 a2 a3 X = some res) : Met l zm_Chart_layPlain (zu_ws zm_Chart_layPlain zb_Chart_layPlain 5 none) zR_Chart_layPlain (va_Pc [.ref (ad 1), .int a1, .int a2, .int a3] (zu_Pre D cA ad A X Y)) (zu_Qv D cA ad A res Y) 0 0 A := by
  refine Met.ofW (cc := zb_Chart_layPlain) (maxL := 5) (ret := none) (by decide +kernel) rfl ?_
  intro p e s m args below meth c s₁ B0 hml hv
  obtain ⟨rfl, hP, hST⟩ := hv
  have B : zu_B p s m _ c zb_Chart_layPlain 5 "StonePost$Chart" D cA ad A := ⟨B0.exec, B0.bytes, hml, findClass_of_methodNamed B0.named, (fun w hw => atoms_spec (ws := zu_ws zm_Chart_layPlain zb_Chart_layPlain 5 none) B0.pre w (List.mem_cons_of_mem _ hw)), hST⟩
  have hl := lv_entry ([.ref (ad 1), .int a1, .int a2, .int a3]) (n := 5) (Nat.le_of_ble_eq_true rfl)
  rw [lg_entry_eq]
  generalize (lg_sl ([.ref (ad 1), .int a1, .int a2, .int a3]) ++ List.replicate (5 - (lg_sl ([.ref (ad 1), .int a1, .int a2, .int a3])).length) Slot.unset).toArray = ls at hl ⊢
  exact zl_Chart_layPlain B B0.returns B0.notSynchronized s.heap [] ls hP va_S.rf hl  hf
theorem zw_Chart_layPlain {p : Program} {l : Launch} {e : Env} {R : Room} {s : State} {m : MethodId} {args : Array Value} {below : List Frame} {meth : Method} {c : Code} {H : Heap} {locs : List Loc} {cells slots : Nat} {Q : State → Prop} {cc : ByteArray} {pc nL : Nat} {ls : Array Slot} {rest st0 : List Value} {D : va_G} {cA : Nat → ClassId} {ad : Nat → Nat} {A : Nat → Prop} {X : IX} {Y : LX} {own : String} {index : Nat} {a1 : Int32} {a2 : Int32} {a3 : Int32} {X1 : IX} (B : zu_B p s m args c cc nL own D cA ad A) (hP : va_P D zu_cl (zu_pic cA ad X Y) H) (hS : va_S A s.heap H locs) (hq : fn_Chart_layPlain a1 a2 a3 X = some X1) (m1 : Cond.methodLink own index zm_Chart_layPlain ∈ zu_TB) (hR1 : 0 + 1 ≤ R.frames) (hR2 : 8 + (5 + 11) + 0 ≤ R.locals) (hsz : ls.size = nL) (hst : st0 = .int a3 :: .int a2 :: .int a1 :: .ref (ad 1) :: rest) (hw : (rest.map fun v => v.category).sum ≤ 8) (hdg : decode cc pc = .ok (.invokevirtual index, 3)) (h00 : cells ≤ R.cells ∧ slots ≤ R.slots) (kk : ∀ (H1 : Heap) (locs1 : List Loc), va_P D zu_cl (zu_pic cA ad X1 Y) H1 → va_S A s.heap H1 locs1 → W p l e R s m args below meth c H1 locs1 cells slots Q (F0 m (pc + 3) ls (rest))) : W p l e R s m args below meth c H locs cells slots Q (F0 m pc ls st0) := by
  subst hst
  exact zr_cVv (As := [.int a1, .int a2, .int a3]) (rest := rest) (n := 3) (C := "StonePost$Chart") (T := zt_Chart) (N := 9) B hP hS (zC_Chart_layPlain l  hq) (K := 2) rfl (by decide) (by decide) rfl rfl m1 zq_406 zqP_8 zq_5 zq_407 (by decide +kernel) ⟨hR1, hR2⟩ rfl rfl rfl hsz rfl hw hdg h00 kk
abbrev zR_Chart_layCell : Room := { frames := 4, cells := 0, slots := 0, locals := 91 }
theorem zd_Chart_layCell_0 : decode zb_Chart_layCell 0 = .ok (.aload_n 0, 1) := by decide +kernel
theorem zd_Chart_layCell_1 : decode zb_Chart_layCell 1 = .ok (.getfield 21, 3) := by decide +kernel
theorem zd_Chart_layCell_4 : decode zb_Chart_layCell 4 = .ok (.iload_n 2, 1) := by decide +kernel
theorem zd_Chart_layCell_5 : decode zb_Chart_layCell 5 = .ok (.iconst (-1), 1) := by decide +kernel
theorem zd_Chart_layCell_6 : decode zb_Chart_layCell 6 = .ok (.iastore, 1) := by decide +kernel
theorem zd_Chart_layCell_7 : decode zb_Chart_layCell 7 = .ok (.aload_n 1, 1) := by decide +kernel
theorem zd_Chart_layCell_8 : decode zb_Chart_layCell 8 = .ok (.iload_n 2, 1) := by decide +kernel
theorem zd_Chart_layCell_9 : decode zb_Chart_layCell 9 = .ok (.invokevirtual 53, 3) := by decide +kernel
theorem zd_Chart_layCell_12 : decode zb_Chart_layCell 12 = .ok (.istore_n 3, 1) := by decide +kernel
theorem zd_Chart_layCell_13 : decode zb_Chart_layCell 13 = .ok (.iload_n 3, 1) := by decide +kernel
theorem zd_Chart_layCell_14 : decode zb_Chart_layCell 14 = .ok (.iconst (-1), 1) := by decide +kernel
theorem zd_Chart_layCell_15 : decode zb_Chart_layCell 15 = .ok (.if_icmp .ne 17, 3) := by decide +kernel
theorem zd_Chart_layCell_18 : decode zb_Chart_layCell 18 = .ok (.aload_n 0, 1) := by decide +kernel
theorem zd_Chart_layCell_19 : decode zb_Chart_layCell 19 = .ok (.iload_n 2, 1) := by decide +kernel
theorem zd_Chart_layCell_20 : decode zb_Chart_layCell 20 = .ok (.aload_n 0, 1) := by decide +kernel
theorem zd_Chart_layCell_21 : decode zb_Chart_layCell 21 = .ok (.aload_n 1, 1) := by decide +kernel
theorem zd_Chart_layCell_22 : decode zb_Chart_layCell 22 = .ok (.iload_n 2, 1) := by decide +kernel
theorem zd_Chart_layCell_23 : decode zb_Chart_layCell 23 = .ok (.invokevirtual 57, 3) := by decide +kernel
theorem zd_Chart_layCell_26 : decode zb_Chart_layCell 26 = .ok (.bipush 12, 2) := by decide +kernel
theorem zd_Chart_layCell_28 : decode zb_Chart_layCell 28 = .ok (.invokevirtual 61, 3) := by decide +kernel
theorem zd_Chart_layCell_31 : decode zb_Chart_layCell 31 = .ok (.return_, 1) := by decide +kernel
theorem zd_Chart_layCell_32 : decode zb_Chart_layCell 32 = .ok (.aload_n 1, 1) := by decide +kernel
theorem zd_Chart_layCell_33 : decode zb_Chart_layCell 33 = .ok (.getfield 65, 3) := by decide +kernel
theorem zd_Chart_layCell_36 : decode zb_Chart_layCell 36 = .ok (.iload_n 3, 1) := by decide +kernel
theorem zd_Chart_layCell_37 : decode zb_Chart_layCell 37 = .ok (.aaload, 1) := by decide +kernel
theorem zd_Chart_layCell_38 : decode zb_Chart_layCell 38 = .ok (.astore 4, 2) := by decide +kernel
theorem zd_Chart_layCell_40 : decode zb_Chart_layCell 40 = .ok (.aload 4, 2) := by decide +kernel
theorem zd_Chart_layCell_42 : decode zb_Chart_layCell 42 = .ok (.getfield 69, 3) := by decide +kernel
theorem zd_Chart_layCell_45 : decode zb_Chart_layCell 45 = .ok (.iconst 1, 1) := by decide +kernel
theorem zd_Chart_layCell_46 : decode zb_Chart_layCell 46 = .ok (.iaload, 1) := by decide +kernel
theorem zd_Chart_layCell_47 : decode zb_Chart_layCell 47 = .ok (.istore 5, 2) := by decide +kernel
theorem zd_Chart_layCell_49 : decode zb_Chart_layCell 49 = .ok (.iload 5, 2) := by decide +kernel
theorem zd_Chart_layCell_51 : decode zb_Chart_layCell 51 = .ok (.iload_n 2, 1) := by decide +kernel
theorem zd_Chart_layCell_52 : decode zb_Chart_layCell 52 = .ok (.if_icmp .ne 20, 3) := by decide +kernel
theorem zd_Chart_layCell_55 : decode zb_Chart_layCell 55 = .ok (.aload_n 0, 1) := by decide +kernel
theorem zd_Chart_layCell_56 : decode zb_Chart_layCell 56 = .ok (.getfield 21, 3) := by decide +kernel
theorem zd_Chart_layCell_59 : decode zb_Chart_layCell 59 = .ok (.iload_n 2, 1) := by decide +kernel
theorem zd_Chart_layCell_60 : decode zb_Chart_layCell 60 = .ok (.iload_n 3, 1) := by decide +kernel
theorem zd_Chart_layCell_61 : decode zb_Chart_layCell 61 = .ok (.iastore, 1) := by decide +kernel
theorem zd_Chart_layCell_62 : decode zb_Chart_layCell 62 = .ok (.aload_n 0, 1) := by decide +kernel
theorem zd_Chart_layCell_63 : decode zb_Chart_layCell 63 = .ok (.aload 4, 2) := by decide +kernel
theorem zd_Chart_layCell_65 : decode zb_Chart_layCell 65 = .ok (.iload_n 2, 1) := by decide +kernel
theorem zd_Chart_layCell_66 : decode zb_Chart_layCell 66 = .ok (.invokevirtual 74, 3) := by decide +kernel
theorem zd_Chart_layCell_69 : decode zb_Chart_layCell 69 = .ok (.goto 25, 3) := by decide +kernel
theorem zd_Chart_layCell_72 : decode zb_Chart_layCell 72 = .ok (.aload_n 0, 1) := by decide +kernel
theorem zd_Chart_layCell_73 : decode zb_Chart_layCell 73 = .ok (.iload_n 2, 1) := by decide +kernel
theorem zd_Chart_layCell_74 : decode zb_Chart_layCell 74 = .ok (.iload 5, 2) := by decide +kernel
theorem zd_Chart_layCell_76 : decode zb_Chart_layCell 76 = .ok (.aload_n 1, 1) := by decide +kernel
theorem zd_Chart_layCell_77 : decode zb_Chart_layCell 77 = .ok (.iload_n 2, 1) := by decide +kernel
theorem zd_Chart_layCell_78 : decode zb_Chart_layCell 78 = .ok (.invokevirtual 78, 3) := by decide +kernel
theorem zd_Chart_layCell_81 : decode zb_Chart_layCell 81 = .ok (.ifCond .eq 8, 3) := by decide +kernel
theorem zd_Chart_layCell_84 : decode zb_Chart_layCell 84 = .ok (.bipush 6, 2) := by decide +kernel
theorem zd_Chart_layCell_86 : decode zb_Chart_layCell 86 = .ok (.goto 5, 3) := by decide +kernel
theorem zd_Chart_layCell_89 : decode zb_Chart_layCell 89 = .ok (.bipush 12, 2) := by decide +kernel
theorem zd_Chart_layCell_91 : decode zb_Chart_layCell 91 = .ok (.invokevirtual 61, 3) := by decide +kernel
theorem zd_Chart_layCell_94 : decode zb_Chart_layCell 94 = .ok (.return_, 1) := by decide +kernel
set_option maxHeartbeats 4000000 in
theorem zl_Chart_layCell_L94 {p : Program} {l : Launch} {e : Env} {s : State} {m : MethodId} {args : Array Value} {below : List Frame} {meth : Method} {c : Code} {D : va_G} {cA : Nat → ClassId} {ad : Nat → Nat} {A : Nat → Prop} (B : zu_B p s m args c zb_Chart_layCell 6 "StonePost$Chart" D cA ad A) (hret : meth.sig.returnType = none) (hlk : meth.locks = false) {Y : LX} {res : IX} (X : IX) (H : Heap) (locs : List Loc) (ls : Array Slot) (hP : va_P D zu_cl (zu_pic cA ad X Y) H) (hS : va_S A s.heap H locs) (hl : lv_has ls 6 []) (hf : fn_Chart_layCell_L94 X = some res) : W p l e zR_Chart_layCell s m args below meth c H locs 0 0 (MQ below (zu_Qv D cA ad A res Y) args s 0 0 A) (F0 m 94 ls []) := by
  obtain ⟨hx, hb, hml, hown, hts, hST⟩ := id B
  unfold fn_Chart_layCell_L94 at hf
  obtain rfl := Option.some.inj hf
  exact zr_vret hx hb hret hlk hP hS zd_Chart_layCell_94
set_option maxHeartbeats 4000000 in
theorem zl_Chart_layCell_L91 {p : Program} {l : Launch} {e : Env} {s : State} {m : MethodId} {args : Array Value} {below : List Frame} {meth : Method} {c : Code} {D : va_G} {cA : Nat → ClassId} {ad : Nat → Nat} {A : Nat → Prop} (B : zu_B p s m args c zb_Chart_layCell 6 "StonePost$Chart" D cA ad A) (hret : meth.sig.returnType = none) (hlk : meth.locks = false) {Y : LX} {res : IX} (y0 : Int32) (y1 : Int32) (y2 : Int32) (X : IX) (H : Heap) (locs : List Loc) (ls : Array Slot) (hP : va_P D zu_cl (zu_pic cA ad X Y) H) (hS : va_S A s.heap H locs) (hl : lv_has ls 6 []) (hf : fn_Chart_layCell_L91 y0 y1 y2 X = some res) : W p l e zR_Chart_layCell s m args below meth c H locs 0 0 (MQ below (zu_Qv D cA ad A res Y) args s 0 0 A) (F0 m 91 ls [.int y0, .int y1, .int y2, .ref (ad 1)]) := by
  obtain ⟨hx, hb, hml, hown, hts, hST⟩ := id B
  unfold fn_Chart_layCell_L91 at hf
  obtain ⟨X20, hq21, hf⟩ := zu_b1_e hf
  refine zw_Chart_layPlain (rest := []) B hP hS hq21 zq_404 (Nat.le_of_ble_eq_true rfl) (Nat.le_of_ble_eq_true rfl) hl.1 rfl (Nat.le_of_ble_eq_true rfl) zd_Chart_layCell_91 (by decide) (fun H locs hP hS => ?_)
  clear hq21
  exact zl_Chart_layCell_L94 B hret hlk X20 _ _ _ hP hS (lv_sub hl [] rfl) hf
set_option maxHeartbeats 4000000 in
theorem zl_Chart_layCell {p : Program} {l : Launch} {e : Env} {s : State} {m : MethodId} {args : Array Value} {below : List Frame} {meth : Method} {c : Code} {D : va_G} {cA : Nat → ClassId} {ad : Nat → Nat} {A : Nat → Prop} (B : zu_B p s m args c zb_Chart_layCell 6 "StonePost$Chart" D cA ad A) (hret : meth.sig.returnType = none) (hlk : meth.locks = false) {Y : LX} {res : IX} {r1 : Nat} {a2 : Int32} {X : IX} (H : Heap) (locs : List Loc) (ls : Array Slot) (hP : va_P D zu_cl (zu_pic cA ad X Y) H) (hS : va_S A s.heap H locs) (hl : lv_has ls 6 [(0, .ref (ad 1)), (1, .ref (ad r1)), (2, .int a2)]) (hr1 : zu_kd r1 = 5) (hf : fn_Chart_layCell r1 a2 X = some res) : W p l e zR_Chart_layCell s m args below meth c H locs 0 0 (MQ below (zu_Qv D cA ad A res Y) args s 0 0 A) (F0 m 0 ls []) := by
  obtain ⟨hx, hb, hml, hown, hts, hST⟩ := id B
  unfold fn_Chart_layCell at hf
  refine lv_aload_n hx hb zd_Chart_layCell_0 rfl (lv_at hl 0 rfl) ?_
  refine zg_Chart_throwersOn B hP rfl zq_112 zd_Chart_layCell_1 ?_
  refine lv_iload_n hx hb zd_Chart_layCell_4 rfl (lv_at hl 2 rfl) ?_
  refine lv_iconst (v := -1) hx hb zd_Chart_layCell_5 (by decide) ?_
  obtain ⟨hg1, hf⟩ := zu_gd_e hf
  refine zr_iast rfl B hP hS hf rfl (by decide) rfl hg1 zd_Chart_layCell_6 (fun X2 H locs hf hP hS => ?_)
  refine lv_aload_n hx hb zd_Chart_layCell_7 rfl (lv_at hl 1 rfl) ?_
  refine lv_iload_n hx hb zd_Chart_layCell_8 rfl (lv_at hl 2 rfl) ?_
  obtain ⟨v3, hq4, hf⟩ := zu_b1_e hf
  refine zw_Land_handFor (rest := []) B hP hS hr1 hq4 zq_394 (Nat.le_of_ble_eq_true rfl) (Nat.le_of_ble_eq_true rfl) hl.1 rfl (Nat.le_of_ble_eq_true rfl) zd_Chart_layCell_9 (by decide) (fun H locs hP hS => ?_)
  clear hq4
  refine lv_istore_n (lv' := [(3, .int v3), (0, .ref (ad 1)), (1, .ref (ad r1)), (2, .int a2)]) hx hb zd_Chart_layCell_12 rfl hl (by decide) rfl (fun ls hl => ?_)
  refine lv_iload_n hx hb zd_Chart_layCell_13 rfl (lv_at hl 0 rfl) ?_
  refine lv_iconst (v := -1) hx hb zd_Chart_layCell_14 (by decide) ?_
  refine lv_icmp_ne (tgt := 32) hx hb zd_Chart_layCell_15 (by decide) (fun c5 => ?_) (fun c5 => ?_)
  · have hf := zu_f c5 hf
    refine lv_aload_n hx hb zd_Chart_layCell_32 rfl (lv_at hl 2 rfl) ?_
    refine zg_Land_throwers B hP hr1 zq_54 zd_Chart_layCell_33 ?_
    refine lv_iload_n hx hb zd_Chart_layCell_36 rfl (lv_at hl 0 rfl) ?_
    obtain ⟨hg6, hf⟩ := zu_gd_e hf
    refine zr_thr rfl B hP (zk_Land_throwers hr1) hg6 zd_Chart_layCell_37 ?_
    refine lv_astore (lv' := [(4, .ref (ad (zu_th (r1 + 6) (v3.toNatClampNeg)))), (3, .int v3), (0, .ref (ad 1)), (1, .ref (ad r1)), (2, .int a2)]) hx hb zd_Chart_layCell_38 hl (by decide) rfl (fun ls hl => ?_)
    refine lv_aload hx hb zd_Chart_layCell_40 (lv_at hl 0 rfl) ?_
    refine zg_Thr_facts B hP (zk_thr (zk_Land_throwers hr1) (zu_ib_lt hg6)) zq_40 zd_Chart_layCell_42 ?_
    refine lv_iconst (v := 1) hx hb zd_Chart_layCell_45 (by decide) ?_
    refine zr_iald (j := 1) (by decide) B hP (zk_Thr_facts (zk_thr (zk_Land_throwers hr1) (zu_ib_lt hg6))) (by decide) rfl (by decide) zd_Chart_layCell_46 ?_
    refine zr_nxi hf (fun v7 hf => ?_)
    refine lv_istore (lv' := [(5, .int v7), (4, .ref (ad (zu_th (r1 + 6) (v3.toNatClampNeg)))), (3, .int v3), (0, .ref (ad 1)), (1, .ref (ad r1)), (2, .int a2)]) hx hb zd_Chart_layCell_47 hl (by decide) rfl (fun ls hl => ?_)
    refine lv_iload hx hb zd_Chart_layCell_49 (lv_at hl 0 rfl) ?_
    refine lv_iload_n hx hb zd_Chart_layCell_51 rfl (lv_at hl 5 rfl) ?_
    refine lv_icmp_ne (tgt := 72) hx hb zd_Chart_layCell_52 (by decide) (fun c8 => ?_) (fun c8 => ?_)
    · have hf := zu_f c8 hf
      refine lv_aload_n hx hb zd_Chart_layCell_72 rfl (lv_at hl 3 rfl) ?_
      refine lv_iload_n hx hb zd_Chart_layCell_73 rfl (lv_at hl 5 rfl) ?_
      refine lv_iload hx hb zd_Chart_layCell_74 (lv_at hl 0 rfl) ?_
      refine lv_aload_n hx hb zd_Chart_layCell_76 rfl (lv_at hl 4 rfl) ?_
      refine lv_iload_n hx hb zd_Chart_layCell_77 rfl (lv_at hl 5 rfl) ?_
      obtain ⟨v9, hq10, hf⟩ := zu_b1_e hf
      refine zw_Land_isHedge (rest := [.int v7, .int a2, .ref (ad 1)]) B hP hS hr1 hq10 zq_415 (Nat.le_of_ble_eq_true rfl) (Nat.le_of_ble_eq_true rfl) hl.1 rfl (Nat.le_of_ble_eq_true rfl) zd_Chart_layCell_78 (by decide) (fun H locs hP hS => ?_)
      clear hq10
      refine lv_if_eq (tgt := 89) hx hb zd_Chart_layCell_81 (by decide) (fun c11 => ?_) (fun c11 => ?_)
      · have hf := zu_t c11 hf
        refine lv_bipush (v := 12) hx hb zd_Chart_layCell_89 (by decide) ?_
        exact zl_Chart_layCell_L91 B hret hlk (12 : Int32) v7 a2 X2 _ _ _ hP hS (lv_sub hl [] rfl) hf
      · have hf := zu_f c11 hf
        refine lv_bipush (v := 6) hx hb zd_Chart_layCell_84 (by decide) ?_
        refine lv_goto (tgt := 91) hx hb zd_Chart_layCell_86 (by decide) ?_
        exact zl_Chart_layCell_L91 B hret hlk (6 : Int32) v7 a2 X2 _ _ _ hP hS (lv_sub hl [] rfl) hf
    · have hf := zu_t c8 hf
      refine lv_aload_n hx hb zd_Chart_layCell_55 rfl (lv_at hl 3 rfl) ?_
      refine zg_Chart_throwersOn B hP rfl zq_112 zd_Chart_layCell_56 ?_
      refine lv_iload_n hx hb zd_Chart_layCell_59 rfl (lv_at hl 5 rfl) ?_
      refine lv_iload_n hx hb zd_Chart_layCell_60 rfl (lv_at hl 2 rfl) ?_
      obtain ⟨hg12, hf⟩ := zu_gd_e hf
      refine zr_iast rfl B hP hS hf rfl (by decide) rfl hg12 zd_Chart_layCell_61 (fun X13 H locs hf hP hS => ?_)
      refine lv_aload_n hx hb zd_Chart_layCell_62 rfl (lv_at hl 3 rfl) ?_
      refine lv_aload hx hb zd_Chart_layCell_63 (lv_at hl 1 rfl) ?_
      refine lv_iload_n hx hb zd_Chart_layCell_65 rfl (lv_at hl 5 rfl) ?_
      obtain ⟨X14, hq15, hf⟩ := zu_b1_e hf
      refine zw_Chart_layThrows (rest := []) B hP hS (zk_thr (zk_Land_throwers hr1) (zu_ib_lt hg6)) hq15 zq_408 (Nat.le_of_ble_eq_true rfl) (Nat.le_of_ble_eq_true rfl) hl.1 rfl (Nat.le_of_ble_eq_true rfl) zd_Chart_layCell_66 (by decide) (fun H locs hP hS => ?_)
      clear hq15
      refine lv_goto (tgt := 94) hx hb zd_Chart_layCell_69 (by decide) ?_
      exact zl_Chart_layCell_L94 B hret hlk X14 _ _ _ hP hS (lv_sub hl [] rfl) hf
  · have hf := zu_t c5 hf
    refine lv_aload_n hx hb zd_Chart_layCell_18 rfl (lv_at hl 1 rfl) ?_
    refine lv_iload_n hx hb zd_Chart_layCell_19 rfl (lv_at hl 3 rfl) ?_
    refine lv_aload_n hx hb zd_Chart_layCell_20 rfl (lv_at hl 1 rfl) ?_
    refine lv_aload_n hx hb zd_Chart_layCell_21 rfl (lv_at hl 2 rfl) ?_
    refine lv_iload_n hx hb zd_Chart_layCell_22 rfl (lv_at hl 3 rfl) ?_
    obtain ⟨v16, hq17, hf⟩ := zu_b1_e hf
    refine zw_Chart_unfetchedCell (rest := [.int a2, .ref (ad 1)]) B hP hS hr1 hq17 zq_395 (Nat.le_of_ble_eq_true rfl) (Nat.le_of_ble_eq_true rfl) hl.1 rfl (Nat.le_of_ble_eq_true rfl) zd_Chart_layCell_23 (by decide) (fun H locs hP hS => ?_)
    clear hq17
    refine lv_bipush (v := 12) hx hb zd_Chart_layCell_26 (by decide) ?_
    obtain ⟨X18, hq19, hf⟩ := zu_b1_e hf
    refine zw_Chart_layPlain (rest := []) B hP hS hq19 zq_404 (Nat.le_of_ble_eq_true rfl) (Nat.le_of_ble_eq_true rfl) hl.1 rfl (Nat.le_of_ble_eq_true rfl) zd_Chart_layCell_28 (by decide) (fun H locs hP hS => ?_)
    clear hq19
    obtain rfl := Option.some.inj hf
    exact zr_vret hx hb hret hlk hP hS zd_Chart_layCell_31
theorem zC_Chart_layCell (l : Launch) {D : va_G} {cA : Nat → ClassId} {ad : Nat → Nat} {A : Nat → Prop} {r1 : Nat} {a2 : Int32} {X : IX} {Y : LX} {res : IX} (hr1 : zu_kd r1 = 5) (hf : fn_Chart_layCell r1 a2 X = some res) : Met l zm_Chart_layCell (zu_ws zm_Chart_layCell zb_Chart_layCell 6 none) zR_Chart_layCell (va_Pc [.ref (ad 1), .ref (ad r1), .int a2] (zu_Pre D cA ad A X Y)) (zu_Qv D cA ad A res Y) 0 0 A := by
  refine Met.ofW (cc := zb_Chart_layCell) (maxL := 6) (ret := none) (by decide +kernel) rfl ?_
  intro p e s m args below meth c s₁ B0 hml hv
  obtain ⟨rfl, hP, hST⟩ := hv
  have B : zu_B p s m _ c zb_Chart_layCell 6 "StonePost$Chart" D cA ad A := ⟨B0.exec, B0.bytes, hml, findClass_of_methodNamed B0.named, (fun w hw => atoms_spec (ws := zu_ws zm_Chart_layCell zb_Chart_layCell 6 none) B0.pre w (List.mem_cons_of_mem _ hw)), hST⟩
  have hl := lv_entry ([.ref (ad 1), .ref (ad r1), .int a2]) (n := 6) (Nat.le_of_ble_eq_true rfl)
  rw [lg_entry_eq]
  generalize (lg_sl ([.ref (ad 1), .ref (ad r1), .int a2]) ++ List.replicate (6 - (lg_sl ([.ref (ad 1), .ref (ad r1), .int a2])).length) Slot.unset).toArray = ls at hl ⊢
  exact zl_Chart_layCell B B0.returns B0.notSynchronized s.heap [] ls hP va_S.rf hl hr1 hf
theorem zw_Chart_layCell {p : Program} {l : Launch} {e : Env} {R : Room} {s : State} {m : MethodId} {args : Array Value} {below : List Frame} {meth : Method} {c : Code} {H : Heap} {locs : List Loc} {cells slots : Nat} {Q : State → Prop} {cc : ByteArray} {pc nL : Nat} {ls : Array Slot} {rest st0 : List Value} {D : va_G} {cA : Nat → ClassId} {ad : Nat → Nat} {A : Nat → Prop} {X : IX} {Y : LX} {own : String} {index : Nat} {r1 : Nat} {a2 : Int32} {X1 : IX} (B : zu_B p s m args c cc nL own D cA ad A) (hP : va_P D zu_cl (zu_pic cA ad X Y) H) (hS : va_S A s.heap H locs) (hr1 : zu_kd r1 = 5) (hq : fn_Chart_layCell r1 a2 X = some X1) (m1 : Cond.methodLink own index zm_Chart_layCell ∈ zu_TB) (hR1 : 4 + 1 ≤ R.frames) (hR2 : 8 + (6 + 11) + 91 ≤ R.locals) (hsz : ls.size = nL) (hst : st0 = .int a2 :: .ref (ad r1) :: .ref (ad 1) :: rest) (hw : (rest.map fun v => v.category).sum ≤ 8) (hdg : decode cc pc = .ok (.invokevirtual index, 3)) (h00 : cells ≤ R.cells ∧ slots ≤ R.slots) (kk : ∀ (H1 : Heap) (locs1 : List Loc), va_P D zu_cl (zu_pic cA ad X1 Y) H1 → va_S A s.heap H1 locs1 → W p l e R s m args below meth c H1 locs1 cells slots Q (F0 m (pc + 3) ls (rest))) : W p l e R s m args below meth c H locs cells slots Q (F0 m pc ls st0) := by
  subst hst
  exact zr_cVv (As := [.ref (ad r1), .int a2]) (rest := rest) (n := 2) (C := "StonePost$Chart") (T := zt_Chart) (N := 9) B hP hS (zC_Chart_layCell l hr1 hq) (K := 2) rfl (by decide) (by decide) rfl rfl m1 zq_392 zqP_6 zq_5 zq_393 (by decide +kernel) ⟨hR1, hR2⟩ rfl rfl rfl hsz rfl hw hdg h00 kk
abbrev zR_Chart_lay : Room := { frames := 5, cells := 0, slots := 0, locals := 116 }
theorem zd_Chart_lay_0 : decode zb_Chart_lay 0 = .ok (.aload_n 0, 1) := by decide +kernel
theorem zd_Chart_lay_1 : decode zb_Chart_lay 1 = .ok (.aload_n 1, 1) := by decide +kernel
theorem zd_Chart_lay_2 : decode zb_Chart_lay 2 = .ok (.invokevirtual 31, 3) := by decide +kernel
theorem zd_Chart_lay_5 : decode zb_Chart_lay 5 = .ok (.putfield 37, 3) := by decide +kernel
theorem zd_Chart_lay_8 : decode zb_Chart_lay 8 = .ok (.aload_n 0, 1) := by decide +kernel
theorem zd_Chart_lay_9 : decode zb_Chart_lay 9 = .ok (.aload_n 1, 1) := by decide +kernel
theorem zd_Chart_lay_10 : decode zb_Chart_lay 10 = .ok (.getfield 41, 3) := by decide +kernel
theorem zd_Chart_lay_13 : decode zb_Chart_lay 13 = .ok (.putfield 44, 3) := by decide +kernel
theorem zd_Chart_lay_16 : decode zb_Chart_lay 16 = .ok (.aload_n 0, 1) := by decide +kernel
theorem zd_Chart_lay_17 : decode zb_Chart_lay 17 = .ok (.aload_n 1, 1) := by decide +kernel
theorem zd_Chart_lay_18 : decode zb_Chart_lay 18 = .ok (.getfield 45, 3) := by decide +kernel
theorem zd_Chart_lay_21 : decode zb_Chart_lay 21 = .ok (.putfield 48, 3) := by decide +kernel
theorem zd_Chart_lay_24 : decode zb_Chart_lay 24 = .ok (.iconst 0, 1) := by decide +kernel
theorem zd_Chart_lay_25 : decode zb_Chart_lay 25 = .ok (.istore_n 2, 1) := by decide +kernel
theorem zd_Chart_lay_26 : decode zb_Chart_lay 26 = .ok (.iload_n 2, 1) := by decide +kernel
theorem zd_Chart_lay_27 : decode zb_Chart_lay 27 = .ok (.bipush 24, 2) := by decide +kernel
theorem zd_Chart_lay_29 : decode zb_Chart_lay 29 = .ok (.if_icmp .ge 15, 3) := by decide +kernel
theorem zd_Chart_lay_32 : decode zb_Chart_lay 32 = .ok (.aload_n 0, 1) := by decide +kernel
theorem zd_Chart_lay_33 : decode zb_Chart_lay 33 = .ok (.aload_n 1, 1) := by decide +kernel
theorem zd_Chart_lay_34 : decode zb_Chart_lay 34 = .ok (.iload_n 2, 1) := by decide +kernel
theorem zd_Chart_lay_35 : decode zb_Chart_lay 35 = .ok (.invokevirtual 49, 3) := by decide +kernel
theorem zd_Chart_lay_38 : decode zb_Chart_lay 38 = .ok (.iinc 2 1, 3) := by decide +kernel
theorem zd_Chart_lay_41 : decode zb_Chart_lay 41 = .ok (.goto (-15), 3) := by decide +kernel
theorem zd_Chart_lay_44 : decode zb_Chart_lay 44 = .ok (.return_, 1) := by decide +kernel
set_option maxHeartbeats 4000000 in
theorem zl_Chart_lay_B26 {p : Program} {l : Launch} {e : Env} {s : State} {m : MethodId} {args : Array Value} {below : List Frame} {meth : Method} {c : Code} {D : va_G} {cA : Nat → ClassId} {ad : Nat → Nat} {A : Nat → Prop} (B : zu_B p s m args c zb_Chart_lay 3 "StonePost$Chart" D cA ad A) (hret : meth.sig.returnType = none) (hlk : meth.locks = false) {Y : LX} {res : IX} {k26 : Nat → Int32 → IX → Option IX} (hk26 : ∀ (r1 : Nat) (x2 : Int32) (X : IX) (H : Heap) (locs : List Loc) (ls : Array Slot), va_P D zu_cl (zu_pic cA ad X Y) H → va_S A s.heap H locs → lv_has ls 3 [(0, .ref (ad 1)), (1, .ref (ad r1)), (2, .int x2)] → zu_kd r1 = 5 → k26 r1 x2 X = some res → W p l e zR_Chart_lay s m args below meth c H locs 0 0 (MQ below (zu_Qv D cA ad A res Y) args s 0 0 A) (F0 m 26 ls [])) (r1 : Nat) (x2 : Int32) (X : IX) (H : Heap) (locs : List Loc) (ls : Array Slot) (hP : va_P D zu_cl (zu_pic cA ad X Y) H) (hS : va_S A s.heap H locs) (hl : lv_has ls 3 [(0, .ref (ad 1)), (1, .ref (ad r1)), (2, .int x2)]) (hr1 : zu_kd r1 = 5) (hf : fn_Chart_lay_B26 k26 r1 x2 X = some res) : W p l e zR_Chart_lay s m args below meth c H locs 0 0 (MQ below (zu_Qv D cA ad A res Y) args s 0 0 A) (F0 m 26 ls []) := by
  obtain ⟨hx, hb, hml, hown, hts, hST⟩ := id B
  unfold fn_Chart_lay_B26 at hf
  refine lv_iload_n hx hb zd_Chart_lay_26 rfl (lv_at hl 2 rfl) ?_
  refine lv_bipush (v := 24) hx hb zd_Chart_lay_27 (by decide) ?_
  refine lv_icmp_ge (tgt := 44) hx hb zd_Chart_lay_29 (by decide) (fun c6 => ?_) (fun c6 => ?_)
  · have hf := zu_t c6 hf
    obtain rfl := Option.some.inj hf
    exact zr_vret hx hb hret hlk hP hS zd_Chart_lay_44
  · have hf := zu_f c6 hf
    refine lv_aload_n hx hb zd_Chart_lay_32 rfl (lv_at hl 0 rfl) ?_
    refine lv_aload_n hx hb zd_Chart_lay_33 rfl (lv_at hl 1 rfl) ?_
    refine lv_iload_n hx hb zd_Chart_lay_34 rfl (lv_at hl 2 rfl) ?_
    obtain ⟨X7, hq8, hf⟩ := zu_b1_e hf
    refine zw_Chart_layCell (rest := []) B hP hS hr1 hq8 zq_390 (Nat.le_of_ble_eq_true rfl) (Nat.le_of_ble_eq_true rfl) hl.1 rfl (Nat.le_of_ble_eq_true rfl) zd_Chart_lay_35 (by decide) (fun H locs hP hS => ?_)
    clear hq8
    obtain ⟨v9, ev9, hf⟩ := zu_nx_e hf
    refine lv_iinc (v := v9) (lv' := [(2, .int v9), (0, .ref (ad 1)), (1, .ref (ad r1))]) hx hb zd_Chart_lay_38 hl (k := 2) rfl (by rw [ev9]; rfl) (by decide) rfl (fun ls hl => ?_)
    clear ev9
    refine lv_goto (tgt := 26) hx hb zd_Chart_lay_41 (by decide) ?_
    exact hk26 r1 v9 X7 _ _ _ hP hS (lv_sub hl [1, 2, 0] rfl) hr1 hf
theorem zl_Chart_lay_L26 {p : Program} {l : Launch} {e : Env} {s : State} {m : MethodId} {args : Array Value} {below : List Frame} {meth : Method} {c : Code} {D : va_G} {cA : Nat → ClassId} {ad : Nat → Nat} {A : Nat → Prop} (B : zu_B p s m args c zb_Chart_lay 3 "StonePost$Chart" D cA ad A) (hret : meth.sig.returnType = none) (hlk : meth.locks = false) {Y : LX} {res : IX} : ∀ (n : Nat) (r1 : Nat) (x2 : Int32) (X : IX) (H : Heap) (locs : List Loc) (ls : Array Slot), va_P D zu_cl (zu_pic cA ad X Y) H → va_S A s.heap H locs → lv_has ls 3 [(0, .ref (ad 1)), (1, .ref (ad r1)), (2, .int x2)] → zu_kd r1 = 5 → fn_Chart_lay_L26 n r1 x2 X = some res → W p l e zR_Chart_lay s m args below meth c H locs 0 0 (MQ below (zu_Qv D cA ad A res Y) args s 0 0 A) (F0 m 26 ls []) := by
  intro n
  induction n with
  | zero =>
    intro r1 x2 X H locs ls hP hS hl hr1 hf
    exact (Option.some_ne_none _ hf.symm).elim
  | succ n ih =>
    intro r1 x2 X H locs ls hP hS hl hr1 hf
    exact zl_Chart_lay_B26 B hret hlk ih r1 x2 X H locs ls hP hS hl hr1 hf
set_option maxHeartbeats 4000000 in
theorem zl_Chart_lay {p : Program} {l : Launch} {e : Env} {s : State} {m : MethodId} {args : Array Value} {below : List Frame} {meth : Method} {c : Code} {D : va_G} {cA : Nat → ClassId} {ad : Nat → Nat} {A : Nat → Prop} (B : zu_B p s m args c zb_Chart_lay 3 "StonePost$Chart" D cA ad A) (hret : meth.sig.returnType = none) (hlk : meth.locks = false) {Y : LX} {res : IX} {r1 : Nat} {X : IX} (H : Heap) (locs : List Loc) (ls : Array Slot) (hP : va_P D zu_cl (zu_pic cA ad X Y) H) (hS : va_S A s.heap H locs) (hl : lv_has ls 3 [(0, .ref (ad 1)), (1, .ref (ad r1))]) (hr1 : zu_kd r1 = 5) (hf : fn_Chart_lay r1 X = some res) : W p l e zR_Chart_lay s m args below meth c H locs 0 0 (MQ below (zu_Qv D cA ad A res Y) args s 0 0 A) (F0 m 0 ls []) := by
  obtain ⟨hx, hb, hml, hown, hts, hST⟩ := id B
  unfold fn_Chart_lay at hf
  refine lv_aload_n hx hb zd_Chart_lay_0 rfl (lv_at hl 0 rfl) ?_
  refine lv_aload_n hx hb zd_Chart_lay_1 rfl (lv_at hl 1 rfl) ?_
  obtain ⟨v1, hq2, hf⟩ := zu_b1_e hf
  refine zw_Land_choiceSet (rest := [.ref (ad 1)]) B hP hS hr1 hq2 zq_386 (Nat.le_of_ble_eq_true rfl) (Nat.le_of_ble_eq_true rfl) hl.1 rfl (Nat.le_of_ble_eq_true rfl) zd_Chart_lay_2 (by decide) (fun H locs hP hS => ?_)
  clear hq2
  refine zp_Chart_choices B hP hS hf rfl zq_117 zd_Chart_lay_5 (fun X3 H locs hf hP hS => ?_)
  refine lv_aload_n hx hb zd_Chart_lay_8 rfl (lv_at hl 0 rfl) ?_
  refine lv_aload_n hx hb zd_Chart_lay_9 rfl (lv_at hl 1 rfl) ?_
  refine zg_Land_hour B hP hr1 zq_74 zd_Chart_lay_10 ?_
  refine zp_Chart_hour B hP hS hf rfl zq_119 zd_Chart_lay_13 (fun X4 H locs hf hP hS => ?_)
  refine lv_aload_n hx hb zd_Chart_lay_16 rfl (lv_at hl 0 rfl) ?_
  refine lv_aload_n hx hb zd_Chart_lay_17 rfl (lv_at hl 1 rfl) ?_
  refine zg_Land_home B hP hr1 zq_68 zd_Chart_lay_18 ?_
  refine zp_Chart_home B hP hS hf rfl zq_120 zd_Chart_lay_21 (fun X5 H locs hf hP hS => ?_)
  refine lv_iconst (v := 0) hx hb zd_Chart_lay_24 (by decide) ?_
  refine lv_istore_n (lv' := [(2, .int (0 : Int32)), (0, .ref (ad 1)), (1, .ref (ad r1))]) hx hb zd_Chart_lay_25 rfl hl (by decide) rfl (fun ls hl => ?_)
  exact zl_Chart_lay_L26 B hret hlk 400 r1 (0 : Int32) X5 _ _ _ hP hS (lv_sub hl [1, 2, 0] rfl) hr1 hf
theorem zC_Chart_lay (l : Launch) {D : va_G} {cA : Nat → ClassId} {ad : Nat → Nat} {A : Nat → Prop} {r1 : Nat} {X : IX} {Y : LX} {res : IX} (hr1 : zu_kd r1 = 5) (hf : fn_Chart_lay r1 X = some res) : Met l zm_Chart_lay (zu_ws zm_Chart_lay zb_Chart_lay 3 none) zR_Chart_lay (va_Pc [.ref (ad 1), .ref (ad r1)] (zu_Pre D cA ad A X Y)) (zu_Qv D cA ad A res Y) 0 0 A := by
  refine Met.ofW (cc := zb_Chart_lay) (maxL := 3) (ret := none) (by decide +kernel) rfl ?_
  intro p e s m args below meth c s₁ B0 hml hv
  obtain ⟨rfl, hP, hST⟩ := hv
  have B : zu_B p s m _ c zb_Chart_lay 3 "StonePost$Chart" D cA ad A := ⟨B0.exec, B0.bytes, hml, findClass_of_methodNamed B0.named, (fun w hw => atoms_spec (ws := zu_ws zm_Chart_lay zb_Chart_lay 3 none) B0.pre w (List.mem_cons_of_mem _ hw)), hST⟩
  have hl := lv_entry ([.ref (ad 1), .ref (ad r1)]) (n := 3) (Nat.le_of_ble_eq_true rfl)
  rw [lg_entry_eq]
  generalize (lg_sl ([.ref (ad 1), .ref (ad r1)]) ++ List.replicate (3 - (lg_sl ([.ref (ad 1), .ref (ad r1)])).length) Slot.unset).toArray = ls at hl ⊢
  exact zl_Chart_lay B B0.returns B0.notSynchronized s.heap [] ls hP va_S.rf hl hr1 hf
theorem zw_Chart_lay {p : Program} {l : Launch} {e : Env} {R : Room} {s : State} {m : MethodId} {args : Array Value} {below : List Frame} {meth : Method} {c : Code} {H : Heap} {locs : List Loc} {cells slots : Nat} {Q : State → Prop} {cc : ByteArray} {pc nL : Nat} {ls : Array Slot} {rest st0 : List Value} {D : va_G} {cA : Nat → ClassId} {ad : Nat → Nat} {A : Nat → Prop} {X : IX} {Y : LX} {own : String} {index : Nat} {r1 : Nat} {X1 : IX} (B : zu_B p s m args c cc nL own D cA ad A) (hP : va_P D zu_cl (zu_pic cA ad X Y) H) (hS : va_S A s.heap H locs) (hr1 : zu_kd r1 = 5) (hq : fn_Chart_lay r1 X = some X1) (m1 : Cond.methodLink own index zm_Chart_lay ∈ zu_TB) (hR1 : 5 + 1 ≤ R.frames) (hR2 : 8 + (3 + 11) + 116 ≤ R.locals) (hsz : ls.size = nL) (hst : st0 = .ref (ad r1) :: .ref (ad 1) :: rest) (hw : (rest.map fun v => v.category).sum ≤ 8) (hdg : decode cc pc = .ok (.invokevirtual index, 3)) (h00 : cells ≤ R.cells ∧ slots ≤ R.slots) (kk : ∀ (H1 : Heap) (locs1 : List Loc), va_P D zu_cl (zu_pic cA ad X1 Y) H1 → va_S A s.heap H1 locs1 → W p l e R s m args below meth c H1 locs1 cells slots Q (F0 m (pc + 3) ls (rest))) : W p l e R s m args below meth c H locs cells slots Q (F0 m pc ls st0) := by
  subst hst
  exact zr_cVv (As := [.ref (ad r1)]) (rest := rest) (n := 1) (C := "StonePost$Chart") (T := zt_Chart) (N := 9) B hP hS (zC_Chart_lay l hr1 hq) (K := 2) rfl (by decide) (by decide) rfl rfl m1 zq_383 zq_384 zq_5 zq_385 (by decide +kernel) ⟨hR1, hR2⟩ rfl rfl rfl hsz rfl hw hdg h00 kk
abbrev zR_Chart_row : Room := { frames := 1, cells := 0, slots := 0, locals := 21 }
theorem zd_Chart_row_0 : decode zb_Chart_row 0 = .ok (.aload_n 0, 1) := by decide +kernel
theorem zd_Chart_row_1 : decode zb_Chart_row 1 = .ok (.getfield 44, 3) := by decide +kernel
theorem zd_Chart_row_4 : decode zb_Chart_row 4 = .ok (.iload_n 2, 1) := by decide +kernel
theorem zd_Chart_row_5 : decode zb_Chart_row 5 = .ok (.iadd, 1) := by decide +kernel
theorem zd_Chart_row_6 : decode zb_Chart_row 6 = .ok (.invokestatic 98, 3) := by decide +kernel
theorem zd_Chart_row_9 : decode zb_Chart_row 9 = .ok (.ifCond .eq 9, 3) := by decide +kernel
theorem zd_Chart_row_12 : decode zb_Chart_row 12 = .ok (.iconst 2, 1) := by decide +kernel
theorem zd_Chart_row_13 : decode zb_Chart_row 13 = .ok (.iload_n 3, 1) := by decide +kernel
theorem zd_Chart_row_14 : decode zb_Chart_row 14 = .ok (.iadd, 1) := by decide +kernel
theorem zd_Chart_row_15 : decode zb_Chart_row 15 = .ok (.goto 4, 3) := by decide +kernel
theorem zd_Chart_row_18 : decode zb_Chart_row 18 = .ok (.iload_n 3, 1) := by decide +kernel
theorem zd_Chart_row_19 : decode zb_Chart_row 19 = .ok (.bipush 24, 2) := by decide +kernel
theorem zd_Chart_row_21 : decode zb_Chart_row 21 = .ok (.imul, 1) := by decide +kernel
theorem zd_Chart_row_22 : decode zb_Chart_row 22 = .ok (.iload_n 1, 1) := by decide +kernel
theorem zd_Chart_row_23 : decode zb_Chart_row 23 = .ok (.iadd, 1) := by decide +kernel
theorem zd_Chart_row_24 : decode zb_Chart_row 24 = .ok (.ireturn, 1) := by decide +kernel
set_option maxHeartbeats 4000000 in
theorem zl_Chart_row_L19 {p : Program} {l : Launch} {e : Env} {s : State} {m : MethodId} {args : Array Value} {below : List Frame} {meth : Method} {c : Code} {D : va_G} {cA : Nat → ClassId} {ad : Nat → Nat} {A : Nat → Prop} (B : zu_B p s m args c zb_Chart_row 4 "StonePost$Chart" D cA ad A) (hret : meth.sig.returnType = (some .int)) (hlk : meth.locks = false) {X : IX} {Y : LX} {res : Int32} (x1 : Int32) (y0 : Int32) (H : Heap) (locs : List Loc) (ls : Array Slot) (hP : va_P D zu_cl (zu_pic cA ad X Y) H) (hS : va_S A s.heap H locs) (hl : lv_has ls 4 [(1, .int x1)]) (hf : fn_Chart_row_L19 X x1 y0 = some res) : W p l e zR_Chart_row s m args below meth c H locs 0 0 (MQ below (zu_Qi D cA ad A res X Y) args s 0 0 A) (F0 m 19 ls [.int y0]) := by
  obtain ⟨hx, hb, hml, hown, hts, hST⟩ := id B
  unfold fn_Chart_row_L19 at hf
  refine lv_bipush (v := 24) hx hb zd_Chart_row_19 (by decide) ?_
  refine lv_imul hx hb zd_Chart_row_21 ?_
  refine lv_iload_n hx hb zd_Chart_row_22 rfl (lv_at hl 0 rfl) ?_
  refine lv_iadd hx hb zd_Chart_row_23 ?_
  obtain rfl := Option.some.inj hf
  exact zr_iret hx hb hret hlk hP hS zd_Chart_row_24
set_option maxHeartbeats 4000000 in
theorem zl_Chart_row {p : Program} {l : Launch} {e : Env} {s : State} {m : MethodId} {args : Array Value} {below : List Frame} {meth : Method} {c : Code} {D : va_G} {cA : Nat → ClassId} {ad : Nat → Nat} {A : Nat → Prop} (B : zu_B p s m args c zb_Chart_row 4 "StonePost$Chart" D cA ad A) (hret : meth.sig.returnType = (some .int)) (hlk : meth.locks = false) {X : IX} {Y : LX} {res : Int32} {a1 : Int32} {a2 : Int32} {a3 : Int32} (H : Heap) (locs : List Loc) (ls : Array Slot) (hP : va_P D zu_cl (zu_pic cA ad X Y) H) (hS : va_S A s.heap H locs) (hl : lv_has ls 4 [(0, .ref (ad 1)), (1, .int a1), (2, .int a2), (3, .int a3)]) (hf : fn_Chart_row X a1 a2 a3 = some res) : W p l e zR_Chart_row s m args below meth c H locs 0 0 (MQ below (zu_Qi D cA ad A res X Y) args s 0 0 A) (F0 m 0 ls []) := by
  obtain ⟨hx, hb, hml, hown, hts, hST⟩ := id B
  unfold fn_Chart_row at hf
  refine lv_aload_n hx hb zd_Chart_row_0 rfl (lv_at hl 0 rfl) ?_
  refine zg_Chart_hour B hP rfl zq_119 zd_Chart_row_1 ?_
  refine lv_iload_n hx hb zd_Chart_row_4 rfl (lv_at hl 2 rfl) ?_
  refine lv_iadd hx hb zd_Chart_row_5 ?_
  obtain ⟨v1, hq2, hf⟩ := zu_b1_e hf
  refine zwN_Post_isNight (rest := []) B hP hS hq2 (hST.2.2.2.2.2.2.2.2.2.2.1) (Nat.le_of_ble_eq_true rfl) (Nat.le_of_ble_eq_true rfl) hl.1 rfl (Nat.le_of_ble_eq_true rfl) zd_Chart_row_6 (by decide) (fun H locs hP hS => ?_)
  clear hq2
  refine lv_if_eq (tgt := 18) hx hb zd_Chart_row_9 (by decide) (fun c3 => ?_) (fun c3 => ?_)
  · have hf := zu_t c3 hf
    refine lv_iload_n hx hb zd_Chart_row_18 rfl (lv_at hl 3 rfl) ?_
    exact zl_Chart_row_L19 B hret hlk a1 a3 _ _ _ hP hS (lv_sub hl [1] rfl) hf
  · have hf := zu_f c3 hf
    refine lv_iconst (v := 2) hx hb zd_Chart_row_12 (by decide) ?_
    refine lv_iload_n hx hb zd_Chart_row_13 rfl (lv_at hl 3 rfl) ?_
    refine lv_iadd hx hb zd_Chart_row_14 ?_
    refine lv_goto (tgt := 19) hx hb zd_Chart_row_15 (by decide) ?_
    exact zl_Chart_row_L19 B hret hlk a1 ((2 : Int32) + a3) _ _ _ hP hS (lv_sub hl [1] rfl) hf
theorem zC_Chart_row (l : Launch) {D : va_G} {cA : Nat → ClassId} {ad : Nat → Nat} {A : Nat → Prop} {a1 : Int32} {a2 : Int32} {a3 : Int32} {X : IX} {Y : LX} {res : Int32} (hf : fn_Chart_row X a1 a2 a3 = some res) : Met l zm_Chart_row (zu_ws zm_Chart_row zb_Chart_row 4 (some .int)) zR_Chart_row (va_Pc [.ref (ad 1), .int a1, .int a2, .int a3] (zu_Pre D cA ad A X Y)) (zu_Qi D cA ad A res X Y) 0 0 A := by
  refine Met.ofW (cc := zb_Chart_row) (maxL := 4) (ret := (some .int)) (by decide +kernel) rfl ?_
  intro p e s m args below meth c s₁ B0 hml hv
  obtain ⟨rfl, hP, hST⟩ := hv
  have B : zu_B p s m _ c zb_Chart_row 4 "StonePost$Chart" D cA ad A := ⟨B0.exec, B0.bytes, hml, findClass_of_methodNamed B0.named, (fun w hw => atoms_spec (ws := zu_ws zm_Chart_row zb_Chart_row 4 (some .int)) B0.pre w (List.mem_cons_of_mem _ hw)), hST⟩
  have hl := lv_entry ([.ref (ad 1), .int a1, .int a2, .int a3]) (n := 4) (Nat.le_of_ble_eq_true rfl)
  rw [lg_entry_eq]
  generalize (lg_sl ([.ref (ad 1), .int a1, .int a2, .int a3]) ++ List.replicate (4 - (lg_sl ([.ref (ad 1), .int a1, .int a2, .int a3])).length) Slot.unset).toArray = ls at hl ⊢
  exact zl_Chart_row B B0.returns B0.notSynchronized s.heap [] ls hP va_S.rf hl  hf
theorem zw_Chart_row {p : Program} {l : Launch} {e : Env} {R : Room} {s : State} {m : MethodId} {args : Array Value} {below : List Frame} {meth : Method} {c : Code} {H : Heap} {locs : List Loc} {cells slots : Nat} {Q : State → Prop} {cc : ByteArray} {pc nL : Nat} {ls : Array Slot} {rest st0 : List Value} {D : va_G} {cA : Nat → ClassId} {ad : Nat → Nat} {A : Nat → Prop} {X : IX} {Y : LX} {own : String} {index : Nat} {a1 : Int32} {a2 : Int32} {a3 : Int32} {v1 : Int32} (B : zu_B p s m args c cc nL own D cA ad A) (hP : va_P D zu_cl (zu_pic cA ad X Y) H) (hS : va_S A s.heap H locs) (hq : fn_Chart_row X a1 a2 a3 = some v1) (m1 : Cond.methodLink own index zm_Chart_row ∈ zu_TB) (hR1 : 1 + 1 ≤ R.frames) (hR2 : 8 + (4 + 11) + 21 ≤ R.locals) (hsz : ls.size = nL) (hst : st0 = .int a3 :: .int a2 :: .int a1 :: .ref (ad 1) :: rest) (hw : (rest.map fun v => v.category).sum ≤ 8) (hdg : decode cc pc = .ok (.invokevirtual index, 3)) (h00 : cells ≤ R.cells ∧ slots ≤ R.slots) (kk : ∀ (H1 : Heap) (locs1 : List Loc), va_P D zu_cl (zu_pic cA ad X Y) H1 → va_S A s.heap H1 locs1 → W p l e R s m args below meth c H1 locs1 cells slots Q (F0 m (pc + 3) ls (.int v1 :: rest))) : W p l e R s m args below meth c H locs cells slots Q (F0 m pc ls st0) := by
  subst hst
  exact zr_cVi (As := [.int a1, .int a2, .int a3]) (rest := rest) (n := 3) (C := "StonePost$Chart") (T := zt_Chart) (N := 9) B hP hS (zC_Chart_row l  hq) (K := 2) rfl (by decide) (by decide) rfl rfl m1 zq_428 zq_429 zq_5 zq_430 (by decide +kernel) ⟨hR1, hR2⟩ rfl rfl rfl hsz rfl hw hdg h00 kk
abbrev zR_Chart_chosenRow : Room := { frames := 2, cells := 0, slots := 0, locals := 44 }
theorem zd_Chart_chosenRow_0 : decode zb_Chart_chosenRow 0 = .ok (.aload_n 0, 1) := by decide +kernel
theorem zd_Chart_chosenRow_1 : decode zb_Chart_chosenRow 1 = .ok (.getfield 21, 3) := by decide +kernel
theorem zd_Chart_chosenRow_4 : decode zb_Chart_chosenRow 4 = .ok (.iload_n 1, 1) := by decide +kernel
theorem zd_Chart_chosenRow_5 : decode zb_Chart_chosenRow 5 = .ok (.iaload, 1) := by decide +kernel
theorem zd_Chart_chosenRow_6 : decode zb_Chart_chosenRow 6 = .ok (.istore 4, 2) := by decide +kernel
theorem zd_Chart_chosenRow_8 : decode zb_Chart_chosenRow 8 = .ok (.aload_n 0, 1) := by decide +kernel
theorem zd_Chart_chosenRow_9 : decode zb_Chart_chosenRow 9 = .ok (.iload_n 1, 1) := by decide +kernel
theorem zd_Chart_chosenRow_10 : decode zb_Chart_chosenRow 10 = .ok (.iload_n 2, 1) := by decide +kernel
theorem zd_Chart_chosenRow_11 : decode zb_Chart_chosenRow 11 = .ok (.iload 4, 2) := by decide +kernel
theorem zd_Chart_chosenRow_13 : decode zb_Chart_chosenRow 13 = .ok (.iconst (-1), 1) := by decide +kernel
theorem zd_Chart_chosenRow_14 : decode zb_Chart_chosenRow 14 = .ok (.if_icmp .ne 7, 3) := by decide +kernel
theorem zd_Chart_chosenRow_17 : decode zb_Chart_chosenRow 17 = .ok (.iconst 0, 1) := by decide +kernel
theorem zd_Chart_chosenRow_18 : decode zb_Chart_chosenRow 18 = .ok (.goto 9, 3) := by decide +kernel
theorem zd_Chart_chosenRow_21 : decode zb_Chart_chosenRow 21 = .ok (.iload_n 3, 1) := by decide +kernel
theorem zd_Chart_chosenRow_22 : decode zb_Chart_chosenRow 22 = .ok (.iload 4, 2) := by decide +kernel
theorem zd_Chart_chosenRow_24 : decode zb_Chart_chosenRow 24 = .ok (.ishr, 1) := by decide +kernel
theorem zd_Chart_chosenRow_25 : decode zb_Chart_chosenRow 25 = .ok (.iconst 1, 1) := by decide +kernel
theorem zd_Chart_chosenRow_26 : decode zb_Chart_chosenRow 26 = .ok (.iand, 1) := by decide +kernel
theorem zd_Chart_chosenRow_27 : decode zb_Chart_chosenRow 27 = .ok (.invokevirtual 101, 3) := by decide +kernel
theorem zd_Chart_chosenRow_30 : decode zb_Chart_chosenRow 30 = .ok (.ireturn, 1) := by decide +kernel
set_option maxHeartbeats 4000000 in
theorem zl_Chart_chosenRow_L27 {p : Program} {l : Launch} {e : Env} {s : State} {m : MethodId} {args : Array Value} {below : List Frame} {meth : Method} {c : Code} {D : va_G} {cA : Nat → ClassId} {ad : Nat → Nat} {A : Nat → Prop} (B : zu_B p s m args c zb_Chart_chosenRow 5 "StonePost$Chart" D cA ad A) (hret : meth.sig.returnType = (some .int)) (hlk : meth.locks = false) {X : IX} {Y : LX} {res : Int32} (y0 : Int32) (y1 : Int32) (y2 : Int32) (H : Heap) (locs : List Loc) (ls : Array Slot) (hP : va_P D zu_cl (zu_pic cA ad X Y) H) (hS : va_S A s.heap H locs) (hl : lv_has ls 5 []) (hf : fn_Chart_chosenRow_L27 X y0 y1 y2 = some res) : W p l e zR_Chart_chosenRow s m args below meth c H locs 0 0 (MQ below (zu_Qi D cA ad A res X Y) args s 0 0 A) (F0 m 27 ls [.int y0, .int y1, .int y2, .ref (ad 1)]) := by
  obtain ⟨hx, hb, hml, hown, hts, hST⟩ := id B
  unfold fn_Chart_chosenRow_L27 at hf
  obtain ⟨v4, hq5, hf⟩ := zu_b1_e hf
  refine zw_Chart_row (rest := []) B hP hS hq5 zq_427 (Nat.le_of_ble_eq_true rfl) (Nat.le_of_ble_eq_true rfl) hl.1 rfl (Nat.le_of_ble_eq_true rfl) zd_Chart_chosenRow_27 (by decide) (fun H locs hP hS => ?_)
  clear hq5
  obtain rfl := Option.some.inj hf
  exact zr_iret hx hb hret hlk hP hS zd_Chart_chosenRow_30
set_option maxHeartbeats 4000000 in
theorem zl_Chart_chosenRow {p : Program} {l : Launch} {e : Env} {s : State} {m : MethodId} {args : Array Value} {below : List Frame} {meth : Method} {c : Code} {D : va_G} {cA : Nat → ClassId} {ad : Nat → Nat} {A : Nat → Prop} (B : zu_B p s m args c zb_Chart_chosenRow 5 "StonePost$Chart" D cA ad A) (hret : meth.sig.returnType = (some .int)) (hlk : meth.locks = false) {X : IX} {Y : LX} {res : Int32} {a1 : Int32} {a2 : Int32} {a3 : Int32} (H : Heap) (locs : List Loc) (ls : Array Slot) (hP : va_P D zu_cl (zu_pic cA ad X Y) H) (hS : va_S A s.heap H locs) (hl : lv_has ls 5 [(0, .ref (ad 1)), (1, .int a1), (2, .int a2), (3, .int a3)]) (hf : fn_Chart_chosenRow X a1 a2 a3 = some res) : W p l e zR_Chart_chosenRow s m args below meth c H locs 0 0 (MQ below (zu_Qi D cA ad A res X Y) args s 0 0 A) (F0 m 0 ls []) := by
  obtain ⟨hx, hb, hml, hown, hts, hST⟩ := id B
  unfold fn_Chart_chosenRow at hf
  refine lv_aload_n hx hb zd_Chart_chosenRow_0 rfl (lv_at hl 0 rfl) ?_
  refine zg_Chart_throwersOn B hP rfl zq_112 zd_Chart_chosenRow_1 ?_
  refine lv_iload_n hx hb zd_Chart_chosenRow_4 rfl (lv_at hl 1 rfl) ?_
  obtain ⟨hg1, hf⟩ := zu_gd_e hf
  refine zr_iald rfl B hP rfl (by decide) rfl hg1 zd_Chart_chosenRow_5 ?_
  refine zr_nxi hf (fun v2 hf => ?_)
  refine lv_istore (lv' := [(4, .int v2), (0, .ref (ad 1)), (1, .int a1), (2, .int a2), (3, .int a3)]) hx hb zd_Chart_chosenRow_6 hl (by decide) rfl (fun ls hl => ?_)
  refine lv_aload_n hx hb zd_Chart_chosenRow_8 rfl (lv_at hl 1 rfl) ?_
  refine lv_iload_n hx hb zd_Chart_chosenRow_9 rfl (lv_at hl 2 rfl) ?_
  refine lv_iload_n hx hb zd_Chart_chosenRow_10 rfl (lv_at hl 3 rfl) ?_
  refine lv_iload hx hb zd_Chart_chosenRow_11 (lv_at hl 0 rfl) ?_
  refine lv_iconst (v := -1) hx hb zd_Chart_chosenRow_13 (by decide) ?_
  refine lv_icmp_ne (tgt := 21) hx hb zd_Chart_chosenRow_14 (by decide) (fun c3 => ?_) (fun c3 => ?_)
  · have hf := zu_f c3 hf
    refine lv_iload_n hx hb zd_Chart_chosenRow_21 rfl (lv_at hl 4 rfl) ?_
    refine lv_iload hx hb zd_Chart_chosenRow_22 (lv_at hl 0 rfl) ?_
    refine lv_ishr hx hb zd_Chart_chosenRow_24 ?_
    refine lv_iconst (v := 1) hx hb zd_Chart_chosenRow_25 (by decide) ?_
    refine lv_iand hx hb zd_Chart_chosenRow_26 ?_
    exact zl_Chart_chosenRow_L27 B hret hlk ((a3 >>> (v2 &&& 31)) &&& (1 : Int32)) a2 a1 _ _ _ hP hS (lv_sub hl [] rfl) hf
  · have hf := zu_t c3 hf
    refine lv_iconst (v := 0) hx hb zd_Chart_chosenRow_17 (by decide) ?_
    refine lv_goto (tgt := 27) hx hb zd_Chart_chosenRow_18 (by decide) ?_
    exact zl_Chart_chosenRow_L27 B hret hlk (0 : Int32) a2 a1 _ _ _ hP hS (lv_sub hl [] rfl) hf
theorem zC_Chart_chosenRow (l : Launch) {D : va_G} {cA : Nat → ClassId} {ad : Nat → Nat} {A : Nat → Prop} {a1 : Int32} {a2 : Int32} {a3 : Int32} {X : IX} {Y : LX} {res : Int32} (hf : fn_Chart_chosenRow X a1 a2 a3 = some res) : Met l zm_Chart_chosenRow (zu_ws zm_Chart_chosenRow zb_Chart_chosenRow 5 (some .int)) zR_Chart_chosenRow (va_Pc [.ref (ad 1), .int a1, .int a2, .int a3] (zu_Pre D cA ad A X Y)) (zu_Qi D cA ad A res X Y) 0 0 A := by
  refine Met.ofW (cc := zb_Chart_chosenRow) (maxL := 5) (ret := (some .int)) (by decide +kernel) rfl ?_
  intro p e s m args below meth c s₁ B0 hml hv
  obtain ⟨rfl, hP, hST⟩ := hv
  have B : zu_B p s m _ c zb_Chart_chosenRow 5 "StonePost$Chart" D cA ad A := ⟨B0.exec, B0.bytes, hml, findClass_of_methodNamed B0.named, (fun w hw => atoms_spec (ws := zu_ws zm_Chart_chosenRow zb_Chart_chosenRow 5 (some .int)) B0.pre w (List.mem_cons_of_mem _ hw)), hST⟩
  have hl := lv_entry ([.ref (ad 1), .int a1, .int a2, .int a3]) (n := 5) (Nat.le_of_ble_eq_true rfl)
  rw [lg_entry_eq]
  generalize (lg_sl ([.ref (ad 1), .int a1, .int a2, .int a3]) ++ List.replicate (5 - (lg_sl ([.ref (ad 1), .int a1, .int a2, .int a3])).length) Slot.unset).toArray = ls at hl ⊢
  exact zl_Chart_chosenRow B B0.returns B0.notSynchronized s.heap [] ls hP va_S.rf hl  hf
theorem zw_Chart_chosenRow {p : Program} {l : Launch} {e : Env} {R : Room} {s : State} {m : MethodId} {args : Array Value} {below : List Frame} {meth : Method} {c : Code} {H : Heap} {locs : List Loc} {cells slots : Nat} {Q : State → Prop} {cc : ByteArray} {pc nL : Nat} {ls : Array Slot} {rest st0 : List Value} {D : va_G} {cA : Nat → ClassId} {ad : Nat → Nat} {A : Nat → Prop} {X : IX} {Y : LX} {own : String} {index : Nat} {a1 : Int32} {a2 : Int32} {a3 : Int32} {v1 : Int32} (B : zu_B p s m args c cc nL own D cA ad A) (hP : va_P D zu_cl (zu_pic cA ad X Y) H) (hS : va_S A s.heap H locs) (hq : fn_Chart_chosenRow X a1 a2 a3 = some v1) (m1 : Cond.methodLink own index zm_Chart_chosenRow ∈ zu_TB) (hR1 : 2 + 1 ≤ R.frames) (hR2 : 8 + (5 + 11) + 44 ≤ R.locals) (hsz : ls.size = nL) (hst : st0 = .int a3 :: .int a2 :: .int a1 :: .ref (ad 1) :: rest) (hw : (rest.map fun v => v.category).sum ≤ 8) (hdg : decode cc pc = .ok (.invokevirtual index, 3)) (h00 : cells ≤ R.cells ∧ slots ≤ R.slots) (kk : ∀ (H1 : Heap) (locs1 : List Loc), va_P D zu_cl (zu_pic cA ad X Y) H1 → va_S A s.heap H1 locs1 → W p l e R s m args below meth c H1 locs1 cells slots Q (F0 m (pc + 3) ls (.int v1 :: rest))) : W p l e R s m args below meth c H locs cells slots Q (F0 m pc ls st0) := by
  subst hst
  exact zr_cVi (As := [.int a1, .int a2, .int a3]) (rest := rest) (n := 3) (C := "StonePost$Chart") (T := zt_Chart) (N := 9) B hP hS (zC_Chart_chosenRow l  hq) (K := 2) rfl (by decide) (by decide) rfl rfl m1 zq_424 zq_425 zq_5 zq_426 (by decide +kernel) ⟨hR1, hR2⟩ rfl rfl rfl hsz rfl hw hdg h00 kk
abbrev zR_Land_draw : Room := { frames := 0, cells := 0, slots := 0, locals := 0 }
theorem zd_Land_draw_0 : decode zb_Land_draw 0 = .ok (.aload_n 0, 1) := by decide +kernel
theorem zd_Land_draw_1 : decode zb_Land_draw 1 = .ok (.aload_n 0, 1) := by decide +kernel
theorem zd_Land_draw_2 : decode zb_Land_draw 2 = .ok (.getfield 34, 3) := by decide +kernel
theorem zd_Land_draw_5 : decode zb_Land_draw 5 = .ok (.ldc 91, 2) := by decide +kernel
theorem zd_Land_draw_7 : decode zb_Land_draw 7 = .ok (.imul, 1) := by decide +kernel
theorem zd_Land_draw_8 : decode zb_Land_draw 8 = .ok (.sipush 12345, 3) := by decide +kernel
theorem zd_Land_draw_11 : decode zb_Land_draw 11 = .ok (.iadd, 1) := by decide +kernel
theorem zd_Land_draw_12 : decode zb_Land_draw 12 = .ok (.putfield 34, 3) := by decide +kernel
theorem zd_Land_draw_15 : decode zb_Land_draw 15 = .ok (.aload_n 0, 1) := by decide +kernel
theorem zd_Land_draw_16 : decode zb_Land_draw 16 = .ok (.getfield 34, 3) := by decide +kernel
theorem zd_Land_draw_19 : decode zb_Land_draw 19 = .ok (.bipush 8, 2) := by decide +kernel
theorem zd_Land_draw_21 : decode zb_Land_draw 21 = .ok (.iushr, 1) := by decide +kernel
theorem zd_Land_draw_22 : decode zb_Land_draw 22 = .ok (.ireturn, 1) := by decide +kernel
set_option maxHeartbeats 4000000 in
theorem zl_Land_draw {p : Program} {l : Launch} {e : Env} {s : State} {m : MethodId} {args : Array Value} {below : List Frame} {meth : Method} {c : Code} {D : va_G} {cA : Nat → ClassId} {ad : Nat → Nat} {A : Nat → Prop} (B : zu_B p s m args c zb_Land_draw 1 "StonePost$Land" D cA ad A) (hret : meth.sig.returnType = (some .int)) (hlk : meth.locks = false) {Y : LX} {res : Int32 × IX} {r0 : Nat} {X : IX} (H : Heap) (locs : List Loc) (ls : Array Slot) (hP : va_P D zu_cl (zu_pic cA ad X Y) H) (hS : va_S A s.heap H locs) (hl : lv_has ls 1 [(0, .ref (ad r0))]) (hr0 : zu_kd r0 = 5) (hf : fn_Land_draw r0 X = some res) : W p l e zR_Land_draw s m args below meth c H locs 0 0 (MQ below (zu_Qi D cA ad A res.1 res.2 Y) args s 0 0 A) (F0 m 0 ls []) := by
  obtain ⟨hx, hb, hml, hown, hts, hST⟩ := id B
  unfold fn_Land_draw at hf
  refine lv_aload_n hx hb zd_Land_draw_0 rfl (lv_at hl 0 rfl) ?_
  refine lv_aload_n hx hb zd_Land_draw_1 rfl (lv_at hl 0 rfl) ?_
  refine zg_Land_z B hP hr0 zq_77 zd_Land_draw_2 ?_
  refine lv_ldc (v := 1103515245) hx hb hown (hts _ zq_440) zd_Land_draw_5 ?_
  refine lv_imul hx hb zd_Land_draw_7 ?_
  refine lv_sipush (v := 12345) hx hb zd_Land_draw_8 (by decide) ?_
  refine lv_iadd hx hb zd_Land_draw_11 ?_
  refine zp_Land_z B hP hS hf hr0 zq_77 zd_Land_draw_12 (fun X1 H locs hf hP hS => ?_)
  refine lv_aload_n hx hb zd_Land_draw_15 rfl (lv_at hl 0 rfl) ?_
  refine zg_Land_z B hP hr0 zq_77 zd_Land_draw_16 ?_
  refine lv_bipush (v := 8) hx hb zd_Land_draw_19 (by decide) ?_
  refine lv_iushr hx hb zd_Land_draw_21 rfl ?_
  obtain rfl := Option.some.inj hf
  exact zr_iret hx hb hret hlk hP hS zd_Land_draw_22
theorem zC_Land_draw (l : Launch) {D : va_G} {cA : Nat → ClassId} {ad : Nat → Nat} {A : Nat → Prop} {r0 : Nat} {X : IX} {Y : LX} {res : Int32 × IX} (hr0 : zu_kd r0 = 5) (hf : fn_Land_draw r0 X = some res) : Met l zm_Land_draw (zu_ws zm_Land_draw zb_Land_draw 1 (some .int)) zR_Land_draw (va_Pc [.ref (ad r0)] (zu_Pre D cA ad A X Y)) (zu_Qi D cA ad A res.1 res.2 Y) 0 0 A := by
  refine Met.ofW (cc := zb_Land_draw) (maxL := 1) (ret := (some .int)) (by decide +kernel) rfl ?_
  intro p e s m args below meth c s₁ B0 hml hv
  obtain ⟨rfl, hP, hST⟩ := hv
  have B : zu_B p s m _ c zb_Land_draw 1 "StonePost$Land" D cA ad A := ⟨B0.exec, B0.bytes, hml, findClass_of_methodNamed B0.named, (fun w hw => atoms_spec (ws := zu_ws zm_Land_draw zb_Land_draw 1 (some .int)) B0.pre w (List.mem_cons_of_mem _ hw)), hST⟩
  have hl := lv_entry ([.ref (ad r0)]) (n := 1) (Nat.le_of_ble_eq_true rfl)
  rw [lg_entry_eq]
  generalize (lg_sl ([.ref (ad r0)]) ++ List.replicate (1 - (lg_sl ([.ref (ad r0)])).length) Slot.unset).toArray = ls at hl ⊢
  exact zl_Land_draw B B0.returns B0.notSynchronized s.heap [] ls hP va_S.rf hl hr0 hf
theorem zw_Land_draw {p : Program} {l : Launch} {e : Env} {R : Room} {s : State} {m : MethodId} {args : Array Value} {below : List Frame} {meth : Method} {c : Code} {H : Heap} {locs : List Loc} {cells slots : Nat} {Q : State → Prop} {cc : ByteArray} {pc nL : Nat} {ls : Array Slot} {rest st0 : List Value} {D : va_G} {cA : Nat → ClassId} {ad : Nat → Nat} {A : Nat → Prop} {X : IX} {Y : LX} {own : String} {index : Nat} {r0 : Nat} {v1 : Int32} {X1 : IX} (B : zu_B p s m args c cc nL own D cA ad A) (hP : va_P D zu_cl (zu_pic cA ad X Y) H) (hS : va_S A s.heap H locs) (hr0 : zu_kd r0 = 5) (hq : fn_Land_draw r0 X = some (v1, X1)) (m1 : Cond.methodLink own index zm_Land_draw ∈ zu_TB) (hR1 : 0 + 1 ≤ R.frames) (hR2 : 8 + (1 + 11) + 0 ≤ R.locals) (hsz : ls.size = nL) (hst : st0 = .ref (ad r0) :: rest) (hw : (rest.map fun v => v.category).sum ≤ 8) (hdg : decode cc pc = .ok (.invokevirtual index, 3)) (h00 : cells ≤ R.cells ∧ slots ≤ R.slots) (kk : ∀ (H1 : Heap) (locs1 : List Loc), va_P D zu_cl (zu_pic cA ad X1 Y) H1 → va_S A s.heap H1 locs1 → W p l e R s m args below meth c H1 locs1 cells slots Q (F0 m (pc + 3) ls (.int v1 :: rest))) : W p l e R s m args below meth c H locs cells slots Q (F0 m pc ls st0) := by
  subst hst
  exact zr_cVi (As := []) (rest := rest) (n := 0) (C := "StonePost$Land") (T := zt_Land) (N := 10) B hP hS (zC_Land_draw l hr0 hq) (K := 5) hr0 (by decide) (by decide) rfl rfl m1 zq_437 zq_438 zq_2 zq_439 (by decide +kernel) ⟨hR1, hR2⟩ rfl rfl rfl hsz rfl hw hdg h00 kk
abbrev zR_Post_drawnCell : Room := { frames := 1, cells := 0, slots := 0, locals := 20 }
theorem zd_Post_drawnCell_0 : decode zb_Post_drawnCell 0 = .ok (.aload_n 0, 1) := by decide +kernel
theorem zd_Post_drawnCell_1 : decode zb_Post_drawnCell 1 = .ok (.getfield 25, 3) := by decide +kernel
theorem zd_Post_drawnCell_4 : decode zb_Post_drawnCell 4 = .ok (.getfield 308, 3) := by decide +kernel
theorem zd_Post_drawnCell_7 : decode zb_Post_drawnCell 7 = .ok (.iload_n 1, 1) := by decide +kernel
theorem zd_Post_drawnCell_8 : decode zb_Post_drawnCell 8 = .ok (.iaload, 1) := by decide +kernel
theorem zd_Post_drawnCell_9 : decode zb_Post_drawnCell 9 = .ok (.istore_n 2, 1) := by decide +kernel
theorem zd_Post_drawnCell_10 : decode zb_Post_drawnCell 10 = .ok (.iload_n 2, 1) := by decide +kernel
theorem zd_Post_drawnCell_11 : decode zb_Post_drawnCell 11 = .ok (.bipush 12, 2) := by decide +kernel
theorem zd_Post_drawnCell_13 : decode zb_Post_drawnCell 13 = .ok (.if_icmp .ne 13, 3) := by decide +kernel
theorem zd_Post_drawnCell_16 : decode zb_Post_drawnCell 16 = .ok (.aload_n 0, 1) := by decide +kernel
theorem zd_Post_drawnCell_17 : decode zb_Post_drawnCell 17 = .ok (.getfield 25, 3) := by decide +kernel
theorem zd_Post_drawnCell_20 : decode zb_Post_drawnCell 20 = .ok (.getfield 311, 3) := by decide +kernel
theorem zd_Post_drawnCell_23 : decode zb_Post_drawnCell 23 = .ok (.iload_n 1, 1) := by decide +kernel
theorem zd_Post_drawnCell_24 : decode zb_Post_drawnCell 24 = .ok (.iaload, 1) := by decide +kernel
theorem zd_Post_drawnCell_25 : decode zb_Post_drawnCell 25 = .ok (.ireturn, 1) := by decide +kernel
theorem zd_Post_drawnCell_26 : decode zb_Post_drawnCell 26 = .ok (.iload_n 2, 1) := by decide +kernel
theorem zd_Post_drawnCell_27 : decode zb_Post_drawnCell 27 = .ok (.ifCond .ne 13, 3) := by decide +kernel
theorem zd_Post_drawnCell_30 : decode zb_Post_drawnCell 30 = .ok (.aload_n 0, 1) := by decide +kernel
theorem zd_Post_drawnCell_31 : decode zb_Post_drawnCell 31 = .ok (.getfield 25, 3) := by decide +kernel
theorem zd_Post_drawnCell_34 : decode zb_Post_drawnCell 34 = .ok (.getfield 314, 3) := by decide +kernel
theorem zd_Post_drawnCell_37 : decode zb_Post_drawnCell 37 = .ok (.iload_n 1, 1) := by decide +kernel
theorem zd_Post_drawnCell_38 : decode zb_Post_drawnCell 38 = .ok (.iaload, 1) := by decide +kernel
theorem zd_Post_drawnCell_39 : decode zb_Post_drawnCell 39 = .ok (.ireturn, 1) := by decide +kernel
theorem zd_Post_drawnCell_40 : decode zb_Post_drawnCell 40 = .ok (.aload_n 0, 1) := by decide +kernel
theorem zd_Post_drawnCell_41 : decode zb_Post_drawnCell 41 = .ok (.getfield 10, 3) := by decide +kernel
theorem zd_Post_drawnCell_44 : decode zb_Post_drawnCell 44 = .ok (.invokevirtual 317, 3) := by decide +kernel
theorem zd_Post_drawnCell_47 : decode zb_Post_drawnCell 47 = .ok (.bipush 12, 2) := by decide +kernel
theorem zd_Post_drawnCell_49 : decode zb_Post_drawnCell 49 = .ok (.irem, 1) := by decide +kernel
theorem zd_Post_drawnCell_50 : decode zb_Post_drawnCell 50 = .ok (.iload_n 2, 1) := by decide +kernel
theorem zd_Post_drawnCell_51 : decode zb_Post_drawnCell 51 = .ok (.if_icmp .ge 15, 3) := by decide +kernel
theorem zd_Post_drawnCell_54 : decode zb_Post_drawnCell 54 = .ok (.aload_n 0, 1) := by decide +kernel
theorem zd_Post_drawnCell_55 : decode zb_Post_drawnCell 55 = .ok (.getfield 25, 3) := by decide +kernel
theorem zd_Post_drawnCell_58 : decode zb_Post_drawnCell 58 = .ok (.getfield 311, 3) := by decide +kernel
theorem zd_Post_drawnCell_61 : decode zb_Post_drawnCell 61 = .ok (.iload_n 1, 1) := by decide +kernel
theorem zd_Post_drawnCell_62 : decode zb_Post_drawnCell 62 = .ok (.iaload, 1) := by decide +kernel
theorem zd_Post_drawnCell_63 : decode zb_Post_drawnCell 63 = .ok (.goto 12, 3) := by decide +kernel
theorem zd_Post_drawnCell_66 : decode zb_Post_drawnCell 66 = .ok (.aload_n 0, 1) := by decide +kernel
theorem zd_Post_drawnCell_67 : decode zb_Post_drawnCell 67 = .ok (.getfield 25, 3) := by decide +kernel
theorem zd_Post_drawnCell_70 : decode zb_Post_drawnCell 70 = .ok (.getfield 314, 3) := by decide +kernel
theorem zd_Post_drawnCell_73 : decode zb_Post_drawnCell 73 = .ok (.iload_n 1, 1) := by decide +kernel
theorem zd_Post_drawnCell_74 : decode zb_Post_drawnCell 74 = .ok (.iaload, 1) := by decide +kernel
theorem zd_Post_drawnCell_75 : decode zb_Post_drawnCell 75 = .ok (.ireturn, 1) := by decide +kernel
set_option maxHeartbeats 4000000 in
theorem zl_Post_drawnCell_L75 {p : Program} {l : Launch} {e : Env} {s : State} {m : MethodId} {args : Array Value} {below : List Frame} {meth : Method} {c : Code} {D : va_G} {cA : Nat → ClassId} {ad : Nat → Nat} {A : Nat → Prop} (B : zu_B p s m args c zb_Post_drawnCell 3 "StonePost" D cA ad A) (hret : meth.sig.returnType = (some .int)) (hlk : meth.locks = false) {Y : LX} {res : Int32 × IX} (y0 : Int32) (X : IX) (H : Heap) (locs : List Loc) (ls : Array Slot) (hP : va_P D zu_cl (zu_pic cA ad X Y) H) (hS : va_S A s.heap H locs) (hl : lv_has ls 3 []) (hf : fn_Post_drawnCell_L75 y0 X = some res) : W p l e zR_Post_drawnCell s m args below meth c H locs 0 0 (MQ below (zu_Qi D cA ad A res.1 res.2 Y) args s 0 0 A) (F0 m 75 ls [.int y0]) := by
  obtain ⟨hx, hb, hml, hown, hts, hST⟩ := id B
  unfold fn_Post_drawnCell_L75 at hf
  obtain rfl := Option.some.inj hf
  exact zr_iret hx hb hret hlk hP hS zd_Post_drawnCell_75
set_option maxHeartbeats 4000000 in
theorem zl_Post_drawnCell {p : Program} {l : Launch} {e : Env} {s : State} {m : MethodId} {args : Array Value} {below : List Frame} {meth : Method} {c : Code} {D : va_G} {cA : Nat → ClassId} {ad : Nat → Nat} {A : Nat → Prop} (B : zu_B p s m args c zb_Post_drawnCell 3 "StonePost" D cA ad A) (hret : meth.sig.returnType = (some .int)) (hlk : meth.locks = false) {Y : LX} {res : Int32 × IX} {a1 : Int32} {X : IX} (H : Heap) (locs : List Loc) (ls : Array Slot) (hP : va_P D zu_cl (zu_pic cA ad X Y) H) (hS : va_S A s.heap H locs) (hl : lv_has ls 3 [(0, .ref (ad 0)), (1, .int a1)]) (hf : fn_Post_drawnCell a1 X = some res) : W p l e zR_Post_drawnCell s m args below meth c H locs 0 0 (MQ below (zu_Qi D cA ad A res.1 res.2 Y) args s 0 0 A) (F0 m 0 ls []) := by
  obtain ⟨hx, hb, hml, hown, hts, hST⟩ := id B
  unfold fn_Post_drawnCell at hf
  refine lv_aload_n hx hb zd_Post_drawnCell_0 rfl (lv_at hl 0 rfl) ?_
  refine zg_Post_chart B hP rfl zq_194 zd_Post_drawnCell_1 ?_
  refine zg_Chart_twelfths B hP rfl zq_111 zd_Post_drawnCell_4 ?_
  refine lv_iload_n hx hb zd_Post_drawnCell_7 rfl (lv_at hl 1 rfl) ?_
  obtain ⟨hg1, hf⟩ := zu_gd_e hf
  refine zr_iald rfl B hP rfl (by decide) rfl hg1 zd_Post_drawnCell_8 ?_
  refine zr_nxi hf (fun v2 hf => ?_)
  refine lv_istore_n (lv' := [(2, .int v2), (0, .ref (ad 0)), (1, .int a1)]) hx hb zd_Post_drawnCell_9 rfl hl (by decide) rfl (fun ls hl => ?_)
  refine lv_iload_n hx hb zd_Post_drawnCell_10 rfl (lv_at hl 0 rfl) ?_
  refine lv_bipush (v := 12) hx hb zd_Post_drawnCell_11 (by decide) ?_
  refine lv_icmp_ne (tgt := 26) hx hb zd_Post_drawnCell_13 (by decide) (fun c3 => ?_) (fun c3 => ?_)
  · have hf := zu_f c3 hf
    refine lv_iload_n hx hb zd_Post_drawnCell_26 rfl (lv_at hl 0 rfl) ?_
    refine lv_if_ne (tgt := 40) hx hb zd_Post_drawnCell_27 (by decide) (fun c4 => ?_) (fun c4 => ?_)
    · have hf := zu_f c4 hf
      refine lv_aload_n hx hb zd_Post_drawnCell_40 rfl (lv_at hl 1 rfl) ?_
      refine zg_Post_land B hP rfl zq_191 zd_Post_drawnCell_41 ?_
      obtain ⟨v5, X6, hq7, hf⟩ := zu_b2_e hf
      refine zw_Land_draw (rest := []) B hP hS rfl hq7 zq_436 (Nat.le_of_ble_eq_true rfl) (Nat.le_of_ble_eq_true rfl) hl.1 rfl (Nat.le_of_ble_eq_true rfl) zd_Post_drawnCell_44 (by decide) (fun H locs hP hS => ?_)
      clear hq7
      refine lv_bipush (v := 12) hx hb zd_Post_drawnCell_47 (by decide) ?_
      refine lv_irem hx hb zd_Post_drawnCell_49 (by decide) ?_
      refine lv_iload_n hx hb zd_Post_drawnCell_50 rfl (lv_at hl 0 rfl) ?_
      refine lv_icmp_ge (tgt := 66) hx hb zd_Post_drawnCell_51 (by decide) (fun c8 => ?_) (fun c8 => ?_)
      · have hf := zu_t c8 hf
        refine lv_aload_n hx hb zd_Post_drawnCell_66 rfl (lv_at hl 1 rfl) ?_
        refine zg_Post_chart B hP rfl zq_194 zd_Post_drawnCell_67 ?_
        refine zg_Chart_second B hP rfl zq_109 zd_Post_drawnCell_70 ?_
        refine lv_iload_n hx hb zd_Post_drawnCell_73 rfl (lv_at hl 2 rfl) ?_
        obtain ⟨hg9, hf⟩ := zu_gd_e hf
        refine zr_iald rfl B hP rfl (by decide) rfl hg9 zd_Post_drawnCell_74 ?_
        exact zl_Post_drawnCell_L75 B hret hlk (X6 3 (a1.toNatClampNeg)) X6 _ _ _ hP hS (lv_sub hl [] rfl) hf
      · have hf := zu_f c8 hf
        refine lv_aload_n hx hb zd_Post_drawnCell_54 rfl (lv_at hl 1 rfl) ?_
        refine zg_Post_chart B hP rfl zq_194 zd_Post_drawnCell_55 ?_
        refine zg_Chart_first B hP rfl zq_107 zd_Post_drawnCell_58 ?_
        refine lv_iload_n hx hb zd_Post_drawnCell_61 rfl (lv_at hl 2 rfl) ?_
        obtain ⟨hg10, hf⟩ := zu_gd_e hf
        refine zr_iald rfl B hP rfl (by decide) rfl hg10 zd_Post_drawnCell_62 ?_
        refine lv_goto (tgt := 75) hx hb zd_Post_drawnCell_63 (by decide) ?_
        exact zl_Post_drawnCell_L75 B hret hlk (X6 2 (a1.toNatClampNeg)) X6 _ _ _ hP hS (lv_sub hl [] rfl) hf
    · have hf := zu_t c4 hf
      refine lv_aload_n hx hb zd_Post_drawnCell_30 rfl (lv_at hl 1 rfl) ?_
      refine zg_Post_chart B hP rfl zq_194 zd_Post_drawnCell_31 ?_
      refine zg_Chart_second B hP rfl zq_109 zd_Post_drawnCell_34 ?_
      refine lv_iload_n hx hb zd_Post_drawnCell_37 rfl (lv_at hl 2 rfl) ?_
      obtain ⟨hg11, hf⟩ := zu_gd_e hf
      refine zr_iald rfl B hP rfl (by decide) rfl hg11 zd_Post_drawnCell_38 ?_
      obtain rfl := Option.some.inj hf
      exact zr_iret hx hb hret hlk hP hS zd_Post_drawnCell_39
  · have hf := zu_t c3 hf
    refine lv_aload_n hx hb zd_Post_drawnCell_16 rfl (lv_at hl 1 rfl) ?_
    refine zg_Post_chart B hP rfl zq_194 zd_Post_drawnCell_17 ?_
    refine zg_Chart_first B hP rfl zq_107 zd_Post_drawnCell_20 ?_
    refine lv_iload_n hx hb zd_Post_drawnCell_23 rfl (lv_at hl 2 rfl) ?_
    obtain ⟨hg12, hf⟩ := zu_gd_e hf
    refine zr_iald rfl B hP rfl (by decide) rfl hg12 zd_Post_drawnCell_24 ?_
    obtain rfl := Option.some.inj hf
    exact zr_iret hx hb hret hlk hP hS zd_Post_drawnCell_25
theorem zC_Post_drawnCell (l : Launch) {D : va_G} {cA : Nat → ClassId} {ad : Nat → Nat} {A : Nat → Prop} {a1 : Int32} {X : IX} {Y : LX} {res : Int32 × IX} (hf : fn_Post_drawnCell a1 X = some res) : Met l zm_Post_drawnCell (zu_ws zm_Post_drawnCell zb_Post_drawnCell 3 (some .int)) zR_Post_drawnCell (va_Pc [.ref (ad 0), .int a1] (zu_Pre D cA ad A X Y)) (zu_Qi D cA ad A res.1 res.2 Y) 0 0 A := by
  refine Met.ofW (cc := zb_Post_drawnCell) (maxL := 3) (ret := (some .int)) (by decide +kernel) rfl ?_
  intro p e s m args below meth c s₁ B0 hml hv
  obtain ⟨rfl, hP, hST⟩ := hv
  have B : zu_B p s m _ c zb_Post_drawnCell 3 "StonePost" D cA ad A := ⟨B0.exec, B0.bytes, hml, findClass_of_methodNamed B0.named, (fun w hw => atoms_spec (ws := zu_ws zm_Post_drawnCell zb_Post_drawnCell 3 (some .int)) B0.pre w (List.mem_cons_of_mem _ hw)), hST⟩
  have hl := lv_entry ([.ref (ad 0), .int a1]) (n := 3) (Nat.le_of_ble_eq_true rfl)
  rw [lg_entry_eq]
  generalize (lg_sl ([.ref (ad 0), .int a1]) ++ List.replicate (3 - (lg_sl ([.ref (ad 0), .int a1])).length) Slot.unset).toArray = ls at hl ⊢
  exact zl_Post_drawnCell B B0.returns B0.notSynchronized s.heap [] ls hP va_S.rf hl  hf
theorem zw_Post_drawnCell {p : Program} {l : Launch} {e : Env} {R : Room} {s : State} {m : MethodId} {args : Array Value} {below : List Frame} {meth : Method} {c : Code} {H : Heap} {locs : List Loc} {cells slots : Nat} {Q : State → Prop} {cc : ByteArray} {pc nL : Nat} {ls : Array Slot} {rest st0 : List Value} {D : va_G} {cA : Nat → ClassId} {ad : Nat → Nat} {A : Nat → Prop} {X : IX} {Y : LX} {own : String} {index : Nat} {a1 : Int32} {v1 : Int32} {X1 : IX} (B : zu_B p s m args c cc nL own D cA ad A) (hP : va_P D zu_cl (zu_pic cA ad X Y) H) (hS : va_S A s.heap H locs) (hq : fn_Post_drawnCell a1 X = some (v1, X1)) (m1 : Cond.methodLink own index zm_Post_drawnCell ∈ zu_TB) (hR1 : 1 + 1 ≤ R.frames) (hR2 : 8 + (3 + 11) + 20 ≤ R.locals) (hsz : ls.size = nL) (hst : st0 = .int a1 :: .ref (ad 0) :: rest) (hw : (rest.map fun v => v.category).sum ≤ 8) (hdg : decode cc pc = .ok (.invokevirtual index, 3)) (h00 : cells ≤ R.cells ∧ slots ≤ R.slots) (kk : ∀ (H1 : Heap) (locs1 : List Loc), va_P D zu_cl (zu_pic cA ad X1 Y) H1 → va_S A s.heap H1 locs1 → W p l e R s m args below meth c H1 locs1 cells slots Q (F0 m (pc + 3) ls (.int v1 :: rest))) : W p l e R s m args below meth c H locs cells slots Q (F0 m pc ls st0) := by
  subst hst
  exact zr_cVi (As := [.int a1]) (rest := rest) (n := 1) (C := "StonePost") (T := zt_Post) (N := 8) B hP hS (zC_Post_drawnCell l  hq) (K := 1) rfl (by decide) (by decide) rfl rfl m1 zq_434 zqP_11 zq_1 zq_435 (by decide +kernel) ⟨hR1, hR2⟩ rfl rfl rfl hsz rfl hw hdg h00 kk
abbrev zR_Post_passHour : Room := { frames := 3, cells := 0, slots := 0, locals := 68 }
theorem zd_Post_passHour_0 : decode zb_Post_passHour 0 = .ok (.iconst 0, 1) := by decide +kernel
theorem zd_Post_passHour_1 : decode zb_Post_passHour 1 = .ok (.istore_n 2, 1) := by decide +kernel
theorem zd_Post_passHour_2 : decode zb_Post_passHour 2 = .ok (.iconst 0, 1) := by decide +kernel
theorem zd_Post_passHour_3 : decode zb_Post_passHour 3 = .ok (.istore_n 3, 1) := by decide +kernel
theorem zd_Post_passHour_4 : decode zb_Post_passHour 4 = .ok (.iload_n 3, 1) := by decide +kernel
theorem zd_Post_passHour_5 : decode zb_Post_passHour 5 = .ok (.aload_n 0, 1) := by decide +kernel
theorem zd_Post_passHour_6 : decode zb_Post_passHour 6 = .ok (.getfield 10, 3) := by decide +kernel
theorem zd_Post_passHour_9 : decode zb_Post_passHour 9 = .ok (.getfield 130, 3) := by decide +kernel
theorem zd_Post_passHour_12 : decode zb_Post_passHour 12 = .ok (.if_icmp .ge 119, 3) := by decide +kernel
theorem zd_Post_passHour_15 : decode zb_Post_passHour 15 = .ok (.aload_n 0, 1) := by decide +kernel
theorem zd_Post_passHour_16 : decode zb_Post_passHour 16 = .ok (.getfield 10, 3) := by decide +kernel
theorem zd_Post_passHour_19 : decode zb_Post_passHour 19 = .ok (.getfield 127, 3) := by decide +kernel
theorem zd_Post_passHour_22 : decode zb_Post_passHour 22 = .ok (.iload_n 3, 1) := by decide +kernel
theorem zd_Post_passHour_23 : decode zb_Post_passHour 23 = .ok (.iaload, 1) := by decide +kernel
theorem zd_Post_passHour_24 : decode zb_Post_passHour 24 = .ok (.istore 4, 2) := by decide +kernel
theorem zd_Post_passHour_26 : decode zb_Post_passHour 26 = .ok (.aload_n 0, 1) := by decide +kernel
theorem zd_Post_passHour_27 : decode zb_Post_passHour 27 = .ok (.getfield 25, 3) := by decide +kernel
theorem zd_Post_passHour_30 : decode zb_Post_passHour 30 = .ok (.getfield 299, 3) := by decide +kernel
theorem zd_Post_passHour_33 : decode zb_Post_passHour 33 = .ok (.iload 4, 2) := by decide +kernel
theorem zd_Post_passHour_35 : decode zb_Post_passHour 35 = .ok (.iaload, 1) := by decide +kernel
theorem zd_Post_passHour_36 : decode zb_Post_passHour 36 = .ok (.istore 5, 2) := by decide +kernel
theorem zd_Post_passHour_38 : decode zb_Post_passHour 38 = .ok (.iload 5, 2) := by decide +kernel
theorem zd_Post_passHour_40 : decode zb_Post_passHour 40 = .ok (.iconst (-1), 1) := by decide +kernel
theorem zd_Post_passHour_41 : decode zb_Post_passHour 41 = .ok (.if_icmp .eq 23, 3) := by decide +kernel
theorem zd_Post_passHour_44 : decode zb_Post_passHour 44 = .ok (.aload_n 0, 1) := by decide +kernel
theorem zd_Post_passHour_45 : decode zb_Post_passHour 45 = .ok (.getfield 10, 3) := by decide +kernel
theorem zd_Post_passHour_48 : decode zb_Post_passHour 48 = .ok (.getfield 87, 3) := by decide +kernel
theorem zd_Post_passHour_51 : decode zb_Post_passHour 51 = .ok (.iload 5, 2) := by decide +kernel
theorem zd_Post_passHour_53 : decode zb_Post_passHour 53 = .ok (.aaload, 1) := by decide +kernel
theorem zd_Post_passHour_54 : decode zb_Post_passHour 54 = .ok (.getfield 91, 3) := by decide +kernel
theorem zd_Post_passHour_57 : decode zb_Post_passHour 57 = .ok (.bipush 8, 2) := by decide +kernel
theorem zd_Post_passHour_59 : decode zb_Post_passHour 59 = .ok (.dup2, 1) := by decide +kernel
theorem zd_Post_passHour_60 : decode zb_Post_passHour 60 = .ok (.iaload, 1) := by decide +kernel
theorem zd_Post_passHour_61 : decode zb_Post_passHour 61 = .ok (.iconst 1, 1) := by decide +kernel
theorem zd_Post_passHour_62 : decode zb_Post_passHour 62 = .ok (.iadd, 1) := by decide +kernel
theorem zd_Post_passHour_63 : decode zb_Post_passHour 63 = .ok (.iastore, 1) := by decide +kernel
theorem zd_Post_passHour_64 : decode zb_Post_passHour 64 = .ok (.aload_n 0, 1) := by decide +kernel
theorem zd_Post_passHour_65 : decode zb_Post_passHour 65 = .ok (.aload_n 0, 1) := by decide +kernel
theorem zd_Post_passHour_66 : decode zb_Post_passHour 66 = .ok (.getfield 25, 3) := by decide +kernel
theorem zd_Post_passHour_69 : decode zb_Post_passHour 69 = .ok (.iload 4, 2) := by decide +kernel
theorem zd_Post_passHour_71 : decode zb_Post_passHour 71 = .ok (.iload_n 1, 1) := by decide +kernel
theorem zd_Post_passHour_72 : decode zb_Post_passHour 72 = .ok (.aload_n 0, 1) := by decide +kernel
theorem zd_Post_passHour_73 : decode zb_Post_passHour 73 = .ok (.getfield 25, 3) := by decide +kernel
theorem zd_Post_passHour_76 : decode zb_Post_passHour 76 = .ok (.getfield 146, 3) := by decide +kernel
theorem zd_Post_passHour_79 : decode zb_Post_passHour 79 = .ok (.invokevirtual 302, 3) := by decide +kernel
theorem zd_Post_passHour_82 : decode zb_Post_passHour 82 = .ok (.invokevirtual 305, 3) := by decide +kernel
theorem zd_Post_passHour_85 : decode zb_Post_passHour 85 = .ok (.istore 6, 2) := by decide +kernel
theorem zd_Post_passHour_87 : decode zb_Post_passHour 87 = .ok (.iload 6, 2) := by decide +kernel
theorem zd_Post_passHour_89 : decode zb_Post_passHour 89 = .ok (.aload_n 0, 1) := by decide +kernel
theorem zd_Post_passHour_90 : decode zb_Post_passHour 90 = .ok (.getfield 10, 3) := by decide +kernel
theorem zd_Post_passHour_93 : decode zb_Post_passHour 93 = .ok (.getfield 63, 3) := by decide +kernel
theorem zd_Post_passHour_96 : decode zb_Post_passHour 96 = .ok (.if_icmp .ne 18, 3) := by decide +kernel
theorem zd_Post_passHour_99 : decode zb_Post_passHour 99 = .ok (.iload 4, 2) := by decide +kernel
theorem zd_Post_passHour_101 : decode zb_Post_passHour 101 = .ok (.aload_n 0, 1) := by decide +kernel
theorem zd_Post_passHour_102 : decode zb_Post_passHour 102 = .ok (.getfield 10, 3) := by decide +kernel
theorem zd_Post_passHour_105 : decode zb_Post_passHour 105 = .ok (.getfield 63, 3) := by decide +kernel
theorem zd_Post_passHour_108 : decode zb_Post_passHour 108 = .ok (.if_icmp .eq 6, 3) := by decide +kernel
theorem zd_Post_passHour_111 : decode zb_Post_passHour 111 = .ok (.iinc 2 1, 3) := by decide +kernel
theorem zd_Post_passHour_114 : decode zb_Post_passHour 114 = .ok (.aload_n 0, 1) := by decide +kernel
theorem zd_Post_passHour_115 : decode zb_Post_passHour 115 = .ok (.getfield 10, 3) := by decide +kernel
theorem zd_Post_passHour_118 : decode zb_Post_passHour 118 = .ok (.getfield 127, 3) := by decide +kernel
theorem zd_Post_passHour_121 : decode zb_Post_passHour 121 = .ok (.iload_n 3, 1) := by decide +kernel
theorem zd_Post_passHour_122 : decode zb_Post_passHour 122 = .ok (.iload 6, 2) := by decide +kernel
theorem zd_Post_passHour_124 : decode zb_Post_passHour 124 = .ok (.iastore, 1) := by decide +kernel
theorem zd_Post_passHour_125 : decode zb_Post_passHour 125 = .ok (.iinc 3 1, 3) := by decide +kernel
theorem zd_Post_passHour_128 : decode zb_Post_passHour 128 = .ok (.goto (-124), 3) := by decide +kernel
theorem zd_Post_passHour_131 : decode zb_Post_passHour 131 = .ok (.iload_n 2, 1) := by decide +kernel
theorem zd_Post_passHour_132 : decode zb_Post_passHour 132 = .ok (.ireturn, 1) := by decide +kernel
set_option maxHeartbeats 4000000 in
theorem zl_Post_passHour_L114 {p : Program} {l : Launch} {e : Env} {s : State} {m : MethodId} {args : Array Value} {below : List Frame} {meth : Method} {c : Code} {D : va_G} {cA : Nat → ClassId} {ad : Nat → Nat} {A : Nat → Prop} (B : zu_B p s m args c zb_Post_passHour 7 "StonePost" D cA ad A) (hret : meth.sig.returnType = (some .int)) (hlk : meth.locks = false) {Y : LX} {res : Int32 × IX} {k4 : Int32 → Int32 → Int32 → IX → Option (Int32 × IX)} (hk4 : ∀ (x1 : Int32) (x2 : Int32) (x3 : Int32) (X : IX) (H : Heap) (locs : List Loc) (ls : Array Slot), va_P D zu_cl (zu_pic cA ad X Y) H → va_S A s.heap H locs → lv_has ls 7 [(0, .ref (ad 0)), (1, .int x1), (2, .int x2), (3, .int x3)] → k4 x1 x2 x3 X = some res → W p l e zR_Post_passHour s m args below meth c H locs 0 0 (MQ below (zu_Qi D cA ad A res.1 res.2 Y) args s 0 0 A) (F0 m 4 ls [])) (x1 : Int32) (x2 : Int32) (x3 : Int32) (x6 : Int32) (X : IX) (H : Heap) (locs : List Loc) (ls : Array Slot) (hP : va_P D zu_cl (zu_pic cA ad X Y) H) (hS : va_S A s.heap H locs) (hl : lv_has ls 7 [(0, .ref (ad 0)), (1, .int x1), (2, .int x2), (3, .int x3), (6, .int x6)]) (hf : fn_Post_passHour_L114 k4 x1 x2 x3 x6 X = some res) : W p l e zR_Post_passHour s m args below meth c H locs 0 0 (MQ below (zu_Qi D cA ad A res.1 res.2 Y) args s 0 0 A) (F0 m 114 ls []) := by
  obtain ⟨hx, hb, hml, hown, hts, hST⟩ := id B
  unfold fn_Post_passHour_L114 at hf
  refine lv_aload_n hx hb zd_Post_passHour_114 rfl (lv_at hl 0 rfl) ?_
  refine zg_Post_land B hP rfl zq_191 zd_Post_passHour_115 ?_
  refine zg_Land_letterCells B hP rfl zq_58 zd_Post_passHour_118 ?_
  refine lv_iload_n hx hb zd_Post_passHour_121 rfl (lv_at hl 3 rfl) ?_
  refine lv_iload hx hb zd_Post_passHour_122 (lv_at hl 4 rfl) ?_
  obtain ⟨hg17, hf⟩ := zu_gd_e hf
  refine zr_iast rfl B hP hS hf (zk_Land_letterCells rfl) (by decide) rfl hg17 zd_Post_passHour_124 (fun X18 H locs hf hP hS => ?_)
  obtain ⟨v19, ev19, hf⟩ := zu_nx_e hf
  refine lv_iinc (v := v19) (lv' := [(3, .int v19), (0, .ref (ad 0)), (1, .int x1), (2, .int x2), (6, .int x6)]) hx hb zd_Post_passHour_125 hl (k := 3) rfl (by rw [ev19]; rfl) (by decide) rfl (fun ls hl => ?_)
  clear ev19
  refine lv_goto (tgt := 4) hx hb zd_Post_passHour_128 (by decide) ?_
  exact hk4 x1 x2 v19 X18 _ _ _ hP hS (lv_sub hl [1, 2, 3, 0] rfl) hf
set_option maxHeartbeats 4000000 in
theorem zl_Post_passHour_L64 {p : Program} {l : Launch} {e : Env} {s : State} {m : MethodId} {args : Array Value} {below : List Frame} {meth : Method} {c : Code} {D : va_G} {cA : Nat → ClassId} {ad : Nat → Nat} {A : Nat → Prop} (B : zu_B p s m args c zb_Post_passHour 7 "StonePost" D cA ad A) (hret : meth.sig.returnType = (some .int)) (hlk : meth.locks = false) {Y : LX} {res : Int32 × IX} {k4 : Int32 → Int32 → Int32 → IX → Option (Int32 × IX)} (hk4 : ∀ (x1 : Int32) (x2 : Int32) (x3 : Int32) (X : IX) (H : Heap) (locs : List Loc) (ls : Array Slot), va_P D zu_cl (zu_pic cA ad X Y) H → va_S A s.heap H locs → lv_has ls 7 [(0, .ref (ad 0)), (1, .int x1), (2, .int x2), (3, .int x3)] → k4 x1 x2 x3 X = some res → W p l e zR_Post_passHour s m args below meth c H locs 0 0 (MQ below (zu_Qi D cA ad A res.1 res.2 Y) args s 0 0 A) (F0 m 4 ls [])) (x1 : Int32) (x2 : Int32) (x3 : Int32) (x4 : Int32) (X : IX) (H : Heap) (locs : List Loc) (ls : Array Slot) (hP : va_P D zu_cl (zu_pic cA ad X Y) H) (hS : va_S A s.heap H locs) (hl : lv_has ls 7 [(0, .ref (ad 0)), (1, .int x1), (2, .int x2), (3, .int x3), (4, .int x4)]) (hf : fn_Post_passHour_L64 k4 x1 x2 x3 x4 X = some res) : W p l e zR_Post_passHour s m args below meth c H locs 0 0 (MQ below (zu_Qi D cA ad A res.1 res.2 Y) args s 0 0 A) (F0 m 64 ls []) := by
  obtain ⟨hx, hb, hml, hown, hts, hST⟩ := id B
  unfold fn_Post_passHour_L64 at hf
  refine lv_aload_n hx hb zd_Post_passHour_64 rfl (lv_at hl 0 rfl) ?_
  refine lv_aload_n hx hb zd_Post_passHour_65 rfl (lv_at hl 0 rfl) ?_
  refine zg_Post_chart B hP rfl zq_194 zd_Post_passHour_66 ?_
  refine lv_iload hx hb zd_Post_passHour_69 (lv_at hl 4 rfl) ?_
  refine lv_iload_n hx hb zd_Post_passHour_71 rfl (lv_at hl 1 rfl) ?_
  refine lv_aload_n hx hb zd_Post_passHour_72 rfl (lv_at hl 0 rfl) ?_
  refine zg_Post_chart B hP rfl zq_194 zd_Post_passHour_73 ?_
  refine zg_Chart_choices B hP rfl zq_118 zd_Post_passHour_76 ?_
  obtain ⟨v9, hq10, hf⟩ := zu_b1_e hf
  refine zw_Chart_chosenRow (rest := [.ref (ad 0)]) B hP hS hq10 zq_423 (Nat.le_of_ble_eq_true rfl) (Nat.le_of_ble_eq_true rfl) hl.1 rfl (Nat.le_of_ble_eq_true rfl) zd_Post_passHour_79 (by decide) (fun H locs hP hS => ?_)
  clear hq10
  obtain ⟨v11, X12, hq13, hf⟩ := zu_b2_e hf
  refine zw_Post_drawnCell (rest := []) B hP hS hq13 zq_432 (Nat.le_of_ble_eq_true rfl) (Nat.le_of_ble_eq_true rfl) hl.1 rfl (Nat.le_of_ble_eq_true rfl) zd_Post_passHour_82 (by decide) (fun H locs hP hS => ?_)
  clear hq13
  refine lv_istore (lv' := [(6, .int v11), (0, .ref (ad 0)), (1, .int x1), (2, .int x2), (3, .int x3), (4, .int x4)]) hx hb zd_Post_passHour_85 hl (by decide) rfl (fun ls hl => ?_)
  refine lv_iload hx hb zd_Post_passHour_87 (lv_at hl 0 rfl) ?_
  refine lv_aload_n hx hb zd_Post_passHour_89 rfl (lv_at hl 1 rfl) ?_
  refine zg_Post_land B hP rfl zq_191 zd_Post_passHour_90 ?_
  refine zg_Land_home B hP rfl zq_69 zd_Post_passHour_93 ?_
  refine lv_icmp_ne (tgt := 114) hx hb zd_Post_passHour_96 (by decide) (fun c14 => ?_) (fun c14 => ?_)
  · have hf := zu_f c14 hf
    exact zl_Post_passHour_L114 B hret hlk hk4 x1 x2 x3 v11 X12 _ _ _ hP hS (lv_sub hl [1, 2, 3, 4, 0] rfl) hf
  · have hf := zu_t c14 hf
    refine lv_iload hx hb zd_Post_passHour_99 (lv_at hl 5 rfl) ?_
    refine lv_aload_n hx hb zd_Post_passHour_101 rfl (lv_at hl 1 rfl) ?_
    refine zg_Post_land B hP rfl zq_191 zd_Post_passHour_102 ?_
    refine zg_Land_home B hP rfl zq_69 zd_Post_passHour_105 ?_
    refine lv_icmp_eq (tgt := 114) hx hb zd_Post_passHour_108 (by decide) (fun c15 => ?_) (fun c15 => ?_)
    · have hf := zu_t c15 hf
      exact zl_Post_passHour_L114 B hret hlk hk4 x1 x2 x3 v11 X12 _ _ _ hP hS (lv_sub hl [1, 2, 3, 4, 0] rfl) hf
    · have hf := zu_f c15 hf
      obtain ⟨v16, ev16, hf⟩ := zu_nx_e hf
      refine lv_iinc (v := v16) (lv' := [(2, .int v16), (6, .int v11), (0, .ref (ad 0)), (1, .int x1), (3, .int x3), (4, .int x4)]) hx hb zd_Post_passHour_111 hl (k := 3) rfl (by rw [ev16]; rfl) (by decide) rfl (fun ls hl => ?_)
      clear ev16
      exact zl_Post_passHour_L114 B hret hlk hk4 x1 v16 x3 v11 X12 _ _ _ hP hS (lv_sub hl [2, 3, 0, 4, 1] rfl) hf
set_option maxHeartbeats 4000000 in
theorem zl_Post_passHour_B4 {p : Program} {l : Launch} {e : Env} {s : State} {m : MethodId} {args : Array Value} {below : List Frame} {meth : Method} {c : Code} {D : va_G} {cA : Nat → ClassId} {ad : Nat → Nat} {A : Nat → Prop} (B : zu_B p s m args c zb_Post_passHour 7 "StonePost" D cA ad A) (hret : meth.sig.returnType = (some .int)) (hlk : meth.locks = false) {Y : LX} {res : Int32 × IX} {k4 : Int32 → Int32 → Int32 → IX → Option (Int32 × IX)} (hk4 : ∀ (x1 : Int32) (x2 : Int32) (x3 : Int32) (X : IX) (H : Heap) (locs : List Loc) (ls : Array Slot), va_P D zu_cl (zu_pic cA ad X Y) H → va_S A s.heap H locs → lv_has ls 7 [(0, .ref (ad 0)), (1, .int x1), (2, .int x2), (3, .int x3)] → k4 x1 x2 x3 X = some res → W p l e zR_Post_passHour s m args below meth c H locs 0 0 (MQ below (zu_Qi D cA ad A res.1 res.2 Y) args s 0 0 A) (F0 m 4 ls [])) (x1 : Int32) (x2 : Int32) (x3 : Int32) (X : IX) (H : Heap) (locs : List Loc) (ls : Array Slot) (hP : va_P D zu_cl (zu_pic cA ad X Y) H) (hS : va_S A s.heap H locs) (hl : lv_has ls 7 [(0, .ref (ad 0)), (1, .int x1), (2, .int x2), (3, .int x3)]) (hf : fn_Post_passHour_B4 k4 x1 x2 x3 X = some res) : W p l e zR_Post_passHour s m args below meth c H locs 0 0 (MQ below (zu_Qi D cA ad A res.1 res.2 Y) args s 0 0 A) (F0 m 4 ls []) := by
  obtain ⟨hx, hb, hml, hown, hts, hST⟩ := id B
  unfold fn_Post_passHour_B4 at hf
  refine lv_iload_n hx hb zd_Post_passHour_4 rfl (lv_at hl 3 rfl) ?_
  refine lv_aload_n hx hb zd_Post_passHour_5 rfl (lv_at hl 0 rfl) ?_
  refine zg_Post_land B hP rfl zq_191 zd_Post_passHour_6 ?_
  refine zg_Land_letterCount B hP rfl zq_66 zd_Post_passHour_9 ?_
  refine lv_icmp_ge (tgt := 131) hx hb zd_Post_passHour_12 (by decide) (fun c1 => ?_) (fun c1 => ?_)
  · have hf := zu_t c1 hf
    refine lv_iload_n hx hb zd_Post_passHour_131 rfl (lv_at hl 2 rfl) ?_
    obtain rfl := Option.some.inj hf
    exact zr_iret hx hb hret hlk hP hS zd_Post_passHour_132
  · have hf := zu_f c1 hf
    refine lv_aload_n hx hb zd_Post_passHour_15 rfl (lv_at hl 0 rfl) ?_
    refine zg_Post_land B hP rfl zq_191 zd_Post_passHour_16 ?_
    refine zg_Land_letterCells B hP rfl zq_58 zd_Post_passHour_19 ?_
    refine lv_iload_n hx hb zd_Post_passHour_22 rfl (lv_at hl 3 rfl) ?_
    obtain ⟨hg2, hf⟩ := zu_gd_e hf
    refine zr_iald rfl B hP (zk_Land_letterCells rfl) (by decide) rfl hg2 zd_Post_passHour_23 ?_
    refine zr_nxi hf (fun v3 hf => ?_)
    refine lv_istore (lv' := [(4, .int v3), (0, .ref (ad 0)), (1, .int x1), (2, .int x2), (3, .int x3)]) hx hb zd_Post_passHour_24 hl (by decide) rfl (fun ls hl => ?_)
    refine lv_aload_n hx hb zd_Post_passHour_26 rfl (lv_at hl 1 rfl) ?_
    refine zg_Post_chart B hP rfl zq_194 zd_Post_passHour_27 ?_
    refine zg_Chart_throwersOn B hP rfl zq_113 zd_Post_passHour_30 ?_
    refine lv_iload hx hb zd_Post_passHour_33 (lv_at hl 0 rfl) ?_
    obtain ⟨hg4, hf⟩ := zu_gd_e hf
    refine zr_iald rfl B hP rfl (by decide) rfl hg4 zd_Post_passHour_35 ?_
    refine zr_nxi hf (fun v5 hf => ?_)
    refine lv_istore (lv' := [(5, .int v5), (4, .int v3), (0, .ref (ad 0)), (1, .int x1), (2, .int x2), (3, .int x3)]) hx hb zd_Post_passHour_36 hl (by decide) rfl (fun ls hl => ?_)
    refine lv_iload hx hb zd_Post_passHour_38 (lv_at hl 0 rfl) ?_
    refine lv_iconst (v := -1) hx hb zd_Post_passHour_40 (by decide) ?_
    refine lv_icmp_eq (tgt := 64) hx hb zd_Post_passHour_41 (by decide) (fun c6 => ?_) (fun c6 => ?_)
    · have hf := zu_t c6 hf
      exact zl_Post_passHour_L64 B hret hlk hk4 x1 x2 x3 v3 X _ _ _ hP hS (lv_sub hl [2, 3, 4, 5, 1] rfl) hf
    · have hf := zu_f c6 hf
      refine lv_aload_n hx hb zd_Post_passHour_44 rfl (lv_at hl 2 rfl) ?_
      refine zg_Post_land B hP rfl zq_191 zd_Post_passHour_45 ?_
      refine zg_Land_throwers B hP rfl zq_55 zd_Post_passHour_48 ?_
      refine lv_iload hx hb zd_Post_passHour_51 (lv_at hl 0 rfl) ?_
      obtain ⟨hg7, hf⟩ := zu_gd_e hf
      refine zr_thr rfl B hP (zk_Land_throwers rfl) hg7 zd_Post_passHour_53 ?_
      refine zg_Thr_facts B hP (zk_thr (zk_Land_throwers rfl) (zu_ib_lt hg7)) zq_41 zd_Post_passHour_54 ?_
      refine lv_bipush (v := 8) hx hb zd_Post_passHour_57 (by decide) ?_
      refine lv_dup2_11 hx hb zd_Post_passHour_59 rfl rfl ?_
      refine zr_iald (j := 8) (by decide) B hP (zk_Thr_facts (zk_thr (zk_Land_throwers rfl) (zu_ib_lt hg7))) (by decide) rfl (by decide) zd_Post_passHour_60 ?_
      refine lv_iconst (v := 1) hx hb zd_Post_passHour_61 (by decide) ?_
      refine lv_iadd hx hb zd_Post_passHour_62 ?_
      refine zr_iast (j := 8) (by decide) B hP hS hf (zk_Thr_facts (zk_thr (zk_Land_throwers rfl) (zu_ib_lt hg7))) (by decide) rfl (by decide) zd_Post_passHour_63 (fun X8 H locs hf hP hS => ?_)
      exact zl_Post_passHour_L64 B hret hlk hk4 x1 x2 x3 v3 X8 _ _ _ hP hS (lv_sub hl [2, 3, 4, 5, 1] rfl) hf
theorem zl_Post_passHour_L4 {p : Program} {l : Launch} {e : Env} {s : State} {m : MethodId} {args : Array Value} {below : List Frame} {meth : Method} {c : Code} {D : va_G} {cA : Nat → ClassId} {ad : Nat → Nat} {A : Nat → Prop} (B : zu_B p s m args c zb_Post_passHour 7 "StonePost" D cA ad A) (hret : meth.sig.returnType = (some .int)) (hlk : meth.locks = false) {Y : LX} {res : Int32 × IX} : ∀ (n : Nat) (x1 : Int32) (x2 : Int32) (x3 : Int32) (X : IX) (H : Heap) (locs : List Loc) (ls : Array Slot), va_P D zu_cl (zu_pic cA ad X Y) H → va_S A s.heap H locs → lv_has ls 7 [(0, .ref (ad 0)), (1, .int x1), (2, .int x2), (3, .int x3)] → fn_Post_passHour_L4 n x1 x2 x3 X = some res → W p l e zR_Post_passHour s m args below meth c H locs 0 0 (MQ below (zu_Qi D cA ad A res.1 res.2 Y) args s 0 0 A) (F0 m 4 ls []) := by
  intro n
  induction n with
  | zero =>
    intro x1 x2 x3 X H locs ls hP hS hl hf
    exact (Option.some_ne_none _ hf.symm).elim
  | succ n ih =>
    intro x1 x2 x3 X H locs ls hP hS hl hf
    exact zl_Post_passHour_B4 B hret hlk ih x1 x2 x3 X H locs ls hP hS hl  hf
set_option maxHeartbeats 4000000 in
theorem zl_Post_passHour {p : Program} {l : Launch} {e : Env} {s : State} {m : MethodId} {args : Array Value} {below : List Frame} {meth : Method} {c : Code} {D : va_G} {cA : Nat → ClassId} {ad : Nat → Nat} {A : Nat → Prop} (B : zu_B p s m args c zb_Post_passHour 7 "StonePost" D cA ad A) (hret : meth.sig.returnType = (some .int)) (hlk : meth.locks = false) {Y : LX} {res : Int32 × IX} {a1 : Int32} {X : IX} (H : Heap) (locs : List Loc) (ls : Array Slot) (hP : va_P D zu_cl (zu_pic cA ad X Y) H) (hS : va_S A s.heap H locs) (hl : lv_has ls 7 [(0, .ref (ad 0)), (1, .int a1)]) (hf : fn_Post_passHour a1 X = some res) : W p l e zR_Post_passHour s m args below meth c H locs 0 0 (MQ below (zu_Qi D cA ad A res.1 res.2 Y) args s 0 0 A) (F0 m 0 ls []) := by
  obtain ⟨hx, hb, hml, hown, hts, hST⟩ := id B
  unfold fn_Post_passHour at hf
  refine lv_iconst (v := 0) hx hb zd_Post_passHour_0 (by decide) ?_
  refine lv_istore_n (lv' := [(2, .int (0 : Int32)), (0, .ref (ad 0)), (1, .int a1)]) hx hb zd_Post_passHour_1 rfl hl (by decide) rfl (fun ls hl => ?_)
  refine lv_iconst (v := 0) hx hb zd_Post_passHour_2 (by decide) ?_
  refine lv_istore_n (lv' := [(3, .int (0 : Int32)), (2, .int (0 : Int32)), (0, .ref (ad 0)), (1, .int a1)]) hx hb zd_Post_passHour_3 rfl hl (by decide) rfl (fun ls hl => ?_)
  exact zl_Post_passHour_L4 B hret hlk 400 a1 (0 : Int32) (0 : Int32) X _ _ _ hP hS (lv_sub hl [2, 3, 1, 0] rfl) hf
theorem zC_Post_passHour (l : Launch) {D : va_G} {cA : Nat → ClassId} {ad : Nat → Nat} {A : Nat → Prop} {a1 : Int32} {X : IX} {Y : LX} {res : Int32 × IX} (hf : fn_Post_passHour a1 X = some res) : Met l zm_Post_passHour (zu_ws zm_Post_passHour zb_Post_passHour 7 (some .int)) zR_Post_passHour (va_Pc [.ref (ad 0), .int a1] (zu_Pre D cA ad A X Y)) (zu_Qi D cA ad A res.1 res.2 Y) 0 0 A := by
  refine Met.ofW (cc := zb_Post_passHour) (maxL := 7) (ret := (some .int)) (by decide +kernel) rfl ?_
  intro p e s m args below meth c s₁ B0 hml hv
  obtain ⟨rfl, hP, hST⟩ := hv
  have B : zu_B p s m _ c zb_Post_passHour 7 "StonePost" D cA ad A := ⟨B0.exec, B0.bytes, hml, findClass_of_methodNamed B0.named, (fun w hw => atoms_spec (ws := zu_ws zm_Post_passHour zb_Post_passHour 7 (some .int)) B0.pre w (List.mem_cons_of_mem _ hw)), hST⟩
  have hl := lv_entry ([.ref (ad 0), .int a1]) (n := 7) (Nat.le_of_ble_eq_true rfl)
  rw [lg_entry_eq]
  generalize (lg_sl ([.ref (ad 0), .int a1]) ++ List.replicate (7 - (lg_sl ([.ref (ad 0), .int a1])).length) Slot.unset).toArray = ls at hl ⊢
  exact zl_Post_passHour B B0.returns B0.notSynchronized s.heap [] ls hP va_S.rf hl  hf
theorem zw_Post_passHour {p : Program} {l : Launch} {e : Env} {R : Room} {s : State} {m : MethodId} {args : Array Value} {below : List Frame} {meth : Method} {c : Code} {H : Heap} {locs : List Loc} {cells slots : Nat} {Q : State → Prop} {cc : ByteArray} {pc nL : Nat} {ls : Array Slot} {rest st0 : List Value} {D : va_G} {cA : Nat → ClassId} {ad : Nat → Nat} {A : Nat → Prop} {X : IX} {Y : LX} {own : String} {index : Nat} {a1 : Int32} {v1 : Int32} {X1 : IX} (B : zu_B p s m args c cc nL own D cA ad A) (hP : va_P D zu_cl (zu_pic cA ad X Y) H) (hS : va_S A s.heap H locs) (hq : fn_Post_passHour a1 X = some (v1, X1)) (m1 : Cond.methodLink own index zm_Post_passHour ∈ zu_TB) (hR1 : 3 + 1 ≤ R.frames) (hR2 : 8 + (7 + 11) + 68 ≤ R.locals) (hsz : ls.size = nL) (hst : st0 = .int a1 :: .ref (ad 0) :: rest) (hw : (rest.map fun v => v.category).sum ≤ 8) (hdg : decode cc pc = .ok (.invokevirtual index, 3)) (h00 : cells ≤ R.cells ∧ slots ≤ R.slots) (kk : ∀ (H1 : Heap) (locs1 : List Loc), va_P D zu_cl (zu_pic cA ad X1 Y) H1 → va_S A s.heap H1 locs1 → W p l e R s m args below meth c H1 locs1 cells slots Q (F0 m (pc + 3) ls (.int v1 :: rest))) : W p l e R s m args below meth c H locs cells slots Q (F0 m pc ls st0) := by
  subst hst
  exact zr_cVi (As := [.int a1]) (rest := rest) (n := 1) (C := "StonePost") (T := zt_Post) (N := 8) B hP hS (zC_Post_passHour l  hq) (K := 1) rfl (by decide) (by decide) rfl rfl m1 zq_421 zqP_10 zq_1 zq_422 (by decide +kernel) ⟨hR1, hR2⟩ rfl rfl rfl hsz rfl hw hdg h00 kk
abbrev zR_Post_hours : Room := { frames := 6, cells := 0, slots := 0, locals := 138 }
theorem zd_Post_hours_0 : decode zb_Post_hours 0 = .ok (.iload_n 1, 1) := by decide +kernel
theorem zd_Post_hours_1 : decode zb_Post_hours 1 = .ok (.iconst 1, 1) := by decide +kernel
theorem zd_Post_hours_2 : decode zb_Post_hours 2 = .ok (.bipush 48, 2) := by decide +kernel
theorem zd_Post_hours_4 : decode zb_Post_hours 4 = .ok (.invokestatic 51, 3) := by decide +kernel
theorem zd_Post_hours_7 : decode zb_Post_hours 7 = .ok (.ifCond .ne 10, 3) := by decide +kernel
theorem zd_Post_hours_10 : decode zb_Post_hours 10 = .ok (.aload_n 0, 1) := by decide +kernel
theorem zd_Post_hours_11 : decode zb_Post_hours 11 = .ok (.ldc 55, 2) := by decide +kernel
theorem zd_Post_hours_13 : decode zb_Post_hours 13 = .ok (.invokevirtual 56, 3) := by decide +kernel
theorem zd_Post_hours_16 : decode zb_Post_hours 16 = .ok (.ireturn, 1) := by decide +kernel
theorem zd_Post_hours_17 : decode zb_Post_hours 17 = .ok (.aload_n 0, 1) := by decide +kernel
theorem zd_Post_hours_18 : decode zb_Post_hours 18 = .ok (.getfield 10, 3) := by decide +kernel
theorem zd_Post_hours_21 : decode zb_Post_hours 21 = .ok (.getfield 133, 3) := by decide +kernel
theorem zd_Post_hours_24 : decode zb_Post_hours 24 = .ok (.iload_n 1, 1) := by decide +kernel
theorem zd_Post_hours_25 : decode zb_Post_hours 25 = .ok (.iadd, 1) := by decide +kernel
theorem zd_Post_hours_26 : decode zb_Post_hours 26 = .ok (.sipush 9999, 3) := by decide +kernel
theorem zd_Post_hours_29 : decode zb_Post_hours 29 = .ok (.if_icmp .le 10, 3) := by decide +kernel
theorem zd_Post_hours_32 : decode zb_Post_hours 32 = .ok (.aload_n 0, 1) := by decide +kernel
theorem zd_Post_hours_33 : decode zb_Post_hours 33 = .ok (.ldc 76, 2) := by decide +kernel
theorem zd_Post_hours_35 : decode zb_Post_hours 35 = .ok (.invokevirtual 56, 3) := by decide +kernel
theorem zd_Post_hours_38 : decode zb_Post_hours 38 = .ok (.ireturn, 1) := by decide +kernel
theorem zd_Post_hours_39 : decode zb_Post_hours 39 = .ok (.aload_n 0, 1) := by decide +kernel
theorem zd_Post_hours_40 : decode zb_Post_hours 40 = .ok (.getfield 25, 3) := by decide +kernel
theorem zd_Post_hours_43 : decode zb_Post_hours 43 = .ok (.aload_n 0, 1) := by decide +kernel
theorem zd_Post_hours_44 : decode zb_Post_hours 44 = .ok (.getfield 10, 3) := by decide +kernel
theorem zd_Post_hours_47 : decode zb_Post_hours 47 = .ok (.invokevirtual 136, 3) := by decide +kernel
theorem zd_Post_hours_50 : decode zb_Post_hours 50 = .ok (.iconst 0, 1) := by decide +kernel
theorem zd_Post_hours_51 : decode zb_Post_hours 51 = .ok (.istore_n 2, 1) := by decide +kernel
theorem zd_Post_hours_52 : decode zb_Post_hours 52 = .ok (.iconst 0, 1) := by decide +kernel
theorem zd_Post_hours_53 : decode zb_Post_hours 53 = .ok (.istore_n 3, 1) := by decide +kernel
theorem zd_Post_hours_54 : decode zb_Post_hours 54 = .ok (.iload_n 3, 1) := by decide +kernel
theorem zd_Post_hours_55 : decode zb_Post_hours 55 = .ok (.iload_n 1, 1) := by decide +kernel
theorem zd_Post_hours_56 : decode zb_Post_hours 56 = .ok (.if_icmp .ge 30, 3) := by decide +kernel
theorem zd_Post_hours_59 : decode zb_Post_hours 59 = .ok (.iload_n 2, 1) := by decide +kernel
theorem zd_Post_hours_60 : decode zb_Post_hours 60 = .ok (.aload_n 0, 1) := by decide +kernel
theorem zd_Post_hours_61 : decode zb_Post_hours 61 = .ok (.iload_n 3, 1) := by decide +kernel
theorem zd_Post_hours_62 : decode zb_Post_hours 62 = .ok (.invokevirtual 140, 3) := by decide +kernel
theorem zd_Post_hours_65 : decode zb_Post_hours 65 = .ok (.iadd, 1) := by decide +kernel
theorem zd_Post_hours_66 : decode zb_Post_hours 66 = .ok (.istore_n 2, 1) := by decide +kernel
theorem zd_Post_hours_67 : decode zb_Post_hours 67 = .ok (.aload_n 0, 1) := by decide +kernel
theorem zd_Post_hours_68 : decode zb_Post_hours 68 = .ok (.getfield 10, 3) := by decide +kernel
theorem zd_Post_hours_71 : decode zb_Post_hours 71 = .ok (.dup, 1) := by decide +kernel
theorem zd_Post_hours_72 : decode zb_Post_hours 72 = .ok (.getfield 133, 3) := by decide +kernel
theorem zd_Post_hours_75 : decode zb_Post_hours 75 = .ok (.iconst 1, 1) := by decide +kernel
theorem zd_Post_hours_76 : decode zb_Post_hours 76 = .ok (.iadd, 1) := by decide +kernel
theorem zd_Post_hours_77 : decode zb_Post_hours 77 = .ok (.putfield 133, 3) := by decide +kernel
theorem zd_Post_hours_80 : decode zb_Post_hours 80 = .ok (.iinc 3 1, 3) := by decide +kernel
theorem zd_Post_hours_83 : decode zb_Post_hours 83 = .ok (.goto (-29), 3) := by decide +kernel
theorem zd_Post_hours_86 : decode zb_Post_hours 86 = .ok (.iload_n 2, 1) := by decide +kernel
theorem zd_Post_hours_87 : decode zb_Post_hours 87 = .ok (.ireturn, 1) := by decide +kernel
set_option maxHeartbeats 4000000 in
theorem zl_Post_hours_B54 {p : Program} {l : Launch} {e : Env} {s : State} {m : MethodId} {args : Array Value} {below : List Frame} {meth : Method} {c : Code} {D : va_G} {cA : Nat → ClassId} {ad : Nat → Nat} {A : Nat → Prop} (B : zu_B p s m args c zb_Post_hours 4 "StonePost" D cA ad A) (hret : meth.sig.returnType = (some .int)) (hlk : meth.locks = false) {Y : LX} {res : Int32 × IX} {k54 : Int32 → Int32 → Int32 → IX → Option (Int32 × IX)} (hk54 : ∀ (x1 : Int32) (x2 : Int32) (x3 : Int32) (X : IX) (H : Heap) (locs : List Loc) (ls : Array Slot), va_P D zu_cl (zu_pic cA ad X Y) H → va_S A s.heap H locs → lv_has ls 4 [(0, .ref (ad 0)), (1, .int x1), (2, .int x2), (3, .int x3)] → k54 x1 x2 x3 X = some res → W p l e zR_Post_hours s m args below meth c H locs 0 0 (MQ below (zu_Qi D cA ad A res.1 res.2 Y) args s 0 0 A) (F0 m 54 ls [])) (x1 : Int32) (x2 : Int32) (x3 : Int32) (X : IX) (H : Heap) (locs : List Loc) (ls : Array Slot) (hP : va_P D zu_cl (zu_pic cA ad X Y) H) (hS : va_S A s.heap H locs) (hl : lv_has ls 4 [(0, .ref (ad 0)), (1, .int x1), (2, .int x2), (3, .int x3)]) (hf : fn_Post_hours_B54 k54 x1 x2 x3 X = some res) : W p l e zR_Post_hours s m args below meth c H locs 0 0 (MQ below (zu_Qi D cA ad A res.1 res.2 Y) args s 0 0 A) (F0 m 54 ls []) := by
  obtain ⟨hx, hb, hml, hown, hts, hST⟩ := id B
  unfold fn_Post_hours_B54 at hf
  refine lv_iload_n hx hb zd_Post_hours_54 rfl (lv_at hl 3 rfl) ?_
  refine lv_iload_n hx hb zd_Post_hours_55 rfl (lv_at hl 1 rfl) ?_
  refine lv_icmp_ge (tgt := 86) hx hb zd_Post_hours_56 (by decide) (fun c13 => ?_) (fun c13 => ?_)
  · have hf := zu_t c13 hf
    refine lv_iload_n hx hb zd_Post_hours_86 rfl (lv_at hl 2 rfl) ?_
    obtain rfl := Option.some.inj hf
    exact zr_iret hx hb hret hlk hP hS zd_Post_hours_87
  · have hf := zu_f c13 hf
    refine lv_iload_n hx hb zd_Post_hours_59 rfl (lv_at hl 2 rfl) ?_
    refine lv_aload_n hx hb zd_Post_hours_60 rfl (lv_at hl 0 rfl) ?_
    refine lv_iload_n hx hb zd_Post_hours_61 rfl (lv_at hl 3 rfl) ?_
    obtain ⟨v14, X15, hq16, hf⟩ := zu_b2_e hf
    refine zw_Post_passHour (rest := [.int x2]) B hP hS hq16 zq_419 (Nat.le_of_ble_eq_true rfl) (Nat.le_of_ble_eq_true rfl) hl.1 rfl (Nat.le_of_ble_eq_true rfl) zd_Post_hours_62 (by decide) (fun H locs hP hS => ?_)
    clear hq16
    refine lv_iadd hx hb zd_Post_hours_65 ?_
    refine zr_nxi hf (fun v17 hf => ?_)
    refine lv_istore_n (lv' := [(2, .int v17), (0, .ref (ad 0)), (1, .int x1), (3, .int x3)]) hx hb zd_Post_hours_66 rfl hl (by decide) rfl (fun ls hl => ?_)
    refine lv_aload_n hx hb zd_Post_hours_67 rfl (lv_at hl 1 rfl) ?_
    refine zg_Post_land B hP rfl zq_191 zd_Post_hours_68 ?_
    refine lv_dup hx hb zd_Post_hours_71 rfl ?_
    refine zg_Land_hour B hP rfl zq_76 zd_Post_hours_72 ?_
    refine lv_iconst (v := 1) hx hb zd_Post_hours_75 (by decide) ?_
    refine lv_iadd hx hb zd_Post_hours_76 ?_
    refine zp_Land_hour B hP hS hf rfl zq_76 zd_Post_hours_77 (fun X18 H locs hf hP hS => ?_)
    obtain ⟨v19, ev19, hf⟩ := zu_nx_e hf
    refine lv_iinc (v := v19) (lv' := [(3, .int v19), (2, .int v17), (0, .ref (ad 0)), (1, .int x1)]) hx hb zd_Post_hours_80 hl (k := 3) rfl (by rw [ev19]; rfl) (by decide) rfl (fun ls hl => ?_)
    clear ev19
    refine lv_goto (tgt := 54) hx hb zd_Post_hours_83 (by decide) ?_
    exact hk54 x1 v17 v19 X18 _ _ _ hP hS (lv_sub hl [2, 3, 1, 0] rfl) hf
theorem zl_Post_hours_L54 {p : Program} {l : Launch} {e : Env} {s : State} {m : MethodId} {args : Array Value} {below : List Frame} {meth : Method} {c : Code} {D : va_G} {cA : Nat → ClassId} {ad : Nat → Nat} {A : Nat → Prop} (B : zu_B p s m args c zb_Post_hours 4 "StonePost" D cA ad A) (hret : meth.sig.returnType = (some .int)) (hlk : meth.locks = false) {Y : LX} {res : Int32 × IX} : ∀ (n : Nat) (x1 : Int32) (x2 : Int32) (x3 : Int32) (X : IX) (H : Heap) (locs : List Loc) (ls : Array Slot), va_P D zu_cl (zu_pic cA ad X Y) H → va_S A s.heap H locs → lv_has ls 4 [(0, .ref (ad 0)), (1, .int x1), (2, .int x2), (3, .int x3)] → fn_Post_hours_L54 n x1 x2 x3 X = some res → W p l e zR_Post_hours s m args below meth c H locs 0 0 (MQ below (zu_Qi D cA ad A res.1 res.2 Y) args s 0 0 A) (F0 m 54 ls []) := by
  intro n
  induction n with
  | zero =>
    intro x1 x2 x3 X H locs ls hP hS hl hf
    exact (Option.some_ne_none _ hf.symm).elim
  | succ n ih =>
    intro x1 x2 x3 X H locs ls hP hS hl hf
    exact zl_Post_hours_B54 B hret hlk ih x1 x2 x3 X H locs ls hP hS hl  hf
set_option maxHeartbeats 4000000 in
theorem zl_Post_hours {p : Program} {l : Launch} {e : Env} {s : State} {m : MethodId} {args : Array Value} {below : List Frame} {meth : Method} {c : Code} {D : va_G} {cA : Nat → ClassId} {ad : Nat → Nat} {A : Nat → Prop} (B : zu_B p s m args c zb_Post_hours 4 "StonePost" D cA ad A) (hret : meth.sig.returnType = (some .int)) (hlk : meth.locks = false) {Y : LX} {res : Int32 × IX} {a1 : Int32} {X : IX} (H : Heap) (locs : List Loc) (ls : Array Slot) (hP : va_P D zu_cl (zu_pic cA ad X Y) H) (hS : va_S A s.heap H locs) (hl : lv_has ls 4 [(0, .ref (ad 0)), (1, .int a1)]) (hf : fn_Post_hours a1 X = some res) : W p l e zR_Post_hours s m args below meth c H locs 0 0 (MQ below (zu_Qi D cA ad A res.1 res.2 Y) args s 0 0 A) (F0 m 0 ls []) := by
  obtain ⟨hx, hb, hml, hown, hts, hST⟩ := id B
  unfold fn_Post_hours at hf
  refine lv_iload_n hx hb zd_Post_hours_0 rfl (lv_at hl 1 rfl) ?_
  refine lv_iconst (v := 1) hx hb zd_Post_hours_1 (by decide) ?_
  refine lv_bipush (v := 48) hx hb zd_Post_hours_2 (by decide) ?_
  obtain ⟨v1, hq2, hf⟩ := zu_b1_e hf
  refine zw_Post_isWithin (rest := []) B hP hS hq2 zq_223 (Nat.le_of_ble_eq_true rfl) (Nat.le_of_ble_eq_true rfl) hl.1 rfl (Nat.le_of_ble_eq_true rfl) zd_Post_hours_4 (by decide) (fun H locs hP hS => ?_)
  clear hq2
  refine lv_if_ne (tgt := 17) hx hb zd_Post_hours_7 (by decide) (fun c3 => ?_) (fun c3 => ?_)
  · have hf := zu_f c3 hf
    refine lv_aload_n hx hb zd_Post_hours_17 rfl (lv_at hl 0 rfl) ?_
    refine zg_Post_land B hP rfl zq_191 zd_Post_hours_18 ?_
    refine zg_Land_hour B hP rfl zq_76 zd_Post_hours_21 ?_
    refine lv_iload_n hx hb zd_Post_hours_24 rfl (lv_at hl 1 rfl) ?_
    refine lv_iadd hx hb zd_Post_hours_25 ?_
    refine lv_sipush (v := 9999) hx hb zd_Post_hours_26 (by decide) ?_
    refine lv_icmp_le (tgt := 39) hx hb zd_Post_hours_29 (by decide) (fun c4 => ?_) (fun c4 => ?_)
    · have hf := zu_t c4 hf
      refine lv_aload_n hx hb zd_Post_hours_39 rfl (lv_at hl 0 rfl) ?_
      refine zg_Post_chart B hP rfl zq_194 zd_Post_hours_40 ?_
      refine lv_aload_n hx hb zd_Post_hours_43 rfl (lv_at hl 0 rfl) ?_
      refine zg_Post_land B hP rfl zq_191 zd_Post_hours_44 ?_
      obtain ⟨X5, hq6, hf⟩ := zu_b1_e hf
      refine zw_Chart_lay (rest := []) B hP hS rfl hq6 zq_382 (Nat.le_of_ble_eq_true rfl) (Nat.le_of_ble_eq_true rfl) hl.1 rfl (Nat.le_of_ble_eq_true rfl) zd_Post_hours_47 (by decide) (fun H locs hP hS => ?_)
      clear hq6
      refine lv_iconst (v := 0) hx hb zd_Post_hours_50 (by decide) ?_
      refine lv_istore_n (lv' := [(2, .int (0 : Int32)), (0, .ref (ad 0)), (1, .int a1)]) hx hb zd_Post_hours_51 rfl hl (by decide) rfl (fun ls hl => ?_)
      refine lv_iconst (v := 0) hx hb zd_Post_hours_52 (by decide) ?_
      refine lv_istore_n (lv' := [(3, .int (0 : Int32)), (2, .int (0 : Int32)), (0, .ref (ad 0)), (1, .int a1)]) hx hb zd_Post_hours_53 rfl hl (by decide) rfl (fun ls hl => ?_)
      exact zl_Post_hours_L54 B hret hlk 400 a1 (0 : Int32) (0 : Int32) X5 _ _ _ hP hS (lv_sub hl [2, 3, 1, 0] rfl) hf
    · have hf := zu_f c4 hf
      refine lv_aload_n hx hb zd_Post_hours_32 rfl (lv_at hl 0 rfl) ?_
      refine lv_ldc (v := -1000005) hx hb hown (hts _ zq_246) zd_Post_hours_33 ?_
      obtain ⟨v7, X8, hq9, hf⟩ := zu_b2_e hf
      refine zw_Post_finding (rest := []) B hP hS hq9 zq_227 (Nat.le_of_ble_eq_true rfl) (Nat.le_of_ble_eq_true rfl) hl.1 rfl (Nat.le_of_ble_eq_true rfl) zd_Post_hours_35 (by decide) (fun H locs hP hS => ?_)
      clear hq9
      obtain rfl := Option.some.inj hf
      exact zr_iret hx hb hret hlk hP hS zd_Post_hours_38
  · have hf := zu_t c3 hf
    refine lv_aload_n hx hb zd_Post_hours_10 rfl (lv_at hl 0 rfl) ?_
    refine lv_ldc (v := -1000001) hx hb hown (hts _ zq_226) zd_Post_hours_11 ?_
    obtain ⟨v10, X11, hq12, hf⟩ := zu_b2_e hf
    refine zw_Post_finding (rest := []) B hP hS hq12 zq_227 (Nat.le_of_ble_eq_true rfl) (Nat.le_of_ble_eq_true rfl) hl.1 rfl (Nat.le_of_ble_eq_true rfl) zd_Post_hours_13 (by decide) (fun H locs hP hS => ?_)
    clear hq12
    obtain rfl := Option.some.inj hf
    exact zr_iret hx hb hret hlk hP hS zd_Post_hours_16
theorem zC_Post_hours (l : Launch) {D : va_G} {cA : Nat → ClassId} {ad : Nat → Nat} {A : Nat → Prop} {a1 : Int32} {X : IX} {Y : LX} {res : Int32 × IX} (hf : fn_Post_hours a1 X = some res) : Met l zm_Post_hours (zu_ws zm_Post_hours zb_Post_hours 4 (some .int)) zR_Post_hours (va_Pc [.ref (ad 0), .int a1] (zu_Pre D cA ad A X Y)) (zu_Qi D cA ad A res.1 res.2 Y) 0 0 A := by
  refine Met.ofW (cc := zb_Post_hours) (maxL := 4) (ret := (some .int)) (by decide +kernel) rfl ?_
  intro p e s m args below meth c s₁ B0 hml hv
  obtain ⟨rfl, hP, hST⟩ := hv
  have B : zu_B p s m _ c zb_Post_hours 4 "StonePost" D cA ad A := ⟨B0.exec, B0.bytes, hml, findClass_of_methodNamed B0.named, (fun w hw => atoms_spec (ws := zu_ws zm_Post_hours zb_Post_hours 4 (some .int)) B0.pre w (List.mem_cons_of_mem _ hw)), hST⟩
  have hl := lv_entry ([.ref (ad 0), .int a1]) (n := 4) (Nat.le_of_ble_eq_true rfl)
  rw [lg_entry_eq]
  generalize (lg_sl ([.ref (ad 0), .int a1]) ++ List.replicate (4 - (lg_sl ([.ref (ad 0), .int a1])).length) Slot.unset).toArray = ls at hl ⊢
  exact zl_Post_hours B B0.returns B0.notSynchronized s.heap [] ls hP va_S.rf hl  hf
theorem zw_Post_hours {p : Program} {l : Launch} {e : Env} {R : Room} {s : State} {m : MethodId} {args : Array Value} {below : List Frame} {meth : Method} {c : Code} {H : Heap} {locs : List Loc} {cells slots : Nat} {Q : State → Prop} {cc : ByteArray} {pc nL : Nat} {ls : Array Slot} {rest st0 : List Value} {D : va_G} {cA : Nat → ClassId} {ad : Nat → Nat} {A : Nat → Prop} {X : IX} {Y : LX} {own : String} {index : Nat} {a1 : Int32} {v1 : Int32} {X1 : IX} (B : zu_B p s m args c cc nL own D cA ad A) (hP : va_P D zu_cl (zu_pic cA ad X Y) H) (hS : va_S A s.heap H locs) (hq : fn_Post_hours a1 X = some (v1, X1)) (m1 : Cond.methodLink own index zm_Post_hours ∈ zu_TB) (hR1 : 6 + 1 ≤ R.frames) (hR2 : 8 + (4 + 11) + 138 ≤ R.locals) (hsz : ls.size = nL) (hst : st0 = .int a1 :: .ref (ad 0) :: rest) (hw : (rest.map fun v => v.category).sum ≤ 8) (hdg : decode cc pc = .ok (.invokevirtual index, 3)) (h00 : cells ≤ R.cells ∧ slots ≤ R.slots) (kk : ∀ (H1 : Heap) (locs1 : List Loc), va_P D zu_cl (zu_pic cA ad X1 Y) H1 → va_S A s.heap H1 locs1 → W p l e R s m args below meth c H1 locs1 cells slots Q (F0 m (pc + 3) ls (.int v1 :: rest))) : W p l e R s m args below meth c H locs cells slots Q (F0 m pc ls st0) := by
  subst hst
  exact zr_cVi (As := [.int a1]) (rest := rest) (n := 1) (C := "StonePost") (T := zt_Post) (N := 8) B hP hS (zC_Post_hours l  hq) (K := 1) rfl (by decide) (by decide) rfl rfl m1 zq_379 zq_380 zq_1 zq_381 (by decide +kernel) ⟨hR1, hR2⟩ rfl rfl rfl hsz rfl hw hdg h00 kk
abbrev zR_Post_letters : Room := { frames := 2, cells := 0, slots := 0, locals := 44 }
theorem zd_Post_letters_0 : decode zb_Post_letters 0 = .ok (.iload_n 1, 1) := by decide +kernel
theorem zd_Post_letters_1 : decode zb_Post_letters 1 = .ok (.iconst 0, 1) := by decide +kernel
theorem zd_Post_letters_2 : decode zb_Post_letters 2 = .ok (.iconst 2, 1) := by decide +kernel
theorem zd_Post_letters_3 : decode zb_Post_letters 3 = .ok (.invokestatic 51, 3) := by decide +kernel
theorem zd_Post_letters_6 : decode zb_Post_letters 6 = .ok (.ifCond .ne 10, 3) := by decide +kernel
theorem zd_Post_letters_9 : decode zb_Post_letters 9 = .ok (.aload_n 0, 1) := by decide +kernel
theorem zd_Post_letters_10 : decode zb_Post_letters 10 = .ok (.ldc 55, 2) := by decide +kernel
theorem zd_Post_letters_12 : decode zb_Post_letters 12 = .ok (.invokevirtual 56, 3) := by decide +kernel
theorem zd_Post_letters_15 : decode zb_Post_letters 15 = .ok (.ireturn, 1) := by decide +kernel
theorem zd_Post_letters_16 : decode zb_Post_letters 16 = .ok (.iconst 0, 1) := by decide +kernel
theorem zd_Post_letters_17 : decode zb_Post_letters 17 = .ok (.istore_n 2, 1) := by decide +kernel
theorem zd_Post_letters_18 : decode zb_Post_letters 18 = .ok (.iconst 0, 1) := by decide +kernel
theorem zd_Post_letters_19 : decode zb_Post_letters 19 = .ok (.istore_n 3, 1) := by decide +kernel
theorem zd_Post_letters_20 : decode zb_Post_letters 20 = .ok (.iload_n 3, 1) := by decide +kernel
theorem zd_Post_letters_21 : decode zb_Post_letters 21 = .ok (.aload_n 0, 1) := by decide +kernel
theorem zd_Post_letters_22 : decode zb_Post_letters 22 = .ok (.getfield 10, 3) := by decide +kernel
theorem zd_Post_letters_25 : decode zb_Post_letters 25 = .ok (.getfield 130, 3) := by decide +kernel
theorem zd_Post_letters_28 : decode zb_Post_letters 28 = .ok (.if_icmp .ge 32, 3) := by decide +kernel
theorem zd_Post_letters_31 : decode zb_Post_letters 31 = .ok (.aload_n 0, 1) := by decide +kernel
theorem zd_Post_letters_32 : decode zb_Post_letters 32 = .ok (.getfield 10, 3) := by decide +kernel
theorem zd_Post_letters_35 : decode zb_Post_letters 35 = .ok (.aload_n 0, 1) := by decide +kernel
theorem zd_Post_letters_36 : decode zb_Post_letters 36 = .ok (.getfield 10, 3) := by decide +kernel
theorem zd_Post_letters_39 : decode zb_Post_letters 39 = .ok (.getfield 127, 3) := by decide +kernel
theorem zd_Post_letters_42 : decode zb_Post_letters 42 = .ok (.iload_n 3, 1) := by decide +kernel
theorem zd_Post_letters_43 : decode zb_Post_letters 43 = .ok (.iaload, 1) := by decide +kernel
theorem zd_Post_letters_44 : decode zb_Post_letters 44 = .ok (.invokevirtual 143, 3) := by decide +kernel
theorem zd_Post_letters_47 : decode zb_Post_letters 47 = .ok (.iload_n 1, 1) := by decide +kernel
theorem zd_Post_letters_48 : decode zb_Post_letters 48 = .ok (.if_icmp .ne 6, 3) := by decide +kernel
theorem zd_Post_letters_51 : decode zb_Post_letters 51 = .ok (.iinc 2 1, 3) := by decide +kernel
theorem zd_Post_letters_54 : decode zb_Post_letters 54 = .ok (.iinc 3 1, 3) := by decide +kernel
theorem zd_Post_letters_57 : decode zb_Post_letters 57 = .ok (.goto (-37), 3) := by decide +kernel
theorem zd_Post_letters_60 : decode zb_Post_letters 60 = .ok (.iload_n 2, 1) := by decide +kernel
theorem zd_Post_letters_61 : decode zb_Post_letters 61 = .ok (.ireturn, 1) := by decide +kernel
set_option maxHeartbeats 4000000 in
theorem zl_Post_letters_L54 {p : Program} {l : Launch} {e : Env} {s : State} {m : MethodId} {args : Array Value} {below : List Frame} {meth : Method} {c : Code} {D : va_G} {cA : Nat → ClassId} {ad : Nat → Nat} {A : Nat → Prop} (B : zu_B p s m args c zb_Post_letters 4 "StonePost" D cA ad A) (hret : meth.sig.returnType = (some .int)) (hlk : meth.locks = false) {Y : LX} {res : Int32 × IX} {k20 : Int32 → Int32 → Int32 → IX → Option (Int32 × IX)} (hk20 : ∀ (x1 : Int32) (x2 : Int32) (x3 : Int32) (X : IX) (H : Heap) (locs : List Loc) (ls : Array Slot), va_P D zu_cl (zu_pic cA ad X Y) H → va_S A s.heap H locs → lv_has ls 4 [(0, .ref (ad 0)), (1, .int x1), (2, .int x2), (3, .int x3)] → k20 x1 x2 x3 X = some res → W p l e zR_Post_letters s m args below meth c H locs 0 0 (MQ below (zu_Qi D cA ad A res.1 res.2 Y) args s 0 0 A) (F0 m 20 ls [])) (x1 : Int32) (x2 : Int32) (x3 : Int32) (X : IX) (H : Heap) (locs : List Loc) (ls : Array Slot) (hP : va_P D zu_cl (zu_pic cA ad X Y) H) (hS : va_S A s.heap H locs) (hl : lv_has ls 4 [(0, .ref (ad 0)), (1, .int x1), (2, .int x2), (3, .int x3)]) (hf : fn_Post_letters_L54 k20 x1 x2 x3 X = some res) : W p l e zR_Post_letters s m args below meth c H locs 0 0 (MQ below (zu_Qi D cA ad A res.1 res.2 Y) args s 0 0 A) (F0 m 54 ls []) := by
  obtain ⟨hx, hb, hml, hown, hts, hST⟩ := id B
  unfold fn_Post_letters_L54 at hf
  obtain ⟨v13, ev13, hf⟩ := zu_nx_e hf
  refine lv_iinc (v := v13) (lv' := [(3, .int v13), (0, .ref (ad 0)), (1, .int x1), (2, .int x2)]) hx hb zd_Post_letters_54 hl (k := 3) rfl (by rw [ev13]; rfl) (by decide) rfl (fun ls hl => ?_)
  clear ev13
  refine lv_goto (tgt := 20) hx hb zd_Post_letters_57 (by decide) ?_
  exact hk20 x1 x2 v13 X _ _ _ hP hS (lv_sub hl [1, 2, 3, 0] rfl) hf
set_option maxHeartbeats 4000000 in
theorem zl_Post_letters_B20 {p : Program} {l : Launch} {e : Env} {s : State} {m : MethodId} {args : Array Value} {below : List Frame} {meth : Method} {c : Code} {D : va_G} {cA : Nat → ClassId} {ad : Nat → Nat} {A : Nat → Prop} (B : zu_B p s m args c zb_Post_letters 4 "StonePost" D cA ad A) (hret : meth.sig.returnType = (some .int)) (hlk : meth.locks = false) {Y : LX} {res : Int32 × IX} {k20 : Int32 → Int32 → Int32 → IX → Option (Int32 × IX)} (hk20 : ∀ (x1 : Int32) (x2 : Int32) (x3 : Int32) (X : IX) (H : Heap) (locs : List Loc) (ls : Array Slot), va_P D zu_cl (zu_pic cA ad X Y) H → va_S A s.heap H locs → lv_has ls 4 [(0, .ref (ad 0)), (1, .int x1), (2, .int x2), (3, .int x3)] → k20 x1 x2 x3 X = some res → W p l e zR_Post_letters s m args below meth c H locs 0 0 (MQ below (zu_Qi D cA ad A res.1 res.2 Y) args s 0 0 A) (F0 m 20 ls [])) (x1 : Int32) (x2 : Int32) (x3 : Int32) (X : IX) (H : Heap) (locs : List Loc) (ls : Array Slot) (hP : va_P D zu_cl (zu_pic cA ad X Y) H) (hS : va_S A s.heap H locs) (hl : lv_has ls 4 [(0, .ref (ad 0)), (1, .int x1), (2, .int x2), (3, .int x3)]) (hf : fn_Post_letters_B20 k20 x1 x2 x3 X = some res) : W p l e zR_Post_letters s m args below meth c H locs 0 0 (MQ below (zu_Qi D cA ad A res.1 res.2 Y) args s 0 0 A) (F0 m 20 ls []) := by
  obtain ⟨hx, hb, hml, hown, hts, hST⟩ := id B
  unfold fn_Post_letters_B20 at hf
  refine lv_iload_n hx hb zd_Post_letters_20 rfl (lv_at hl 3 rfl) ?_
  refine lv_aload_n hx hb zd_Post_letters_21 rfl (lv_at hl 0 rfl) ?_
  refine zg_Post_land B hP rfl zq_191 zd_Post_letters_22 ?_
  refine zg_Land_letterCount B hP rfl zq_66 zd_Post_letters_25 ?_
  refine lv_icmp_ge (tgt := 60) hx hb zd_Post_letters_28 (by decide) (fun c7 => ?_) (fun c7 => ?_)
  · have hf := zu_t c7 hf
    refine lv_iload_n hx hb zd_Post_letters_60 rfl (lv_at hl 2 rfl) ?_
    obtain rfl := Option.some.inj hf
    exact zr_iret hx hb hret hlk hP hS zd_Post_letters_61
  · have hf := zu_f c7 hf
    refine lv_aload_n hx hb zd_Post_letters_31 rfl (lv_at hl 0 rfl) ?_
    refine zg_Post_land B hP rfl zq_191 zd_Post_letters_32 ?_
    refine lv_aload_n hx hb zd_Post_letters_35 rfl (lv_at hl 0 rfl) ?_
    refine zg_Post_land B hP rfl zq_191 zd_Post_letters_36 ?_
    refine zg_Land_letterCells B hP rfl zq_58 zd_Post_letters_39 ?_
    refine lv_iload_n hx hb zd_Post_letters_42 rfl (lv_at hl 3 rfl) ?_
    obtain ⟨hg8, hf⟩ := zu_gd_e hf
    refine zr_iald rfl B hP (zk_Land_letterCells rfl) (by decide) rfl hg8 zd_Post_letters_43 ?_
    obtain ⟨v9, hq10, hf⟩ := zu_b1_e hf
    refine zw_Land_placeSort (rest := []) B hP hS rfl hq10 zq_445 (Nat.le_of_ble_eq_true rfl) (Nat.le_of_ble_eq_true rfl) hl.1 rfl (Nat.le_of_ble_eq_true rfl) zd_Post_letters_44 (by decide) (fun H locs hP hS => ?_)
    clear hq10
    refine lv_iload_n hx hb zd_Post_letters_47 rfl (lv_at hl 1 rfl) ?_
    refine lv_icmp_ne (tgt := 54) hx hb zd_Post_letters_48 (by decide) (fun c11 => ?_) (fun c11 => ?_)
    · have hf := zu_f c11 hf
      exact zl_Post_letters_L54 B hret hlk hk20 x1 x2 x3 X _ _ _ hP hS (lv_sub hl [0, 1, 2, 3] rfl) hf
    · have hf := zu_t c11 hf
      obtain ⟨v12, ev12, hf⟩ := zu_nx_e hf
      refine lv_iinc (v := v12) (lv' := [(2, .int v12), (0, .ref (ad 0)), (1, .int x1), (3, .int x3)]) hx hb zd_Post_letters_51 hl (k := 2) rfl (by rw [ev12]; rfl) (by decide) rfl (fun ls hl => ?_)
      clear ev12
      exact zl_Post_letters_L54 B hret hlk hk20 x1 v12 x3 X _ _ _ hP hS (lv_sub hl [1, 2, 0, 3] rfl) hf
theorem zl_Post_letters_L20 {p : Program} {l : Launch} {e : Env} {s : State} {m : MethodId} {args : Array Value} {below : List Frame} {meth : Method} {c : Code} {D : va_G} {cA : Nat → ClassId} {ad : Nat → Nat} {A : Nat → Prop} (B : zu_B p s m args c zb_Post_letters 4 "StonePost" D cA ad A) (hret : meth.sig.returnType = (some .int)) (hlk : meth.locks = false) {Y : LX} {res : Int32 × IX} : ∀ (n : Nat) (x1 : Int32) (x2 : Int32) (x3 : Int32) (X : IX) (H : Heap) (locs : List Loc) (ls : Array Slot), va_P D zu_cl (zu_pic cA ad X Y) H → va_S A s.heap H locs → lv_has ls 4 [(0, .ref (ad 0)), (1, .int x1), (2, .int x2), (3, .int x3)] → fn_Post_letters_L20 n x1 x2 x3 X = some res → W p l e zR_Post_letters s m args below meth c H locs 0 0 (MQ below (zu_Qi D cA ad A res.1 res.2 Y) args s 0 0 A) (F0 m 20 ls []) := by
  intro n
  induction n with
  | zero =>
    intro x1 x2 x3 X H locs ls hP hS hl hf
    exact (Option.some_ne_none _ hf.symm).elim
  | succ n ih =>
    intro x1 x2 x3 X H locs ls hP hS hl hf
    exact zl_Post_letters_B20 B hret hlk ih x1 x2 x3 X H locs ls hP hS hl  hf
set_option maxHeartbeats 4000000 in
theorem zl_Post_letters {p : Program} {l : Launch} {e : Env} {s : State} {m : MethodId} {args : Array Value} {below : List Frame} {meth : Method} {c : Code} {D : va_G} {cA : Nat → ClassId} {ad : Nat → Nat} {A : Nat → Prop} (B : zu_B p s m args c zb_Post_letters 4 "StonePost" D cA ad A) (hret : meth.sig.returnType = (some .int)) (hlk : meth.locks = false) {Y : LX} {res : Int32 × IX} {a1 : Int32} {X : IX} (H : Heap) (locs : List Loc) (ls : Array Slot) (hP : va_P D zu_cl (zu_pic cA ad X Y) H) (hS : va_S A s.heap H locs) (hl : lv_has ls 4 [(0, .ref (ad 0)), (1, .int a1)]) (hf : fn_Post_letters a1 X = some res) : W p l e zR_Post_letters s m args below meth c H locs 0 0 (MQ below (zu_Qi D cA ad A res.1 res.2 Y) args s 0 0 A) (F0 m 0 ls []) := by
  obtain ⟨hx, hb, hml, hown, hts, hST⟩ := id B
  unfold fn_Post_letters at hf
  refine lv_iload_n hx hb zd_Post_letters_0 rfl (lv_at hl 1 rfl) ?_
  refine lv_iconst (v := 0) hx hb zd_Post_letters_1 (by decide) ?_
  refine lv_iconst (v := 2) hx hb zd_Post_letters_2 (by decide) ?_
  obtain ⟨v1, hq2, hf⟩ := zu_b1_e hf
  refine zw_Post_isWithin (rest := []) B hP hS hq2 zq_223 (Nat.le_of_ble_eq_true rfl) (Nat.le_of_ble_eq_true rfl) hl.1 rfl (Nat.le_of_ble_eq_true rfl) zd_Post_letters_3 (by decide) (fun H locs hP hS => ?_)
  clear hq2
  refine lv_if_ne (tgt := 16) hx hb zd_Post_letters_6 (by decide) (fun c3 => ?_) (fun c3 => ?_)
  · have hf := zu_f c3 hf
    refine lv_iconst (v := 0) hx hb zd_Post_letters_16 (by decide) ?_
    refine lv_istore_n (lv' := [(2, .int (0 : Int32)), (0, .ref (ad 0)), (1, .int a1)]) hx hb zd_Post_letters_17 rfl hl (by decide) rfl (fun ls hl => ?_)
    refine lv_iconst (v := 0) hx hb zd_Post_letters_18 (by decide) ?_
    refine lv_istore_n (lv' := [(3, .int (0 : Int32)), (2, .int (0 : Int32)), (0, .ref (ad 0)), (1, .int a1)]) hx hb zd_Post_letters_19 rfl hl (by decide) rfl (fun ls hl => ?_)
    exact zl_Post_letters_L20 B hret hlk 400 a1 (0 : Int32) (0 : Int32) X _ _ _ hP hS (lv_sub hl [2, 3, 1, 0] rfl) hf
  · have hf := zu_t c3 hf
    refine lv_aload_n hx hb zd_Post_letters_9 rfl (lv_at hl 0 rfl) ?_
    refine lv_ldc (v := -1000001) hx hb hown (hts _ zq_226) zd_Post_letters_10 ?_
    obtain ⟨v4, X5, hq6, hf⟩ := zu_b2_e hf
    refine zw_Post_finding (rest := []) B hP hS hq6 zq_227 (Nat.le_of_ble_eq_true rfl) (Nat.le_of_ble_eq_true rfl) hl.1 rfl (Nat.le_of_ble_eq_true rfl) zd_Post_letters_12 (by decide) (fun H locs hP hS => ?_)
    clear hq6
    obtain rfl := Option.some.inj hf
    exact zr_iret hx hb hret hlk hP hS zd_Post_letters_15
theorem zC_Post_letters (l : Launch) {D : va_G} {cA : Nat → ClassId} {ad : Nat → Nat} {A : Nat → Prop} {a1 : Int32} {X : IX} {Y : LX} {res : Int32 × IX} (hf : fn_Post_letters a1 X = some res) : Met l zm_Post_letters (zu_ws zm_Post_letters zb_Post_letters 4 (some .int)) zR_Post_letters (va_Pc [.ref (ad 0), .int a1] (zu_Pre D cA ad A X Y)) (zu_Qi D cA ad A res.1 res.2 Y) 0 0 A := by
  refine Met.ofW (cc := zb_Post_letters) (maxL := 4) (ret := (some .int)) (by decide +kernel) rfl ?_
  intro p e s m args below meth c s₁ B0 hml hv
  obtain ⟨rfl, hP, hST⟩ := hv
  have B : zu_B p s m _ c zb_Post_letters 4 "StonePost" D cA ad A := ⟨B0.exec, B0.bytes, hml, findClass_of_methodNamed B0.named, (fun w hw => atoms_spec (ws := zu_ws zm_Post_letters zb_Post_letters 4 (some .int)) B0.pre w (List.mem_cons_of_mem _ hw)), hST⟩
  have hl := lv_entry ([.ref (ad 0), .int a1]) (n := 4) (Nat.le_of_ble_eq_true rfl)
  rw [lg_entry_eq]
  generalize (lg_sl ([.ref (ad 0), .int a1]) ++ List.replicate (4 - (lg_sl ([.ref (ad 0), .int a1])).length) Slot.unset).toArray = ls at hl ⊢
  exact zl_Post_letters B B0.returns B0.notSynchronized s.heap [] ls hP va_S.rf hl  hf
theorem zw_Post_letters {p : Program} {l : Launch} {e : Env} {R : Room} {s : State} {m : MethodId} {args : Array Value} {below : List Frame} {meth : Method} {c : Code} {H : Heap} {locs : List Loc} {cells slots : Nat} {Q : State → Prop} {cc : ByteArray} {pc nL : Nat} {ls : Array Slot} {rest st0 : List Value} {D : va_G} {cA : Nat → ClassId} {ad : Nat → Nat} {A : Nat → Prop} {X : IX} {Y : LX} {own : String} {index : Nat} {a1 : Int32} {v1 : Int32} {X1 : IX} (B : zu_B p s m args c cc nL own D cA ad A) (hP : va_P D zu_cl (zu_pic cA ad X Y) H) (hS : va_S A s.heap H locs) (hq : fn_Post_letters a1 X = some (v1, X1)) (m1 : Cond.methodLink own index zm_Post_letters ∈ zu_TB) (hR1 : 2 + 1 ≤ R.frames) (hR2 : 8 + (4 + 11) + 44 ≤ R.locals) (hsz : ls.size = nL) (hst : st0 = .int a1 :: .ref (ad 0) :: rest) (hw : (rest.map fun v => v.category).sum ≤ 8) (hdg : decode cc pc = .ok (.invokevirtual index, 3)) (h00 : cells ≤ R.cells ∧ slots ≤ R.slots) (kk : ∀ (H1 : Heap) (locs1 : List Loc), va_P D zu_cl (zu_pic cA ad X1 Y) H1 → va_S A s.heap H1 locs1 → W p l e R s m args below meth c H1 locs1 cells slots Q (F0 m (pc + 3) ls (.int v1 :: rest))) : W p l e R s m args below meth c H locs cells slots Q (F0 m pc ls st0) := by
  subst hst
  exact zr_cVi (As := [.int a1]) (rest := rest) (n := 1) (C := "StonePost") (T := zt_Post) (N := 8) B hP hS (zC_Post_letters l  hq) (K := 1) rfl (by decide) (by decide) rfl rfl m1 zq_442 zq_443 zq_1 zq_444 (by decide +kernel) ⟨hR1, hR2⟩ rfl rfl rfl hsz rfl hw hdg h00 kk
abbrev zR_Arr_fillJ_12 : Room := { frames := 0, cells := 0, slots := 0, locals := 0 }
theorem zd_Arr_fillJ_0 : decode zb_Arr_fillJ 0 = .ok (.iconst 0, 1) := by decide +kernel
theorem zd_Arr_fillJ_1 : decode zb_Arr_fillJ 1 = .ok (.istore_n 3, 1) := by decide +kernel
theorem zd_Arr_fillJ_2 : decode zb_Arr_fillJ 2 = .ok (.aload_n 0, 1) := by decide +kernel
theorem zd_Arr_fillJ_3 : decode zb_Arr_fillJ 3 = .ok (.arraylength, 1) := by decide +kernel
theorem zd_Arr_fillJ_4 : decode zb_Arr_fillJ 4 = .ok (.istore 4, 2) := by decide +kernel
theorem zd_Arr_fillJ_6 : decode zb_Arr_fillJ 6 = .ok (.iload_n 3, 1) := by decide +kernel
theorem zd_Arr_fillJ_7 : decode zb_Arr_fillJ 7 = .ok (.iload 4, 2) := by decide +kernel
theorem zd_Arr_fillJ_9 : decode zb_Arr_fillJ 9 = .ok (.if_icmp .ge 13, 3) := by decide +kernel
theorem zd_Arr_fillJ_12 : decode zb_Arr_fillJ 12 = .ok (.aload_n 0, 1) := by decide +kernel
theorem zd_Arr_fillJ_13 : decode zb_Arr_fillJ 13 = .ok (.iload_n 3, 1) := by decide +kernel
theorem zd_Arr_fillJ_14 : decode zb_Arr_fillJ 14 = .ok (.lload_n 1, 1) := by decide +kernel
theorem zd_Arr_fillJ_15 : decode zb_Arr_fillJ 15 = .ok (.lastore, 1) := by decide +kernel
theorem zd_Arr_fillJ_16 : decode zb_Arr_fillJ 16 = .ok (.iinc 3 1, 3) := by decide +kernel
theorem zd_Arr_fillJ_19 : decode zb_Arr_fillJ 19 = .ok (.goto (-13), 3) := by decide +kernel
theorem zd_Arr_fillJ_22 : decode zb_Arr_fillJ 22 = .ok (.return_, 1) := by decide +kernel
set_option maxHeartbeats 4000000 in
theorem zl_Arr_fillJ_12_B6 {p : Program} {l : Launch} {e : Env} {s : State} {m : MethodId} {args : Array Value} {below : List Frame} {meth : Method} {c : Code} {D : va_G} {cA : Nat → ClassId} {ad : Nat → Nat} {A : Nat → Prop} (B : zu_B p s m args c zb_Arr_fillJ 5 "java/util/Arrays" D cA ad A) (hret : meth.sig.returnType = none) (hlk : meth.locks = false) {X : IX} {res : LX} {k6 : Nat → Int64 → Int32 → Int32 → LX → Option LX} (hk6 : ∀ (r0 : Nat) (x1 : Int64) (x3 : Int32) (x4 : Int32) (Y : LX) (H : Heap) (locs : List Loc) (ls : Array Slot), va_P D zu_cl (zu_pic cA ad X Y) H → va_S A s.heap H locs → lv_has ls 5 [(0, .ref (ad r0)), (1, .long x1), (3, .int x3), (4, .int x4)] → zu_kd r0 = 12 → k6 r0 x1 x3 x4 Y = some res → W p l e zR_Arr_fillJ_12 s m args below meth c H locs 0 0 (MQ below (zu_Qv D cA ad A X res) args s 0 0 A) (F0 m 6 ls [])) (r0 : Nat) (x1 : Int64) (x3 : Int32) (x4 : Int32) (Y : LX) (H : Heap) (locs : List Loc) (ls : Array Slot) (hP : va_P D zu_cl (zu_pic cA ad X Y) H) (hS : va_S A s.heap H locs) (hl : lv_has ls 5 [(0, .ref (ad r0)), (1, .long x1), (3, .int x3), (4, .int x4)]) (hr0 : zu_kd r0 = 12) (hf : fn_Arr_fillJ_12_B6 k6 r0 x1 x3 x4 Y = some res) : W p l e zR_Arr_fillJ_12 s m args below meth c H locs 0 0 (MQ below (zu_Qv D cA ad A X res) args s 0 0 A) (F0 m 6 ls []) := by
  obtain ⟨hx, hb, hml, hown, hts, hST⟩ := id B
  unfold fn_Arr_fillJ_12_B6 at hf
  refine lv_iload_n hx hb zd_Arr_fillJ_6 rfl (lv_at hl 2 rfl) ?_
  refine lv_iload hx hb zd_Arr_fillJ_7 (lv_at hl 3 rfl) ?_
  refine lv_icmp_ge (tgt := 22) hx hb zd_Arr_fillJ_9 (by decide) (fun c1 => ?_) (fun c1 => ?_)
  · have hf := zu_t c1 hf
    obtain rfl := Option.some.inj hf
    exact zr_vret hx hb hret hlk hP hS zd_Arr_fillJ_22
  · have hf := zu_f c1 hf
    refine lv_aload_n hx hb zd_Arr_fillJ_12 rfl (lv_at hl 0 rfl) ?_
    refine lv_iload_n hx hb zd_Arr_fillJ_13 rfl (lv_at hl 2 rfl) ?_
    refine lv_lload_n hx hb zd_Arr_fillJ_14 rfl (lv_at hl 1 rfl) ?_
    obtain ⟨hg2, hf⟩ := zu_gd_e hf
    refine zr_last rfl B hP hS hf hr0 (by decide) rfl hg2 zd_Arr_fillJ_15 (fun Y3 H locs hf hP hS => ?_)
    obtain ⟨v4, ev4, hf⟩ := zu_nx_e hf
    refine lv_iinc (v := v4) (lv' := [(3, .int v4), (0, .ref (ad r0)), (1, .long x1), (4, .int x4)]) hx hb zd_Arr_fillJ_16 hl (k := 2) rfl (by rw [ev4]; rfl) (by decide) rfl (fun ls hl => ?_)
    clear ev4
    refine lv_goto (tgt := 6) hx hb zd_Arr_fillJ_19 (by decide) ?_
    exact hk6 r0 x1 v4 x4 Y3 _ _ _ hP hS (lv_sub hl [1, 2, 0, 3] rfl) hr0 hf
theorem zl_Arr_fillJ_12_L6 {p : Program} {l : Launch} {e : Env} {s : State} {m : MethodId} {args : Array Value} {below : List Frame} {meth : Method} {c : Code} {D : va_G} {cA : Nat → ClassId} {ad : Nat → Nat} {A : Nat → Prop} (B : zu_B p s m args c zb_Arr_fillJ 5 "java/util/Arrays" D cA ad A) (hret : meth.sig.returnType = none) (hlk : meth.locks = false) {X : IX} {res : LX} : ∀ (n : Nat) (r0 : Nat) (x1 : Int64) (x3 : Int32) (x4 : Int32) (Y : LX) (H : Heap) (locs : List Loc) (ls : Array Slot), va_P D zu_cl (zu_pic cA ad X Y) H → va_S A s.heap H locs → lv_has ls 5 [(0, .ref (ad r0)), (1, .long x1), (3, .int x3), (4, .int x4)] → zu_kd r0 = 12 → fn_Arr_fillJ_12_L6 n r0 x1 x3 x4 Y = some res → W p l e zR_Arr_fillJ_12 s m args below meth c H locs 0 0 (MQ below (zu_Qv D cA ad A X res) args s 0 0 A) (F0 m 6 ls []) := by
  intro n
  induction n with
  | zero =>
    intro r0 x1 x3 x4 Y H locs ls hP hS hl hr0 hf
    exact (Option.some_ne_none _ hf.symm).elim
  | succ n ih =>
    intro r0 x1 x3 x4 Y H locs ls hP hS hl hr0 hf
    exact zl_Arr_fillJ_12_B6 B hret hlk ih r0 x1 x3 x4 Y H locs ls hP hS hl hr0 hf
set_option maxHeartbeats 4000000 in
theorem zl_Arr_fillJ_12 {p : Program} {l : Launch} {e : Env} {s : State} {m : MethodId} {args : Array Value} {below : List Frame} {meth : Method} {c : Code} {D : va_G} {cA : Nat → ClassId} {ad : Nat → Nat} {A : Nat → Prop} (B : zu_B p s m args c zb_Arr_fillJ 5 "java/util/Arrays" D cA ad A) (hret : meth.sig.returnType = none) (hlk : meth.locks = false) {X : IX} {res : LX} {r0 : Nat} {a1 : Int64} {Y : LX} (H : Heap) (locs : List Loc) (ls : Array Slot) (hP : va_P D zu_cl (zu_pic cA ad X Y) H) (hS : va_S A s.heap H locs) (hl : lv_has ls 5 [(0, .ref (ad r0)), (1, .long a1)]) (hr0 : zu_kd r0 = 12) (hf : fn_Arr_fillJ_12 r0 a1 Y = some res) : W p l e zR_Arr_fillJ_12 s m args below meth c H locs 0 0 (MQ below (zu_Qv D cA ad A X res) args s 0 0 A) (F0 m 0 ls []) := by
  obtain ⟨hx, hb, hml, hown, hts, hST⟩ := id B
  unfold fn_Arr_fillJ_12 at hf
  refine lv_iconst (v := 0) hx hb zd_Arr_fillJ_0 (by decide) ?_
  refine lv_istore_n (lv' := [(3, .int (0 : Int32)), (0, .ref (ad r0)), (1, .long a1)]) hx hb zd_Arr_fillJ_1 rfl hl (by decide) rfl (fun ls hl => ?_)
  refine lv_aload_n hx hb zd_Arr_fillJ_2 rfl (lv_at hl 1 rfl) ?_
  refine zr_alen (v := 24) B hP hr0 (by decide) rfl (by decide) (by decide) zd_Arr_fillJ_3 ?_
  refine lv_istore (lv' := [(4, .int (24 : Int32)), (3, .int (0 : Int32)), (0, .ref (ad r0)), (1, .long a1)]) hx hb zd_Arr_fillJ_4 hl (by decide) rfl (fun ls hl => ?_)
  exact zl_Arr_fillJ_12_L6 B hret hlk 400 r0 a1 (0 : Int32) (24 : Int32) Y _ _ _ hP hS (lv_sub hl [2, 3, 1, 0] rfl) hr0 hf
theorem zC_Arr_fillJ_12 (l : Launch) {D : va_G} {cA : Nat → ClassId} {ad : Nat → Nat} {A : Nat → Prop} {r0 : Nat} {a1 : Int64} {X : IX} {Y : LX} {res : LX} (hr0 : zu_kd r0 = 12) (hf : fn_Arr_fillJ_12 r0 a1 Y = some res) : Met l zm_Arr_fillJ (zu_ws zm_Arr_fillJ zb_Arr_fillJ 5 none) zR_Arr_fillJ_12 (va_Pc [.ref (ad r0), .long a1] (zu_Pre D cA ad A X Y)) (zu_Qv D cA ad A X res) 0 0 A := by
  refine Met.ofW (cc := zb_Arr_fillJ) (maxL := 5) (ret := none) (by decide +kernel) rfl ?_
  intro p e s m args below meth c s₁ B0 hml hv
  obtain ⟨rfl, hP, hST⟩ := hv
  have B : zu_B p s m _ c zb_Arr_fillJ 5 "java/util/Arrays" D cA ad A := ⟨B0.exec, B0.bytes, hml, findClass_of_methodNamed B0.named, (fun w hw => atoms_spec (ws := zu_ws zm_Arr_fillJ zb_Arr_fillJ 5 none) B0.pre w (List.mem_cons_of_mem _ hw)), hST⟩
  have hl := lv_entry ([.ref (ad r0), .long a1]) (n := 5) (Nat.le_of_ble_eq_true rfl)
  rw [lg_entry_eq]
  generalize (lg_sl ([.ref (ad r0), .long a1]) ++ List.replicate (5 - (lg_sl ([.ref (ad r0), .long a1])).length) Slot.unset).toArray = ls at hl ⊢
  exact zl_Arr_fillJ_12 B B0.returns B0.notSynchronized s.heap [] ls hP va_S.rf hl hr0 hf
theorem zw_Arr_fillJ_12 {p : Program} {l : Launch} {e : Env} {R : Room} {s : State} {m : MethodId} {args : Array Value} {below : List Frame} {meth : Method} {c : Code} {H : Heap} {locs : List Loc} {cells slots : Nat} {Q : State → Prop} {cc : ByteArray} {pc nL : Nat} {ls : Array Slot} {rest st0 : List Value} {D : va_G} {cA : Nat → ClassId} {ad : Nat → Nat} {A : Nat → Prop} {X : IX} {Y : LX} {own : String} {index : Nat} {r0 : Nat} {a1 : Int64} {Y1 : LX} (B : zu_B p s m args c cc nL own D cA ad A) (hP : va_P D zu_cl (zu_pic cA ad X Y) H) (hS : va_S A s.heap H locs) (hr0 : zu_kd r0 = 12) (hq : fn_Arr_fillJ_12 r0 a1 Y = some Y1) (m1 : Cond.methodLink own index zm_Arr_fillJ ∈ zu_TB) (hR1 : 0 + 1 ≤ R.frames) (hR2 : 8 + (5 + 11) + 0 ≤ R.locals) (hsz : ls.size = nL) (hst : st0 = .long a1 :: .ref (ad r0) ::  rest) (hw : (rest.map fun v => v.category).sum ≤ 8) (hdg : decode cc pc = .ok (.invokestatic index, 3)) (h00 : cells ≤ R.cells ∧ slots ≤ R.slots) (kk : ∀ (H1 : Heap) (locs1 : List Loc), va_P D zu_cl (zu_pic cA ad X Y1) H1 → va_S A s.heap H1 locs1 → W p l e R s m args below meth c H1 locs1 cells slots Q (F0 m (pc + 3) ls (rest))) : W p l e R s m args below meth c H locs cells slots Q (F0 m pc ls st0) := by
  subst hst
  exact zr_cSv (As := [.ref (ad r0), .long a1]) (rest := rest) (n := 2) B hP hS (zC_Arr_fillJ_12 l hr0 hq) m1 zq_455 zq_4 zq_456 (by decide +kernel) ⟨hR1, hR2⟩ rfl rfl rfl hsz rfl hw hdg h00 kk
abbrev zR_Chart_spread : Room := { frames := 3, cells := 0, slots := 0, locals := 68 }
theorem zd_Chart_spread_0 : decode zb_Chart_spread 0 = .ok (.aload_n 0, 1) := by decide +kernel
theorem zd_Chart_spread_1 : decode zb_Chart_spread 1 = .ok (.getfield 24, 3) := by decide +kernel
theorem zd_Chart_spread_4 : decode zb_Chart_spread 4 = .ok (.lconst 0, 1) := by decide +kernel
theorem zd_Chart_spread_5 : decode zb_Chart_spread 5 = .ok (.invokestatic 111, 3) := by decide +kernel
theorem zd_Chart_spread_8 : decode zb_Chart_spread 8 = .ok (.aload_n 0, 1) := by decide +kernel
theorem zd_Chart_spread_9 : decode zb_Chart_spread 9 = .ok (.getfield 24, 3) := by decide +kernel
theorem zd_Chart_spread_12 : decode zb_Chart_spread 12 = .ok (.iload_n 1, 1) := by decide +kernel
theorem zd_Chart_spread_13 : decode zb_Chart_spread 13 = .ok (.lconst 1, 1) := by decide +kernel
theorem zd_Chart_spread_14 : decode zb_Chart_spread 14 = .ok (.lastore, 1) := by decide +kernel
theorem zd_Chart_spread_15 : decode zb_Chart_spread 15 = .ok (.iconst 0, 1) := by decide +kernel
theorem zd_Chart_spread_16 : decode zb_Chart_spread 16 = .ok (.istore 4, 2) := by decide +kernel
theorem zd_Chart_spread_18 : decode zb_Chart_spread 18 = .ok (.iload 4, 2) := by decide +kernel
theorem zd_Chart_spread_20 : decode zb_Chart_spread 20 = .ok (.iload_n 2, 1) := by decide +kernel
theorem zd_Chart_spread_21 : decode zb_Chart_spread 21 = .ok (.if_icmp .ge 136, 3) := by decide +kernel
theorem zd_Chart_spread_24 : decode zb_Chart_spread 24 = .ok (.aload_n 0, 1) := by decide +kernel
theorem zd_Chart_spread_25 : decode zb_Chart_spread 25 = .ok (.getfield 28, 3) := by decide +kernel
theorem zd_Chart_spread_28 : decode zb_Chart_spread 28 = .ok (.lconst 0, 1) := by decide +kernel
theorem zd_Chart_spread_29 : decode zb_Chart_spread 29 = .ok (.invokestatic 111, 3) := by decide +kernel
theorem zd_Chart_spread_32 : decode zb_Chart_spread 32 = .ok (.iconst 0, 1) := by decide +kernel
theorem zd_Chart_spread_33 : decode zb_Chart_spread 33 = .ok (.istore 5, 2) := by decide +kernel
theorem zd_Chart_spread_35 : decode zb_Chart_spread 35 = .ok (.iload 5, 2) := by decide +kernel
theorem zd_Chart_spread_37 : decode zb_Chart_spread 37 = .ok (.bipush 24, 2) := by decide +kernel
theorem zd_Chart_spread_39 : decode zb_Chart_spread 39 = .ok (.if_icmp .ge 97, 3) := by decide +kernel
theorem zd_Chart_spread_42 : decode zb_Chart_spread 42 = .ok (.aload_n 0, 1) := by decide +kernel
theorem zd_Chart_spread_43 : decode zb_Chart_spread 43 = .ok (.getfield 24, 3) := by decide +kernel
theorem zd_Chart_spread_46 : decode zb_Chart_spread 46 = .ok (.iload 5, 2) := by decide +kernel
theorem zd_Chart_spread_48 : decode zb_Chart_spread 48 = .ok (.laload, 1) := by decide +kernel
theorem zd_Chart_spread_49 : decode zb_Chart_spread 49 = .ok (.lconst 0, 1) := by decide +kernel
theorem zd_Chart_spread_50 : decode zb_Chart_spread 50 = .ok (.lcmp, 1) := by decide +kernel
theorem zd_Chart_spread_51 : decode zb_Chart_spread 51 = .ok (.ifCond .eq 79, 3) := by decide +kernel
theorem zd_Chart_spread_54 : decode zb_Chart_spread 54 = .ok (.aload_n 0, 1) := by decide +kernel
theorem zd_Chart_spread_55 : decode zb_Chart_spread 55 = .ok (.iload 5, 2) := by decide +kernel
theorem zd_Chart_spread_57 : decode zb_Chart_spread 57 = .ok (.iload 4, 2) := by decide +kernel
theorem zd_Chart_spread_59 : decode zb_Chart_spread 59 = .ok (.iload_n 3, 1) := by decide +kernel
theorem zd_Chart_spread_60 : decode zb_Chart_spread 60 = .ok (.invokevirtual 105, 3) := by decide +kernel
theorem zd_Chart_spread_63 : decode zb_Chart_spread 63 = .ok (.istore 6, 2) := by decide +kernel
theorem zd_Chart_spread_65 : decode zb_Chart_spread 65 = .ok (.aload_n 0, 1) := by decide +kernel
theorem zd_Chart_spread_66 : decode zb_Chart_spread 66 = .ok (.getfield 28, 3) := by decide +kernel
theorem zd_Chart_spread_69 : decode zb_Chart_spread 69 = .ok (.aload_n 0, 1) := by decide +kernel
theorem zd_Chart_spread_70 : decode zb_Chart_spread 70 = .ok (.getfield 11, 3) := by decide +kernel
theorem zd_Chart_spread_73 : decode zb_Chart_spread 73 = .ok (.iload 6, 2) := by decide +kernel
theorem zd_Chart_spread_75 : decode zb_Chart_spread 75 = .ok (.iaload, 1) := by decide +kernel
theorem zd_Chart_spread_76 : decode zb_Chart_spread 76 = .ok (.dup2, 1) := by decide +kernel
theorem zd_Chart_spread_77 : decode zb_Chart_spread 77 = .ok (.laload, 1) := by decide +kernel
theorem zd_Chart_spread_78 : decode zb_Chart_spread 78 = .ok (.aload_n 0, 1) := by decide +kernel
theorem zd_Chart_spread_79 : decode zb_Chart_spread 79 = .ok (.getfield 24, 3) := by decide +kernel
theorem zd_Chart_spread_82 : decode zb_Chart_spread 82 = .ok (.iload 5, 2) := by decide +kernel
theorem zd_Chart_spread_84 : decode zb_Chart_spread 84 = .ok (.laload, 1) := by decide +kernel
theorem zd_Chart_spread_85 : decode zb_Chart_spread 85 = .ok (.aload_n 0, 1) := by decide +kernel
theorem zd_Chart_spread_86 : decode zb_Chart_spread 86 = .ok (.getfield 18, 3) := by decide +kernel
theorem zd_Chart_spread_89 : decode zb_Chart_spread 89 = .ok (.iload 6, 2) := by decide +kernel
theorem zd_Chart_spread_91 : decode zb_Chart_spread 91 = .ok (.iaload, 1) := by decide +kernel
theorem zd_Chart_spread_92 : decode zb_Chart_spread 92 = .ok (.i2l, 1) := by decide +kernel
theorem zd_Chart_spread_93 : decode zb_Chart_spread 93 = .ok (.lmul, 1) := by decide +kernel
theorem zd_Chart_spread_94 : decode zb_Chart_spread 94 = .ok (.ladd, 1) := by decide +kernel
theorem zd_Chart_spread_95 : decode zb_Chart_spread 95 = .ok (.lastore, 1) := by decide +kernel
theorem zd_Chart_spread_96 : decode zb_Chart_spread 96 = .ok (.aload_n 0, 1) := by decide +kernel
theorem zd_Chart_spread_97 : decode zb_Chart_spread 97 = .ok (.getfield 28, 3) := by decide +kernel
theorem zd_Chart_spread_100 : decode zb_Chart_spread 100 = .ok (.aload_n 0, 1) := by decide +kernel
theorem zd_Chart_spread_101 : decode zb_Chart_spread 101 = .ok (.getfield 15, 3) := by decide +kernel
theorem zd_Chart_spread_104 : decode zb_Chart_spread 104 = .ok (.iload 6, 2) := by decide +kernel
theorem zd_Chart_spread_106 : decode zb_Chart_spread 106 = .ok (.iaload, 1) := by decide +kernel
theorem zd_Chart_spread_107 : decode zb_Chart_spread 107 = .ok (.dup2, 1) := by decide +kernel
theorem zd_Chart_spread_108 : decode zb_Chart_spread 108 = .ok (.laload, 1) := by decide +kernel
theorem zd_Chart_spread_109 : decode zb_Chart_spread 109 = .ok (.aload_n 0, 1) := by decide +kernel
theorem zd_Chart_spread_110 : decode zb_Chart_spread 110 = .ok (.getfield 24, 3) := by decide +kernel
theorem zd_Chart_spread_113 : decode zb_Chart_spread 113 = .ok (.iload 5, 2) := by decide +kernel
theorem zd_Chart_spread_115 : decode zb_Chart_spread 115 = .ok (.laload, 1) := by decide +kernel
theorem zd_Chart_spread_116 : decode zb_Chart_spread 116 = .ok (.bipush 12, 2) := by decide +kernel
theorem zd_Chart_spread_118 : decode zb_Chart_spread 118 = .ok (.aload_n 0, 1) := by decide +kernel
theorem zd_Chart_spread_119 : decode zb_Chart_spread 119 = .ok (.getfield 18, 3) := by decide +kernel
theorem zd_Chart_spread_122 : decode zb_Chart_spread 122 = .ok (.iload 6, 2) := by decide +kernel
theorem zd_Chart_spread_124 : decode zb_Chart_spread 124 = .ok (.iaload, 1) := by decide +kernel
theorem zd_Chart_spread_125 : decode zb_Chart_spread 125 = .ok (.isub, 1) := by decide +kernel
theorem zd_Chart_spread_126 : decode zb_Chart_spread 126 = .ok (.i2l, 1) := by decide +kernel
theorem zd_Chart_spread_127 : decode zb_Chart_spread 127 = .ok (.lmul, 1) := by decide +kernel
theorem zd_Chart_spread_128 : decode zb_Chart_spread 128 = .ok (.ladd, 1) := by decide +kernel
theorem zd_Chart_spread_129 : decode zb_Chart_spread 129 = .ok (.lastore, 1) := by decide +kernel
theorem zd_Chart_spread_130 : decode zb_Chart_spread 130 = .ok (.iinc 5 1, 3) := by decide +kernel
theorem zd_Chart_spread_133 : decode zb_Chart_spread 133 = .ok (.goto (-98), 3) := by decide +kernel
theorem zd_Chart_spread_136 : decode zb_Chart_spread 136 = .ok (.aload_n 0, 1) := by decide +kernel
theorem zd_Chart_spread_137 : decode zb_Chart_spread 137 = .ok (.getfield 28, 3) := by decide +kernel
theorem zd_Chart_spread_140 : decode zb_Chart_spread 140 = .ok (.iconst 0, 1) := by decide +kernel
theorem zd_Chart_spread_141 : decode zb_Chart_spread 141 = .ok (.aload_n 0, 1) := by decide +kernel
theorem zd_Chart_spread_142 : decode zb_Chart_spread 142 = .ok (.getfield 24, 3) := by decide +kernel
theorem zd_Chart_spread_145 : decode zb_Chart_spread 145 = .ok (.iconst 0, 1) := by decide +kernel
theorem zd_Chart_spread_146 : decode zb_Chart_spread 146 = .ok (.bipush 24, 2) := by decide +kernel
theorem zd_Chart_spread_148 : decode zb_Chart_spread 148 = .ok (.invokestatic 117, 3) := by decide +kernel
theorem zd_Chart_spread_151 : decode zb_Chart_spread 151 = .ok (.iinc 4 1, 3) := by decide +kernel
theorem zd_Chart_spread_154 : decode zb_Chart_spread 154 = .ok (.goto (-136), 3) := by decide +kernel
theorem zd_Chart_spread_157 : decode zb_Chart_spread 157 = .ok (.return_, 1) := by decide +kernel
set_option maxHeartbeats 4000000 in
theorem zl_Chart_spread_L130 {p : Program} {l : Launch} {e : Env} {s : State} {m : MethodId} {args : Array Value} {below : List Frame} {meth : Method} {c : Code} {D : va_G} {cA : Nat → ClassId} {ad : Nat → Nat} {A : Nat → Prop} (B : zu_B p s m args c zb_Chart_spread 7 "StonePost$Chart" D cA ad A) (hret : meth.sig.returnType = none) (hlk : meth.locks = false) {X : IX} {res : LX} {k18 : Int32 → Int32 → Int32 → LX → Option LX} (hk18 : ∀ (x2 : Int32) (x3 : Int32) (x4 : Int32) (Y : LX) (H : Heap) (locs : List Loc) (ls : Array Slot), va_P D zu_cl (zu_pic cA ad X Y) H → va_S A s.heap H locs → lv_has ls 7 [(0, .ref (ad 1)), (2, .int x2), (3, .int x3), (4, .int x4)] → k18 x2 x3 x4 Y = some res → W p l e zR_Chart_spread s m args below meth c H locs 0 0 (MQ below (zu_Qv D cA ad A X res) args s 0 0 A) (F0 m 18 ls [])) {k35 : Int32 → Int32 → Int32 → Int32 → LX → Option LX} (hk35 : ∀ (x2 : Int32) (x3 : Int32) (x4 : Int32) (x5 : Int32) (Y : LX) (H : Heap) (locs : List Loc) (ls : Array Slot), va_P D zu_cl (zu_pic cA ad X Y) H → va_S A s.heap H locs → lv_has ls 7 [(0, .ref (ad 1)), (2, .int x2), (3, .int x3), (4, .int x4), (5, .int x5)] → k35 x2 x3 x4 x5 Y = some res → W p l e zR_Chart_spread s m args below meth c H locs 0 0 (MQ below (zu_Qv D cA ad A X res) args s 0 0 A) (F0 m 35 ls [])) (x2 : Int32) (x3 : Int32) (x4 : Int32) (x5 : Int32) (Y : LX) (H : Heap) (locs : List Loc) (ls : Array Slot) (hP : va_P D zu_cl (zu_pic cA ad X Y) H) (hS : va_S A s.heap H locs) (hl : lv_has ls 7 [(0, .ref (ad 1)), (2, .int x2), (3, .int x3), (4, .int x4), (5, .int x5)]) (hf : fn_Chart_spread_L130 X k18 k35 x2 x3 x4 x5 Y = some res) : W p l e zR_Chart_spread s m args below meth c H locs 0 0 (MQ below (zu_Qv D cA ad A X res) args s 0 0 A) (F0 m 130 ls []) := by
  obtain ⟨hx, hb, hml, hown, hts, hST⟩ := id B
  unfold fn_Chart_spread_L130 at hf
  obtain ⟨v27, ev27, hf⟩ := zu_nx_e hf
  refine lv_iinc (v := v27) (lv' := [(5, .int v27), (0, .ref (ad 1)), (2, .int x2), (3, .int x3), (4, .int x4)]) hx hb zd_Chart_spread_130 hl (k := 4) rfl (by rw [ev27]; rfl) (by decide) rfl (fun ls hl => ?_)
  clear ev27
  refine lv_goto (tgt := 35) hx hb zd_Chart_spread_133 (by decide) ?_
  exact hk35 x2 x3 x4 v27 Y _ _ _ hP hS (lv_sub hl [1, 2, 3, 4, 0] rfl) hf
set_option maxHeartbeats 4000000 in
theorem zl_Chart_spread_B35 {p : Program} {l : Launch} {e : Env} {s : State} {m : MethodId} {args : Array Value} {below : List Frame} {meth : Method} {c : Code} {D : va_G} {cA : Nat → ClassId} {ad : Nat → Nat} {A : Nat → Prop} (B : zu_B p s m args c zb_Chart_spread 7 "StonePost$Chart" D cA ad A) (hret : meth.sig.returnType = none) (hlk : meth.locks = false) {X : IX} {res : LX} {k18 : Int32 → Int32 → Int32 → LX → Option LX} (hk18 : ∀ (x2 : Int32) (x3 : Int32) (x4 : Int32) (Y : LX) (H : Heap) (locs : List Loc) (ls : Array Slot), va_P D zu_cl (zu_pic cA ad X Y) H → va_S A s.heap H locs → lv_has ls 7 [(0, .ref (ad 1)), (2, .int x2), (3, .int x3), (4, .int x4)] → k18 x2 x3 x4 Y = some res → W p l e zR_Chart_spread s m args below meth c H locs 0 0 (MQ below (zu_Qv D cA ad A X res) args s 0 0 A) (F0 m 18 ls [])) {k35 : Int32 → Int32 → Int32 → Int32 → LX → Option LX} (hk35 : ∀ (x2 : Int32) (x3 : Int32) (x4 : Int32) (x5 : Int32) (Y : LX) (H : Heap) (locs : List Loc) (ls : Array Slot), va_P D zu_cl (zu_pic cA ad X Y) H → va_S A s.heap H locs → lv_has ls 7 [(0, .ref (ad 1)), (2, .int x2), (3, .int x3), (4, .int x4), (5, .int x5)] → k35 x2 x3 x4 x5 Y = some res → W p l e zR_Chart_spread s m args below meth c H locs 0 0 (MQ below (zu_Qv D cA ad A X res) args s 0 0 A) (F0 m 35 ls [])) (x2 : Int32) (x3 : Int32) (x4 : Int32) (x5 : Int32) (Y : LX) (H : Heap) (locs : List Loc) (ls : Array Slot) (hP : va_P D zu_cl (zu_pic cA ad X Y) H) (hS : va_S A s.heap H locs) (hl : lv_has ls 7 [(0, .ref (ad 1)), (2, .int x2), (3, .int x3), (4, .int x4), (5, .int x5)]) (hf : fn_Chart_spread_B35 X k18 k35 x2 x3 x4 x5 Y = some res) : W p l e zR_Chart_spread s m args below meth c H locs 0 0 (MQ below (zu_Qv D cA ad A X res) args s 0 0 A) (F0 m 35 ls []) := by
  obtain ⟨hx, hb, hml, hown, hts, hST⟩ := id B
  unfold fn_Chart_spread_B35 at hf
  refine lv_iload hx hb zd_Chart_spread_35 (lv_at hl 4 rfl) ?_
  refine lv_bipush (v := 24) hx hb zd_Chart_spread_37 (by decide) ?_
  refine lv_icmp_ge (tgt := 136) hx hb zd_Chart_spread_39 (by decide) (fun c8 => ?_) (fun c8 => ?_)
  · have hf := zu_t c8 hf
    refine lv_aload_n hx hb zd_Chart_spread_136 rfl (lv_at hl 0 rfl) ?_
    refine zg_Chart_nextParts B hP rfl zq_116 zd_Chart_spread_137 ?_
    refine lv_iconst (v := 0) hx hb zd_Chart_spread_140 (by decide) ?_
    refine lv_aload_n hx hb zd_Chart_spread_141 rfl (lv_at hl 0 rfl) ?_
    refine zg_Chart_parts B hP rfl zq_114 zd_Chart_spread_142 ?_
    refine lv_iconst (v := 0) hx hb zd_Chart_spread_145 (by decide) ?_
    refine lv_bipush (v := 24) hx hb zd_Chart_spread_146 (by decide) ?_
    refine zr_cpl (j0 := 0) (j1 := 0) (jn := 24) B hP hS (by decide) (by decide) (by decide) hf rfl (by decide) rfl rfl (by decide) rfl (by decide) zq_458 zq_259 zq_258 zq_9 hl.1 (by decide) (Nat.le_of_ble_eq_true rfl) zd_Chart_spread_148 (fun Y9 H locs hf hP hS => ?_)
    obtain ⟨v10, ev10, hf⟩ := zu_nx_e hf
    refine lv_iinc (v := v10) (lv' := [(4, .int v10), (0, .ref (ad 1)), (2, .int x2), (3, .int x3), (5, .int x5)]) hx hb zd_Chart_spread_151 hl (k := 3) rfl (by rw [ev10]; rfl) (by decide) rfl (fun ls hl => ?_)
    clear ev10
    refine lv_goto (tgt := 18) hx hb zd_Chart_spread_154 (by decide) ?_
    exact hk18 x2 x3 v10 Y9 _ _ _ hP hS (lv_sub hl [1, 2, 3, 0] rfl) hf
  · have hf := zu_f c8 hf
    refine lv_aload_n hx hb zd_Chart_spread_42 rfl (lv_at hl 0 rfl) ?_
    refine zg_Chart_parts B hP rfl zq_114 zd_Chart_spread_43 ?_
    refine lv_iload hx hb zd_Chart_spread_46 (lv_at hl 4 rfl) ?_
    obtain ⟨hg11, hf⟩ := zu_gd_e hf
    refine zr_lald rfl B hP rfl (by decide) rfl hg11 zd_Chart_spread_48 ?_
    refine lv_lconst (v := 0) hx hb zd_Chart_spread_49 (by decide) ?_
    refine W.lcmp hx hb zd_Chart_spread_50 ?_
    refine lv_if_eq (tgt := 130) hx hb zd_Chart_spread_51 (by decide) (fun c12 => ?_) (fun c12 => ?_)
    · have hf := zu_t c12 hf
      exact zl_Chart_spread_L130 B hret hlk hk18 hk35 x2 x3 x4 x5 Y _ _ _ hP hS (lv_sub hl [0, 1, 2, 3, 4] rfl) hf
    · have hf := zu_f c12 hf
      refine lv_aload_n hx hb zd_Chart_spread_54 rfl (lv_at hl 0 rfl) ?_
      refine lv_iload hx hb zd_Chart_spread_55 (lv_at hl 4 rfl) ?_
      refine lv_iload hx hb zd_Chart_spread_57 (lv_at hl 3 rfl) ?_
      refine lv_iload_n hx hb zd_Chart_spread_59 rfl (lv_at hl 2 rfl) ?_
      obtain ⟨v13, hq14, hf⟩ := zu_b1_e hf
      refine zw_Chart_chosenRow (rest := []) B hP hS hq14 zq_457 (Nat.le_of_ble_eq_true rfl) (Nat.le_of_ble_eq_true rfl) hl.1 rfl (Nat.le_of_ble_eq_true rfl) zd_Chart_spread_60 (by decide) (fun H locs hP hS => ?_)
      clear hq14
      refine lv_istore (lv' := [(6, .int v13), (0, .ref (ad 1)), (2, .int x2), (3, .int x3), (4, .int x4), (5, .int x5)]) hx hb zd_Chart_spread_63 hl (by decide) rfl (fun ls hl => ?_)
      refine lv_aload_n hx hb zd_Chart_spread_65 rfl (lv_at hl 1 rfl) ?_
      refine zg_Chart_nextParts B hP rfl zq_116 zd_Chart_spread_66 ?_
      refine lv_aload_n hx hb zd_Chart_spread_69 rfl (lv_at hl 1 rfl) ?_
      refine zg_Chart_first B hP rfl zq_106 zd_Chart_spread_70 ?_
      refine lv_iload hx hb zd_Chart_spread_73 (lv_at hl 0 rfl) ?_
      obtain ⟨hg15, hf⟩ := zu_gd_e hf
      refine zr_iald rfl B hP rfl (by decide) rfl hg15 zd_Chart_spread_75 ?_
      refine lv_dup2_11 hx hb zd_Chart_spread_76 rfl rfl ?_
      obtain ⟨hg16, hf⟩ := zu_gd_e hf
      refine zr_lald rfl B hP rfl (by decide) rfl hg16 zd_Chart_spread_77 ?_
      refine lv_aload_n hx hb zd_Chart_spread_78 rfl (lv_at hl 1 rfl) ?_
      refine zg_Chart_parts B hP rfl zq_114 zd_Chart_spread_79 ?_
      refine lv_iload hx hb zd_Chart_spread_82 (lv_at hl 5 rfl) ?_
      obtain ⟨hg17, hf⟩ := zu_gd_e hf
      refine zr_lald rfl B hP rfl (by decide) rfl hg17 zd_Chart_spread_84 ?_
      refine lv_aload_n hx hb zd_Chart_spread_85 rfl (lv_at hl 1 rfl) ?_
      refine zg_Chart_twelfths B hP rfl zq_110 zd_Chart_spread_86 ?_
      refine lv_iload hx hb zd_Chart_spread_89 (lv_at hl 0 rfl) ?_
      obtain ⟨hg18, hf⟩ := zu_gd_e hf
      refine zr_iald rfl B hP rfl (by decide) rfl hg18 zd_Chart_spread_91 ?_
      refine lv_i2l hx hb zd_Chart_spread_92 rfl ?_
      refine lv_lmul hx hb zd_Chart_spread_93 ?_
      refine lv_ladd hx hb zd_Chart_spread_94 ?_
      obtain ⟨hg19, hf⟩ := zu_gd_e hf
      refine zr_last rfl B hP hS hf rfl (by decide) rfl hg19 zd_Chart_spread_95 (fun Y20 H locs hf hP hS => ?_)
      refine lv_aload_n hx hb zd_Chart_spread_96 rfl (lv_at hl 1 rfl) ?_
      refine zg_Chart_nextParts B hP rfl zq_116 zd_Chart_spread_97 ?_
      refine lv_aload_n hx hb zd_Chart_spread_100 rfl (lv_at hl 1 rfl) ?_
      refine zg_Chart_second B hP rfl zq_108 zd_Chart_spread_101 ?_
      refine lv_iload hx hb zd_Chart_spread_104 (lv_at hl 0 rfl) ?_
      obtain ⟨hg21, hf⟩ := zu_gd_e hf
      refine zr_iald rfl B hP rfl (by decide) rfl hg21 zd_Chart_spread_106 ?_
      refine lv_dup2_11 hx hb zd_Chart_spread_107 rfl rfl ?_
      obtain ⟨hg22, hf⟩ := zu_gd_e hf
      refine zr_lald rfl B hP rfl (by decide) rfl hg22 zd_Chart_spread_108 ?_
      refine lv_aload_n hx hb zd_Chart_spread_109 rfl (lv_at hl 1 rfl) ?_
      refine zg_Chart_parts B hP rfl zq_114 zd_Chart_spread_110 ?_
      refine lv_iload hx hb zd_Chart_spread_113 (lv_at hl 5 rfl) ?_
      obtain ⟨hg23, hf⟩ := zu_gd_e hf
      refine zr_lald rfl B hP rfl (by decide) rfl hg23 zd_Chart_spread_115 ?_
      refine lv_bipush (v := 12) hx hb zd_Chart_spread_116 (by decide) ?_
      refine lv_aload_n hx hb zd_Chart_spread_118 rfl (lv_at hl 1 rfl) ?_
      refine zg_Chart_twelfths B hP rfl zq_110 zd_Chart_spread_119 ?_
      refine lv_iload hx hb zd_Chart_spread_122 (lv_at hl 0 rfl) ?_
      obtain ⟨hg24, hf⟩ := zu_gd_e hf
      refine zr_iald rfl B hP rfl (by decide) rfl hg24 zd_Chart_spread_124 ?_
      refine lv_isub hx hb zd_Chart_spread_125 ?_
      refine lv_i2l hx hb zd_Chart_spread_126 rfl ?_
      refine lv_lmul hx hb zd_Chart_spread_127 ?_
      refine lv_ladd hx hb zd_Chart_spread_128 ?_
      obtain ⟨hg25, hf⟩ := zu_gd_e hf
      refine zr_last rfl B hP hS hf rfl (by decide) rfl hg25 zd_Chart_spread_129 (fun Y26 H locs hf hP hS => ?_)
      exact zl_Chart_spread_L130 B hret hlk hk18 hk35 x2 x3 x4 x5 Y26 _ _ _ hP hS (lv_sub hl [1, 2, 3, 4, 5] rfl) hf
theorem zl_Chart_spread_L35 {p : Program} {l : Launch} {e : Env} {s : State} {m : MethodId} {args : Array Value} {below : List Frame} {meth : Method} {c : Code} {D : va_G} {cA : Nat → ClassId} {ad : Nat → Nat} {A : Nat → Prop} (B : zu_B p s m args c zb_Chart_spread 7 "StonePost$Chart" D cA ad A) (hret : meth.sig.returnType = none) (hlk : meth.locks = false) {X : IX} {res : LX} {k18 : Int32 → Int32 → Int32 → LX → Option LX} (hk18 : ∀ (x2 : Int32) (x3 : Int32) (x4 : Int32) (Y : LX) (H : Heap) (locs : List Loc) (ls : Array Slot), va_P D zu_cl (zu_pic cA ad X Y) H → va_S A s.heap H locs → lv_has ls 7 [(0, .ref (ad 1)), (2, .int x2), (3, .int x3), (4, .int x4)] → k18 x2 x3 x4 Y = some res → W p l e zR_Chart_spread s m args below meth c H locs 0 0 (MQ below (zu_Qv D cA ad A X res) args s 0 0 A) (F0 m 18 ls [])) : ∀ (n : Nat) (x2 : Int32) (x3 : Int32) (x4 : Int32) (x5 : Int32) (Y : LX) (H : Heap) (locs : List Loc) (ls : Array Slot), va_P D zu_cl (zu_pic cA ad X Y) H → va_S A s.heap H locs → lv_has ls 7 [(0, .ref (ad 1)), (2, .int x2), (3, .int x3), (4, .int x4), (5, .int x5)] → fn_Chart_spread_L35 X k18 n x2 x3 x4 x5 Y = some res → W p l e zR_Chart_spread s m args below meth c H locs 0 0 (MQ below (zu_Qv D cA ad A X res) args s 0 0 A) (F0 m 35 ls []) := by
  intro n
  induction n with
  | zero =>
    intro x2 x3 x4 x5 Y H locs ls hP hS hl hf
    exact (Option.some_ne_none _ hf.symm).elim
  | succ n ih =>
    intro x2 x3 x4 x5 Y H locs ls hP hS hl hf
    exact zl_Chart_spread_B35 B hret hlk hk18 ih x2 x3 x4 x5 Y H locs ls hP hS hl  hf
set_option maxHeartbeats 4000000 in
theorem zl_Chart_spread_B18 {p : Program} {l : Launch} {e : Env} {s : State} {m : MethodId} {args : Array Value} {below : List Frame} {meth : Method} {c : Code} {D : va_G} {cA : Nat → ClassId} {ad : Nat → Nat} {A : Nat → Prop} (B : zu_B p s m args c zb_Chart_spread 7 "StonePost$Chart" D cA ad A) (hret : meth.sig.returnType = none) (hlk : meth.locks = false) {X : IX} {res : LX} {k18 : Int32 → Int32 → Int32 → LX → Option LX} (hk18 : ∀ (x2 : Int32) (x3 : Int32) (x4 : Int32) (Y : LX) (H : Heap) (locs : List Loc) (ls : Array Slot), va_P D zu_cl (zu_pic cA ad X Y) H → va_S A s.heap H locs → lv_has ls 7 [(0, .ref (ad 1)), (2, .int x2), (3, .int x3), (4, .int x4)] → k18 x2 x3 x4 Y = some res → W p l e zR_Chart_spread s m args below meth c H locs 0 0 (MQ below (zu_Qv D cA ad A X res) args s 0 0 A) (F0 m 18 ls [])) (x2 : Int32) (x3 : Int32) (x4 : Int32) (Y : LX) (H : Heap) (locs : List Loc) (ls : Array Slot) (hP : va_P D zu_cl (zu_pic cA ad X Y) H) (hS : va_S A s.heap H locs) (hl : lv_has ls 7 [(0, .ref (ad 1)), (2, .int x2), (3, .int x3), (4, .int x4)]) (hf : fn_Chart_spread_B18 X k18 x2 x3 x4 Y = some res) : W p l e zR_Chart_spread s m args below meth c H locs 0 0 (MQ below (zu_Qv D cA ad A X res) args s 0 0 A) (F0 m 18 ls []) := by
  obtain ⟨hx, hb, hml, hown, hts, hST⟩ := id B
  unfold fn_Chart_spread_B18 at hf
  refine lv_iload hx hb zd_Chart_spread_18 (lv_at hl 3 rfl) ?_
  refine lv_iload_n hx hb zd_Chart_spread_20 rfl (lv_at hl 1 rfl) ?_
  refine lv_icmp_ge (tgt := 157) hx hb zd_Chart_spread_21 (by decide) (fun c5 => ?_) (fun c5 => ?_)
  · have hf := zu_t c5 hf
    obtain rfl := Option.some.inj hf
    exact zr_vret hx hb hret hlk hP hS zd_Chart_spread_157
  · have hf := zu_f c5 hf
    refine lv_aload_n hx hb zd_Chart_spread_24 rfl (lv_at hl 0 rfl) ?_
    refine zg_Chart_nextParts B hP rfl zq_116 zd_Chart_spread_25 ?_
    refine lv_lconst (v := 0) hx hb zd_Chart_spread_28 (by decide) ?_
    obtain ⟨Y6, hq7, hf⟩ := zu_b1_e hf
    refine zw_Arr_fillJ_12 (rest := []) B hP hS rfl hq7 zq_454 (Nat.le_of_ble_eq_true rfl) (Nat.le_of_ble_eq_true rfl) hl.1 rfl (Nat.le_of_ble_eq_true rfl) zd_Chart_spread_29 (by decide) (fun H locs hP hS => ?_)
    clear hq7
    refine lv_iconst (v := 0) hx hb zd_Chart_spread_32 (by decide) ?_
    refine lv_istore (lv' := [(5, .int (0 : Int32)), (0, .ref (ad 1)), (2, .int x2), (3, .int x3), (4, .int x4)]) hx hb zd_Chart_spread_33 hl (by decide) rfl (fun ls hl => ?_)
    exact zl_Chart_spread_L35 B hret hlk hk18 400 x2 x3 x4 (0 : Int32) Y6 _ _ _ hP hS (lv_sub hl [1, 2, 3, 4, 0] rfl) hf
theorem zl_Chart_spread_L18 {p : Program} {l : Launch} {e : Env} {s : State} {m : MethodId} {args : Array Value} {below : List Frame} {meth : Method} {c : Code} {D : va_G} {cA : Nat → ClassId} {ad : Nat → Nat} {A : Nat → Prop} (B : zu_B p s m args c zb_Chart_spread 7 "StonePost$Chart" D cA ad A) (hret : meth.sig.returnType = none) (hlk : meth.locks = false) {X : IX} {res : LX} : ∀ (n : Nat) (x2 : Int32) (x3 : Int32) (x4 : Int32) (Y : LX) (H : Heap) (locs : List Loc) (ls : Array Slot), va_P D zu_cl (zu_pic cA ad X Y) H → va_S A s.heap H locs → lv_has ls 7 [(0, .ref (ad 1)), (2, .int x2), (3, .int x3), (4, .int x4)] → fn_Chart_spread_L18 X n x2 x3 x4 Y = some res → W p l e zR_Chart_spread s m args below meth c H locs 0 0 (MQ below (zu_Qv D cA ad A X res) args s 0 0 A) (F0 m 18 ls []) := by
  intro n
  induction n with
  | zero =>
    intro x2 x3 x4 Y H locs ls hP hS hl hf
    exact (Option.some_ne_none _ hf.symm).elim
  | succ n ih =>
    intro x2 x3 x4 Y H locs ls hP hS hl hf
    exact zl_Chart_spread_B18 B hret hlk ih x2 x3 x4 Y H locs ls hP hS hl  hf
set_option maxHeartbeats 4000000 in
theorem zl_Chart_spread {p : Program} {l : Launch} {e : Env} {s : State} {m : MethodId} {args : Array Value} {below : List Frame} {meth : Method} {c : Code} {D : va_G} {cA : Nat → ClassId} {ad : Nat → Nat} {A : Nat → Prop} (B : zu_B p s m args c zb_Chart_spread 7 "StonePost$Chart" D cA ad A) (hret : meth.sig.returnType = none) (hlk : meth.locks = false) {X : IX} {res : LX} {a1 : Int32} {a2 : Int32} {a3 : Int32} {Y : LX} (H : Heap) (locs : List Loc) (ls : Array Slot) (hP : va_P D zu_cl (zu_pic cA ad X Y) H) (hS : va_S A s.heap H locs) (hl : lv_has ls 7 [(0, .ref (ad 1)), (1, .int a1), (2, .int a2), (3, .int a3)]) (hf : fn_Chart_spread X a1 a2 a3 Y = some res) : W p l e zR_Chart_spread s m args below meth c H locs 0 0 (MQ below (zu_Qv D cA ad A X res) args s 0 0 A) (F0 m 0 ls []) := by
  obtain ⟨hx, hb, hml, hown, hts, hST⟩ := id B
  unfold fn_Chart_spread at hf
  refine lv_aload_n hx hb zd_Chart_spread_0 rfl (lv_at hl 0 rfl) ?_
  refine zg_Chart_parts B hP rfl zq_114 zd_Chart_spread_1 ?_
  refine lv_lconst (v := 0) hx hb zd_Chart_spread_4 (by decide) ?_
  obtain ⟨Y1, hq2, hf⟩ := zu_b1_e hf
  refine zw_Arr_fillJ_12 (rest := []) B hP hS rfl hq2 zq_454 (Nat.le_of_ble_eq_true rfl) (Nat.le_of_ble_eq_true rfl) hl.1 rfl (Nat.le_of_ble_eq_true rfl) zd_Chart_spread_5 (by decide) (fun H locs hP hS => ?_)
  clear hq2
  refine lv_aload_n hx hb zd_Chart_spread_8 rfl (lv_at hl 0 rfl) ?_
  refine zg_Chart_parts B hP rfl zq_114 zd_Chart_spread_9 ?_
  refine lv_iload_n hx hb zd_Chart_spread_12 rfl (lv_at hl 1 rfl) ?_
  refine lv_lconst (v := 1) hx hb zd_Chart_spread_13 (by decide) ?_
  obtain ⟨hg3, hf⟩ := zu_gd_e hf
  refine zr_last rfl B hP hS hf rfl (by decide) rfl hg3 zd_Chart_spread_14 (fun Y4 H locs hf hP hS => ?_)
  refine lv_iconst (v := 0) hx hb zd_Chart_spread_15 (by decide) ?_
  refine lv_istore (lv' := [(4, .int (0 : Int32)), (0, .ref (ad 1)), (1, .int a1), (2, .int a2), (3, .int a3)]) hx hb zd_Chart_spread_16 hl (by decide) rfl (fun ls hl => ?_)
  exact zl_Chart_spread_L18 B hret hlk 400 a2 a3 (0 : Int32) Y4 _ _ _ hP hS (lv_sub hl [1, 3, 4, 0] rfl) hf
theorem zC_Chart_spread (l : Launch) {D : va_G} {cA : Nat → ClassId} {ad : Nat → Nat} {A : Nat → Prop} {a1 : Int32} {a2 : Int32} {a3 : Int32} {X : IX} {Y : LX} {res : LX} (hf : fn_Chart_spread X a1 a2 a3 Y = some res) : Met l zm_Chart_spread (zu_ws zm_Chart_spread zb_Chart_spread 7 none) zR_Chart_spread (va_Pc [.ref (ad 1), .int a1, .int a2, .int a3] (zu_Pre D cA ad A X Y)) (zu_Qv D cA ad A X res) 0 0 A := by
  refine Met.ofW (cc := zb_Chart_spread) (maxL := 7) (ret := none) (by decide +kernel) rfl ?_
  intro p e s m args below meth c s₁ B0 hml hv
  obtain ⟨rfl, hP, hST⟩ := hv
  have B : zu_B p s m _ c zb_Chart_spread 7 "StonePost$Chart" D cA ad A := ⟨B0.exec, B0.bytes, hml, findClass_of_methodNamed B0.named, (fun w hw => atoms_spec (ws := zu_ws zm_Chart_spread zb_Chart_spread 7 none) B0.pre w (List.mem_cons_of_mem _ hw)), hST⟩
  have hl := lv_entry ([.ref (ad 1), .int a1, .int a2, .int a3]) (n := 7) (Nat.le_of_ble_eq_true rfl)
  rw [lg_entry_eq]
  generalize (lg_sl ([.ref (ad 1), .int a1, .int a2, .int a3]) ++ List.replicate (7 - (lg_sl ([.ref (ad 1), .int a1, .int a2, .int a3])).length) Slot.unset).toArray = ls at hl ⊢
  exact zl_Chart_spread B B0.returns B0.notSynchronized s.heap [] ls hP va_S.rf hl  hf
theorem zw_Chart_spread {p : Program} {l : Launch} {e : Env} {R : Room} {s : State} {m : MethodId} {args : Array Value} {below : List Frame} {meth : Method} {c : Code} {H : Heap} {locs : List Loc} {cells slots : Nat} {Q : State → Prop} {cc : ByteArray} {pc nL : Nat} {ls : Array Slot} {rest st0 : List Value} {D : va_G} {cA : Nat → ClassId} {ad : Nat → Nat} {A : Nat → Prop} {X : IX} {Y : LX} {own : String} {index : Nat} {a1 : Int32} {a2 : Int32} {a3 : Int32} {Y1 : LX} (B : zu_B p s m args c cc nL own D cA ad A) (hP : va_P D zu_cl (zu_pic cA ad X Y) H) (hS : va_S A s.heap H locs) (hq : fn_Chart_spread X a1 a2 a3 Y = some Y1) (m1 : Cond.methodLink own index zm_Chart_spread ∈ zu_TB) (hR1 : 3 + 1 ≤ R.frames) (hR2 : 8 + (7 + 11) + 68 ≤ R.locals) (hsz : ls.size = nL) (hst : st0 = .int a3 :: .int a2 :: .int a1 :: .ref (ad 1) :: rest) (hw : (rest.map fun v => v.category).sum ≤ 8) (hdg : decode cc pc = .ok (.invokevirtual index, 3)) (h00 : cells ≤ R.cells ∧ slots ≤ R.slots) (kk : ∀ (H1 : Heap) (locs1 : List Loc), va_P D zu_cl (zu_pic cA ad X Y1) H1 → va_S A s.heap H1 locs1 → W p l e R s m args below meth c H1 locs1 cells slots Q (F0 m (pc + 3) ls (rest))) : W p l e R s m args below meth c H locs cells slots Q (F0 m pc ls st0) := by
  subst hst
  exact zr_cVv (As := [.int a1, .int a2, .int a3]) (rest := rest) (n := 3) (C := "StonePost$Chart") (T := zt_Chart) (N := 9) B hP hS (zC_Chart_spread l  hq) (K := 2) rfl (by decide) (by decide) rfl rfl m1 zq_451 zq_452 zq_5 zq_453 (by decide +kernel) ⟨hR1, hR2⟩ rfl rfl rfl hsz rfl hw hdg h00 kk
