abbrev zR_Arr_fill_16 : Room := { frames := 0, cells := 0, slots := 0, locals := 0 }
theorem zd_Arr_fill_0 : decode zb_Arr_fill 0 = .ok (.iconst 0, 1) := by decide +kernel
theorem zd_Arr_fill_1 : decode zb_Arr_fill 1 = .ok (.istore_n 2, 1) := by decide +kernel
theorem zd_Arr_fill_2 : decode zb_Arr_fill 2 = .ok (.aload_n 0, 1) := by decide +kernel
theorem zd_Arr_fill_3 : decode zb_Arr_fill 3 = .ok (.arraylength, 1) := by decide +kernel
theorem zd_Arr_fill_4 : decode zb_Arr_fill 4 = .ok (.istore_n 3, 1) := by decide +kernel
theorem zd_Arr_fill_5 : decode zb_Arr_fill 5 = .ok (.iload_n 2, 1) := by decide +kernel
theorem zd_Arr_fill_6 : decode zb_Arr_fill 6 = .ok (.iload_n 3, 1) := by decide +kernel
theorem zd_Arr_fill_7 : decode zb_Arr_fill 7 = .ok (.if_icmp .ge 13, 3) := by decide +kernel
theorem zd_Arr_fill_10 : decode zb_Arr_fill 10 = .ok (.aload_n 0, 1) := by decide +kernel
theorem zd_Arr_fill_11 : decode zb_Arr_fill 11 = .ok (.iload_n 2, 1) := by decide +kernel
theorem zd_Arr_fill_12 : decode zb_Arr_fill 12 = .ok (.iload_n 1, 1) := by decide +kernel
theorem zd_Arr_fill_13 : decode zb_Arr_fill 13 = .ok (.iastore, 1) := by decide +kernel
theorem zd_Arr_fill_14 : decode zb_Arr_fill 14 = .ok (.iinc 2 1, 3) := by decide +kernel
theorem zd_Arr_fill_17 : decode zb_Arr_fill 17 = .ok (.goto (-12), 3) := by decide +kernel
theorem zd_Arr_fill_20 : decode zb_Arr_fill 20 = .ok (.return_, 1) := by decide +kernel
set_option maxHeartbeats 4000000 in
theorem zl_Arr_fill_16_B5 {p : Program} {l : Launch} {e : Env} {s : State} {m : MethodId} {args : Array Value} {below : List Frame} {meth : Method} {c : Code} {D : va_G} {cA : Nat → ClassId} {ad : Nat → Nat} {A : Nat → Prop} (B : zu_B p s m args c zb_Arr_fill 4 "java/util/Arrays" D cA ad A) (hret : meth.sig.returnType = none) (hlk : meth.locks = false) {Y : LX} {res : IX} {k5 : Nat → Int32 → Int32 → Int32 → IX → Option IX} (hk5 : ∀ (r0 : Nat) (x1 : Int32) (x2 : Int32) (x3 : Int32) (X : IX) (H : Heap) (locs : List Loc) (ls : Array Slot), va_P D zu_cl (zu_pic cA ad X Y) H → va_S A s.heap H locs → lv_has ls 4 [(0, .ref (ad r0)), (1, .int x1), (2, .int x2), (3, .int x3)] → zu_kd r0 = 16 → k5 r0 x1 x2 x3 X = some res → W p l e zR_Arr_fill_16 s m args below meth c H locs 0 0 (MQ below (zu_Qv D cA ad A res Y) args s 0 0 A) (F0 m 5 ls [])) (r0 : Nat) (x1 : Int32) (x2 : Int32) (x3 : Int32) (X : IX) (H : Heap) (locs : List Loc) (ls : Array Slot) (hP : va_P D zu_cl (zu_pic cA ad X Y) H) (hS : va_S A s.heap H locs) (hl : lv_has ls 4 [(0, .ref (ad r0)), (1, .int x1), (2, .int x2), (3, .int x3)]) (hr0 : zu_kd r0 = 16) (hf : fn_Arr_fill_16_B5 k5 r0 x1 x2 x3 X = some res) : W p l e zR_Arr_fill_16 s m args below meth c H locs 0 0 (MQ below (zu_Qv D cA ad A res Y) args s 0 0 A) (F0 m 5 ls []) := by
  obtain ⟨hx, hb, hml, hown, hts, hST⟩ := id B
  unfold fn_Arr_fill_16_B5 at hf
  refine lv_iload_n hx hb zd_Arr_fill_5 rfl (lv_at hl 2 rfl) ?_
  refine lv_iload_n hx hb zd_Arr_fill_6 rfl (lv_at hl 3 rfl) ?_
  refine lv_icmp_ge (tgt := 20) hx hb zd_Arr_fill_7 (by decide) (fun c1 => ?_) (fun c1 => ?_)
  · have hf := zu_t c1 hf
    obtain rfl := Option.some.inj hf
    exact zr_vret hx hb hret hlk hP hS zd_Arr_fill_20
  · have hf := zu_f c1 hf
    refine lv_aload_n hx hb zd_Arr_fill_10 rfl (lv_at hl 0 rfl) ?_
    refine lv_iload_n hx hb zd_Arr_fill_11 rfl (lv_at hl 2 rfl) ?_
    refine lv_iload_n hx hb zd_Arr_fill_12 rfl (lv_at hl 1 rfl) ?_
    obtain ⟨hg2, hf⟩ := zu_gd_e hf
    refine zr_iast rfl B hP hS hf hr0 (by decide) rfl hg2 zd_Arr_fill_13 (fun X3 H locs hf hP hS => ?_)
    obtain ⟨v4, ev4, hf⟩ := zu_nx_e hf
    refine lv_iinc (v := v4) (lv' := [(2, .int v4), (0, .ref (ad r0)), (1, .int x1), (3, .int x3)]) hx hb zd_Arr_fill_14 hl (k := 2) rfl (by rw [ev4]; rfl) (by decide) rfl (fun ls hl => ?_)
    clear ev4
    refine lv_goto (tgt := 5) hx hb zd_Arr_fill_17 (by decide) ?_
    exact hk5 r0 x1 v4 x3 X3 _ _ _ hP hS (lv_sub hl [1, 2, 0, 3] rfl) hr0 hf
theorem zl_Arr_fill_16_L5 {p : Program} {l : Launch} {e : Env} {s : State} {m : MethodId} {args : Array Value} {below : List Frame} {meth : Method} {c : Code} {D : va_G} {cA : Nat → ClassId} {ad : Nat → Nat} {A : Nat → Prop} (B : zu_B p s m args c zb_Arr_fill 4 "java/util/Arrays" D cA ad A) (hret : meth.sig.returnType = none) (hlk : meth.locks = false) {Y : LX} {res : IX} : ∀ (n : Nat) (r0 : Nat) (x1 : Int32) (x2 : Int32) (x3 : Int32) (X : IX) (H : Heap) (locs : List Loc) (ls : Array Slot), va_P D zu_cl (zu_pic cA ad X Y) H → va_S A s.heap H locs → lv_has ls 4 [(0, .ref (ad r0)), (1, .int x1), (2, .int x2), (3, .int x3)] → zu_kd r0 = 16 → fn_Arr_fill_16_L5 n r0 x1 x2 x3 X = some res → W p l e zR_Arr_fill_16 s m args below meth c H locs 0 0 (MQ below (zu_Qv D cA ad A res Y) args s 0 0 A) (F0 m 5 ls []) := by
  intro n
  induction n with
  | zero =>
    intro r0 x1 x2 x3 X H locs ls hP hS hl hr0 hf
    exact (Option.some_ne_none _ hf.symm).elim
  | succ n ih =>
    intro r0 x1 x2 x3 X H locs ls hP hS hl hr0 hf
    exact zl_Arr_fill_16_B5 B hret hlk ih r0 x1 x2 x3 X H locs ls hP hS hl hr0 hf
set_option maxHeartbeats 4000000 in
theorem zl_Arr_fill_16 {p : Program} {l : Launch} {e : Env} {s : State} {m : MethodId} {args : Array Value} {below : List Frame} {meth : Method} {c : Code} {D : va_G} {cA : Nat → ClassId} {ad : Nat → Nat} {A : Nat → Prop} (B : zu_B p s m args c zb_Arr_fill 4 "java/util/Arrays" D cA ad A) (hret : meth.sig.returnType = none) (hlk : meth.locks = false) {Y : LX} {res : IX} {r0 : Nat} {a1 : Int32} {X : IX} (H : Heap) (locs : List Loc) (ls : Array Slot) (hP : va_P D zu_cl (zu_pic cA ad X Y) H) (hS : va_S A s.heap H locs) (hl : lv_has ls 4 [(0, .ref (ad r0)), (1, .int a1)]) (hr0 : zu_kd r0 = 16) (hf : fn_Arr_fill_16 r0 a1 X = some res) : W p l e zR_Arr_fill_16 s m args below meth c H locs 0 0 (MQ below (zu_Qv D cA ad A res Y) args s 0 0 A) (F0 m 0 ls []) := by
  obtain ⟨hx, hb, hml, hown, hts, hST⟩ := id B
  unfold fn_Arr_fill_16 at hf
  refine lv_iconst (v := 0) hx hb zd_Arr_fill_0 (by decide) ?_
  refine lv_istore_n (lv' := [(2, .int (0 : Int32)), (0, .ref (ad r0)), (1, .int a1)]) hx hb zd_Arr_fill_1 rfl hl (by decide) rfl (fun ls hl => ?_)
  refine lv_aload_n hx hb zd_Arr_fill_2 rfl (lv_at hl 1 rfl) ?_
  refine zr_alen (v := 40) B hP hr0 (by decide) rfl (by decide) (by decide) zd_Arr_fill_3 ?_
  refine lv_istore_n (lv' := [(3, .int (40 : Int32)), (2, .int (0 : Int32)), (0, .ref (ad r0)), (1, .int a1)]) hx hb zd_Arr_fill_4 rfl hl (by decide) rfl (fun ls hl => ?_)
  exact zl_Arr_fill_16_L5 B hret hlk 400 r0 a1 (0 : Int32) (40 : Int32) X _ _ _ hP hS (lv_sub hl [2, 3, 1, 0] rfl) hr0 hf
theorem zC_Arr_fill_16 (l : Launch) {D : va_G} {cA : Nat → ClassId} {ad : Nat → Nat} {A : Nat → Prop} {r0 : Nat} {a1 : Int32} {X : IX} {Y : LX} {res : IX} (hr0 : zu_kd r0 = 16) (hf : fn_Arr_fill_16 r0 a1 X = some res) : Met l zm_Arr_fill (zu_ws zm_Arr_fill zb_Arr_fill 4 none) zR_Arr_fill_16 (va_Pc [.ref (ad r0), .int a1] (zu_Pre D cA ad A X Y)) (zu_Qv D cA ad A res Y) 0 0 A := by
  refine Met.ofW (cc := zb_Arr_fill) (maxL := 4) (ret := none) (by decide +kernel) rfl ?_
  intro p e s m args below meth c s₁ B0 hml hv
  obtain ⟨rfl, hP, hST⟩ := hv
  have B : zu_B p s m _ c zb_Arr_fill 4 "java/util/Arrays" D cA ad A := ⟨B0.exec, B0.bytes, hml, findClass_of_methodNamed B0.named, (fun w hw => atoms_spec (ws := zu_ws zm_Arr_fill zb_Arr_fill 4 none) B0.pre w (List.mem_cons_of_mem _ hw)), hST⟩
  have hl := lv_entry ([.ref (ad r0), .int a1]) (n := 4) (Nat.le_of_ble_eq_true rfl)
  rw [lg_entry_eq]
  generalize (lg_sl ([.ref (ad r0), .int a1]) ++ List.replicate (4 - (lg_sl ([.ref (ad r0), .int a1])).length) Slot.unset).toArray = ls at hl ⊢
  exact zl_Arr_fill_16 B B0.returns B0.notSynchronized s.heap [] ls hP va_S.rf hl hr0 hf
theorem zw_Arr_fill_16 {p : Program} {l : Launch} {e : Env} {R : Room} {s : State} {m : MethodId} {args : Array Value} {below : List Frame} {meth : Method} {c : Code} {H : Heap} {locs : List Loc} {cells slots : Nat} {Q : State → Prop} {cc : ByteArray} {pc nL : Nat} {ls : Array Slot} {rest st0 : List Value} {D : va_G} {cA : Nat → ClassId} {ad : Nat → Nat} {A : Nat → Prop} {X : IX} {Y : LX} {own : String} {index : Nat} {r0 : Nat} {a1 : Int32} {X1 : IX} (B : zu_B p s m args c cc nL own D cA ad A) (hP : va_P D zu_cl (zu_pic cA ad X Y) H) (hS : va_S A s.heap H locs) (hr0 : zu_kd r0 = 16) (hq : fn_Arr_fill_16 r0 a1 X = some X1) (m1 : Cond.methodLink own index zm_Arr_fill ∈ zu_TB) (hR1 : 0 + 1 ≤ R.frames) (hR2 : 8 + (4 + 11) + 0 ≤ R.locals) (hsz : ls.size = nL) (hst : st0 = .int a1 :: .ref (ad r0) ::  rest) (hw : (rest.map fun v => v.category).sum ≤ 8) (hdg : decode cc pc = .ok (.invokestatic index, 3)) (h00 : cells ≤ R.cells ∧ slots ≤ R.slots) (kk : ∀ (H1 : Heap) (locs1 : List Loc), va_P D zu_cl (zu_pic cA ad X1 Y) H1 → va_S A s.heap H1 locs1 → W p l e R s m args below meth c H1 locs1 cells slots Q (F0 m (pc + 3) ls (rest))) : W p l e R s m args below meth c H locs cells slots Q (F0 m pc ls st0) := by
  subst hst
  exact zr_cSv (As := [.ref (ad r0), .int a1]) (rest := rest) (n := 2) B hP hS (zC_Arr_fill_16 l hr0 hq) m1 zq_48 zq_4 zq_49 (by decide +kernel) ⟨hR1, hR2⟩ rfl rfl rfl hsz rfl hw hdg h00 kk
abbrev zR_Sheet_renew : Room := { frames := 1, cells := 0, slots := 0, locals := 23 }
theorem zd_Sheet_renew_0 : decode zb_Sheet_renew 0 = .ok (.aload_n 0, 1) := by decide +kernel
theorem zd_Sheet_renew_1 : decode zb_Sheet_renew 1 = .ok (.iload_n 1, 1) := by decide +kernel
theorem zd_Sheet_renew_2 : decode zb_Sheet_renew 2 = .ok (.putfield 15, 3) := by decide +kernel
theorem zd_Sheet_renew_5 : decode zb_Sheet_renew 5 = .ok (.aload_n 0, 1) := by decide +kernel
theorem zd_Sheet_renew_6 : decode zb_Sheet_renew 6 = .ok (.iload_n 1, 1) := by decide +kernel
theorem zd_Sheet_renew_7 : decode zb_Sheet_renew 7 = .ok (.ifCond .ne 7, 3) := by decide +kernel
theorem zd_Sheet_renew_10 : decode zb_Sheet_renew 10 = .ok (.iconst 0, 1) := by decide +kernel
theorem zd_Sheet_renew_11 : decode zb_Sheet_renew 11 = .ok (.goto 4, 3) := by decide +kernel
theorem zd_Sheet_renew_14 : decode zb_Sheet_renew 14 = .ok (.iload_n 2, 1) := by decide +kernel
theorem zd_Sheet_renew_15 : decode zb_Sheet_renew 15 = .ok (.putfield 19, 3) := by decide +kernel
theorem zd_Sheet_renew_18 : decode zb_Sheet_renew 18 = .ok (.aload_n 0, 1) := by decide +kernel
theorem zd_Sheet_renew_19 : decode zb_Sheet_renew 19 = .ok (.getfield 9, 3) := by decide +kernel
theorem zd_Sheet_renew_22 : decode zb_Sheet_renew 22 = .ok (.iconst 0, 1) := by decide +kernel
theorem zd_Sheet_renew_23 : decode zb_Sheet_renew 23 = .ok (.invokestatic 22, 3) := by decide +kernel
theorem zd_Sheet_renew_26 : decode zb_Sheet_renew 26 = .ok (.return_, 1) := by decide +kernel
set_option maxHeartbeats 4000000 in
theorem zl_Sheet_renew_L15 {p : Program} {l : Launch} {e : Env} {s : State} {m : MethodId} {args : Array Value} {below : List Frame} {meth : Method} {c : Code} {D : va_G} {cA : Nat → ClassId} {ad : Nat → Nat} {A : Nat → Prop} (B : zu_B p s m args c zb_Sheet_renew 3 "StonePost$Sheet" D cA ad A) (hret : meth.sig.returnType = none) (hlk : meth.locks = false) {Y : LX} {res : IX} (r0 : Nat) (y0 : Int32) (q1 : Nat) (X : IX) (H : Heap) (locs : List Loc) (ls : Array Slot) (hP : va_P D zu_cl (zu_pic cA ad X Y) H) (hS : va_S A s.heap H locs) (hl : lv_has ls 3 [(0, .ref (ad r0))]) (hr0 : zu_kd r0 = 4) (hq1 : zu_kd q1 = 4) (hf : fn_Sheet_renew_L15 r0 y0 q1 X = some res) : W p l e zR_Sheet_renew s m args below meth c H locs 0 0 (MQ below (zu_Qv D cA ad A res Y) args s 0 0 A) (F0 m 15 ls [.int y0, .ref (ad q1)]) := by
  obtain ⟨hx, hb, hml, hown, hts, hST⟩ := id B
  unfold fn_Sheet_renew_L15 at hf
  refine zp_Sheet_length B hP hS hf hq1 zq_182 zd_Sheet_renew_15 (fun X3 H locs hf hP hS => ?_)
  refine lv_aload_n hx hb zd_Sheet_renew_18 rfl (lv_at hl 0 rfl) ?_
  refine zg_Sheet_numbers B hP hr0 zq_178 zd_Sheet_renew_19 ?_
  refine lv_iconst (v := 0) hx hb zd_Sheet_renew_22 (by decide) ?_
  obtain ⟨X4, hq5, hf⟩ := zu_b1_e hf
  refine zw_Arr_fill_16 (rest := []) B hP hS (zk_Sheet_numbers hr0) hq5 zq_793 (Nat.le_of_ble_eq_true rfl) (Nat.le_of_ble_eq_true rfl) hl.1 rfl (Nat.le_of_ble_eq_true rfl) zd_Sheet_renew_23 (by decide) (fun H locs hP hS => ?_)
  clear hq5
  obtain rfl := Option.some.inj hf
  exact zr_vret hx hb hret hlk hP hS zd_Sheet_renew_26
set_option maxHeartbeats 4000000 in
theorem zl_Sheet_renew {p : Program} {l : Launch} {e : Env} {s : State} {m : MethodId} {args : Array Value} {below : List Frame} {meth : Method} {c : Code} {D : va_G} {cA : Nat → ClassId} {ad : Nat → Nat} {A : Nat → Prop} (B : zu_B p s m args c zb_Sheet_renew 3 "StonePost$Sheet" D cA ad A) (hret : meth.sig.returnType = none) (hlk : meth.locks = false) {Y : LX} {res : IX} {r0 : Nat} {a1 : Int32} {a2 : Int32} {X : IX} (H : Heap) (locs : List Loc) (ls : Array Slot) (hP : va_P D zu_cl (zu_pic cA ad X Y) H) (hS : va_S A s.heap H locs) (hl : lv_has ls 3 [(0, .ref (ad r0)), (1, .int a1), (2, .int a2)]) (hr0 : zu_kd r0 = 4) (hf : fn_Sheet_renew r0 a1 a2 X = some res) : W p l e zR_Sheet_renew s m args below meth c H locs 0 0 (MQ below (zu_Qv D cA ad A res Y) args s 0 0 A) (F0 m 0 ls []) := by
  obtain ⟨hx, hb, hml, hown, hts, hST⟩ := id B
  unfold fn_Sheet_renew at hf
  refine lv_aload_n hx hb zd_Sheet_renew_0 rfl (lv_at hl 0 rfl) ?_
  refine lv_iload_n hx hb zd_Sheet_renew_1 rfl (lv_at hl 1 rfl) ?_
  refine zp_Sheet_bits B hP hS hf hr0 zq_180 zd_Sheet_renew_2 (fun X1 H locs hf hP hS => ?_)
  refine lv_aload_n hx hb zd_Sheet_renew_5 rfl (lv_at hl 0 rfl) ?_
  refine lv_iload_n hx hb zd_Sheet_renew_6 rfl (lv_at hl 1 rfl) ?_
  refine lv_if_ne (tgt := 14) hx hb zd_Sheet_renew_7 (by decide) (fun c2 => ?_) (fun c2 => ?_)
  · have hf := zu_f c2 hf
    refine lv_iload_n hx hb zd_Sheet_renew_14 rfl (lv_at hl 2 rfl) ?_
    exact zl_Sheet_renew_L15 B hret hlk r0 a2 r0 X1 _ _ _ hP hS (lv_sub hl [0] rfl) hr0 hr0 hf
  · have hf := zu_t c2 hf
    refine lv_iconst (v := 0) hx hb zd_Sheet_renew_10 (by decide) ?_
    refine lv_goto (tgt := 15) hx hb zd_Sheet_renew_11 (by decide) ?_
    exact zl_Sheet_renew_L15 B hret hlk r0 (0 : Int32) r0 X1 _ _ _ hP hS (lv_sub hl [0] rfl) hr0 hr0 hf
theorem zC_Sheet_renew (l : Launch) {D : va_G} {cA : Nat → ClassId} {ad : Nat → Nat} {A : Nat → Prop} {r0 : Nat} {a1 : Int32} {a2 : Int32} {X : IX} {Y : LX} {res : IX} (hr0 : zu_kd r0 = 4) (hf : fn_Sheet_renew r0 a1 a2 X = some res) : Met l zm_Sheet_renew (zu_ws zm_Sheet_renew zb_Sheet_renew 3 none) zR_Sheet_renew (va_Pc [.ref (ad r0), .int a1, .int a2] (zu_Pre D cA ad A X Y)) (zu_Qv D cA ad A res Y) 0 0 A := by
  refine Met.ofW (cc := zb_Sheet_renew) (maxL := 3) (ret := none) (by decide +kernel) rfl ?_
  intro p e s m args below meth c s₁ B0 hml hv
  obtain ⟨rfl, hP, hST⟩ := hv
  have B : zu_B p s m _ c zb_Sheet_renew 3 "StonePost$Sheet" D cA ad A := ⟨B0.exec, B0.bytes, hml, findClass_of_methodNamed B0.named, (fun w hw => atoms_spec (ws := zu_ws zm_Sheet_renew zb_Sheet_renew 3 none) B0.pre w (List.mem_cons_of_mem _ hw)), hST⟩
  have hl := lv_entry ([.ref (ad r0), .int a1, .int a2]) (n := 3) (Nat.le_of_ble_eq_true rfl)
  rw [lg_entry_eq]
  generalize (lg_sl ([.ref (ad r0), .int a1, .int a2]) ++ List.replicate (3 - (lg_sl ([.ref (ad r0), .int a1, .int a2])).length) Slot.unset).toArray = ls at hl ⊢
  exact zl_Sheet_renew B B0.returns B0.notSynchronized s.heap [] ls hP va_S.rf hl hr0 hf
theorem zw_Sheet_renew {p : Program} {l : Launch} {e : Env} {R : Room} {s : State} {m : MethodId} {args : Array Value} {below : List Frame} {meth : Method} {c : Code} {H : Heap} {locs : List Loc} {cells slots : Nat} {Q : State → Prop} {cc : ByteArray} {pc nL : Nat} {ls : Array Slot} {rest st0 : List Value} {D : va_G} {cA : Nat → ClassId} {ad : Nat → Nat} {A : Nat → Prop} {X : IX} {Y : LX} {own : String} {index : Nat} {r0 : Nat} {a1 : Int32} {a2 : Int32} {X1 : IX} (B : zu_B p s m args c cc nL own D cA ad A) (hP : va_P D zu_cl (zu_pic cA ad X Y) H) (hS : va_S A s.heap H locs) (hr0 : zu_kd r0 = 4) (hq : fn_Sheet_renew r0 a1 a2 X = some X1) (m1 : Cond.methodLink own index zm_Sheet_renew ∈ zu_TB) (hR1 : 1 + 1 ≤ R.frames) (hR2 : 8 + (3 + 11) + 23 ≤ R.locals) (hsz : ls.size = nL) (hst : st0 = .int a2 :: .int a1 :: .ref (ad r0) :: rest) (hw : (rest.map fun v => v.category).sum ≤ 8) (hdg : decode cc pc = .ok (.invokevirtual index, 3)) (h00 : cells ≤ R.cells ∧ slots ≤ R.slots) (kk : ∀ (H1 : Heap) (locs1 : List Loc), va_P D zu_cl (zu_pic cA ad X1 Y) H1 → va_S A s.heap H1 locs1 → W p l e R s m args below meth c H1 locs1 cells slots Q (F0 m (pc + 3) ls (rest))) : W p l e R s m args below meth c H locs cells slots Q (F0 m pc ls st0) := by
  subst hst
  exact zr_cVv (As := [.int a1, .int a2]) (rest := rest) (n := 2) (C := "StonePost$Sheet") (T := zt_Sheet) (N := 3) B hP hS (zC_Sheet_renew l hr0 hq) (K := 4) hr0 (by decide) (by decide) rfl rfl m1 zq_790 zq_791 zq_7 zq_792 (by decide +kernel) ⟨hR1, hR2⟩ rfl rfl rfl hsz rfl hw hdg h00 kk
abbrev zR_Post_sheet : Room := { frames := 2, cells := 0, slots := 0, locals := 45 }
theorem zd_Post_sheet_0 : decode zb_Post_sheet 0 = .ok (.iload_n 1, 1) := by decide +kernel
theorem zd_Post_sheet_1 : decode zb_Post_sheet 1 = .ok (.invokestatic 254, 3) := by decide +kernel
theorem zd_Post_sheet_4 : decode zb_Post_sheet 4 = .ok (.ifCond .eq 10, 3) := by decide +kernel
theorem zd_Post_sheet_7 : decode zb_Post_sheet 7 = .ok (.iload_n 2, 1) := by decide +kernel
theorem zd_Post_sheet_8 : decode zb_Post_sheet 8 = .ok (.invokestatic 257, 3) := by decide +kernel
theorem zd_Post_sheet_11 : decode zb_Post_sheet 11 = .ok (.ifCond .ne 10, 3) := by decide +kernel
theorem zd_Post_sheet_14 : decode zb_Post_sheet 14 = .ok (.aload_n 0, 1) := by decide +kernel
theorem zd_Post_sheet_15 : decode zb_Post_sheet 15 = .ok (.ldc 55, 2) := by decide +kernel
theorem zd_Post_sheet_17 : decode zb_Post_sheet 17 = .ok (.invokevirtual 56, 3) := by decide +kernel
theorem zd_Post_sheet_20 : decode zb_Post_sheet 20 = .ok (.ireturn, 1) := by decide +kernel
theorem zd_Post_sheet_21 : decode zb_Post_sheet 21 = .ok (.iload_n 3, 1) := by decide +kernel
theorem zd_Post_sheet_22 : decode zb_Post_sheet 22 = .ok (.ifCond .ge 10, 3) := by decide +kernel
theorem zd_Post_sheet_25 : decode zb_Post_sheet 25 = .ok (.aload_n 0, 1) := by decide +kernel
theorem zd_Post_sheet_26 : decode zb_Post_sheet 26 = .ok (.ldc 185, 2) := by decide +kernel
theorem zd_Post_sheet_28 : decode zb_Post_sheet 28 = .ok (.invokevirtual 56, 3) := by decide +kernel
theorem zd_Post_sheet_31 : decode zb_Post_sheet 31 = .ok (.ireturn, 1) := by decide +kernel
theorem zd_Post_sheet_32 : decode zb_Post_sheet 32 = .ok (.iload_n 3, 1) := by decide +kernel
theorem zd_Post_sheet_33 : decode zb_Post_sheet 33 = .ok (.bipush 40, 2) := by decide +kernel
theorem zd_Post_sheet_35 : decode zb_Post_sheet 35 = .ok (.if_icmp .le 10, 3) := by decide +kernel
theorem zd_Post_sheet_38 : decode zb_Post_sheet 38 = .ok (.aload_n 0, 1) := by decide +kernel
theorem zd_Post_sheet_39 : decode zb_Post_sheet 39 = .ok (.ldc 55, 2) := by decide +kernel
theorem zd_Post_sheet_41 : decode zb_Post_sheet 41 = .ok (.invokevirtual 56, 3) := by decide +kernel
theorem zd_Post_sheet_44 : decode zb_Post_sheet 44 = .ok (.ireturn, 1) := by decide +kernel
theorem zd_Post_sheet_45 : decode zb_Post_sheet 45 = .ok (.aload_n 0, 1) := by decide +kernel
theorem zd_Post_sheet_46 : decode zb_Post_sheet 46 = .ok (.getfield 38, 3) := by decide +kernel
theorem zd_Post_sheet_49 : decode zb_Post_sheet 49 = .ok (.iload_n 1, 1) := by decide +kernel
theorem zd_Post_sheet_50 : decode zb_Post_sheet 50 = .ok (.aaload, 1) := by decide +kernel
theorem zd_Post_sheet_51 : decode zb_Post_sheet 51 = .ok (.iload_n 2, 1) := by decide +kernel
theorem zd_Post_sheet_52 : decode zb_Post_sheet 52 = .ok (.iload_n 3, 1) := by decide +kernel
theorem zd_Post_sheet_53 : decode zb_Post_sheet 53 = .ok (.invokevirtual 260, 3) := by decide +kernel
theorem zd_Post_sheet_56 : decode zb_Post_sheet 56 = .ok (.aload_n 0, 1) := by decide +kernel
theorem zd_Post_sheet_57 : decode zb_Post_sheet 57 = .ok (.getfield 38, 3) := by decide +kernel
theorem zd_Post_sheet_60 : decode zb_Post_sheet 60 = .ok (.iload_n 1, 1) := by decide +kernel
theorem zd_Post_sheet_61 : decode zb_Post_sheet 61 = .ok (.aaload, 1) := by decide +kernel
theorem zd_Post_sheet_62 : decode zb_Post_sheet 62 = .ok (.getfield 263, 3) := by decide +kernel
theorem zd_Post_sheet_65 : decode zb_Post_sheet 65 = .ok (.ireturn, 1) := by decide +kernel
set_option maxHeartbeats 4000000 in
theorem zl_Post_sheet_L14 {p : Program} {l : Launch} {e : Env} {s : State} {m : MethodId} {args : Array Value} {below : List Frame} {meth : Method} {c : Code} {D : va_G} {cA : Nat → ClassId} {ad : Nat → Nat} {A : Nat → Prop} (B : zu_B p s m args c zb_Post_sheet 4 "StonePost" D cA ad A) (hret : meth.sig.returnType = (some .int)) (hlk : meth.locks = false) {Y : LX} {res : Int32 × IX} (X : IX) (H : Heap) (locs : List Loc) (ls : Array Slot) (hP : va_P D zu_cl (zu_pic cA ad X Y) H) (hS : va_S A s.heap H locs) (hl : lv_has ls 4 [(0, .ref (ad 0))]) (hf : fn_Post_sheet_L14 X = some res) : W p l e zR_Post_sheet s m args below meth c H locs 0 0 (MQ below (zu_Qi D cA ad A res.1 res.2 Y) args s 0 0 A) (F0 m 14 ls []) := by
  obtain ⟨hx, hb, hml, hown, hts, hST⟩ := id B
  unfold fn_Post_sheet_L14 at hf
  refine lv_aload_n hx hb zd_Post_sheet_14 rfl (lv_at hl 0 rfl) ?_
  refine lv_ldc (v := -1000001) hx hb hown (hts _ zq_226) zd_Post_sheet_15 ?_
  obtain ⟨v19, X20, hq21, hf⟩ := zu_b2_e hf
  refine zw_Post_finding (rest := []) B hP hS hq21 zq_227 (Nat.le_of_ble_eq_true rfl) (Nat.le_of_ble_eq_true rfl) hl.1 rfl (Nat.le_of_ble_eq_true rfl) zd_Post_sheet_17 (by decide) (fun H locs hP hS => ?_)
  clear hq21
  obtain rfl := Option.some.inj hf
  exact zr_iret hx hb hret hlk hP hS zd_Post_sheet_20
set_option maxHeartbeats 4000000 in
theorem zl_Post_sheet {p : Program} {l : Launch} {e : Env} {s : State} {m : MethodId} {args : Array Value} {below : List Frame} {meth : Method} {c : Code} {D : va_G} {cA : Nat → ClassId} {ad : Nat → Nat} {A : Nat → Prop} (B : zu_B p s m args c zb_Post_sheet 4 "StonePost" D cA ad A) (hret : meth.sig.returnType = (some .int)) (hlk : meth.locks = false) {Y : LX} {res : Int32 × IX} {a1 : Int32} {a2 : Int32} {a3 : Int32} {X : IX} (H : Heap) (locs : List Loc) (ls : Array Slot) (hP : va_P D zu_cl (zu_pic cA ad X Y) H) (hS : va_S A s.heap H locs) (hl : lv_has ls 4 [(0, .ref (ad 0)), (1, .int a1), (2, .int a2), (3, .int a3)]) (hf : fn_Post_sheet a1 a2 a3 X = some res) : W p l e zR_Post_sheet s m args below meth c H locs 0 0 (MQ below (zu_Qi D cA ad A res.1 res.2 Y) args s 0 0 A) (F0 m 0 ls []) := by
  obtain ⟨hx, hb, hml, hown, hts, hST⟩ := id B
  unfold fn_Post_sheet at hf
  refine lv_iload_n hx hb zd_Post_sheet_0 rfl (lv_at hl 1 rfl) ?_
  obtain ⟨v1, hq2, hf⟩ := zu_b1_e hf
  refine zw_Post_isSheet (rest := []) B hP hS hq2 zq_783 (Nat.le_of_ble_eq_true rfl) (Nat.le_of_ble_eq_true rfl) hl.1 rfl (Nat.le_of_ble_eq_true rfl) zd_Post_sheet_1 (by decide) (fun H locs hP hS => ?_)
  clear hq2
  refine lv_if_eq (tgt := 14) hx hb zd_Post_sheet_4 (by decide) (fun c3 => ?_) (fun c3 => ?_)
  · have hf := zu_t c3 hf
    exact zl_Post_sheet_L14 B hret hlk X _ _ _ hP hS (lv_sub hl [0] rfl) hf
  · have hf := zu_f c3 hf
    refine lv_iload_n hx hb zd_Post_sheet_7 rfl (lv_at hl 2 rfl) ?_
    obtain ⟨v4, hq5, hf⟩ := zu_b1_e hf
    refine zw_Sheet_isWidth (rest := []) B hP hS hq5 zq_786 (Nat.le_of_ble_eq_true rfl) (Nat.le_of_ble_eq_true rfl) hl.1 rfl (Nat.le_of_ble_eq_true rfl) zd_Post_sheet_8 (by decide) (fun H locs hP hS => ?_)
    clear hq5
    refine lv_if_ne (tgt := 21) hx hb zd_Post_sheet_11 (by decide) (fun c6 => ?_) (fun c6 => ?_)
    · have hf := zu_f c6 hf
      refine lv_iload_n hx hb zd_Post_sheet_21 rfl (lv_at hl 3 rfl) ?_
      refine lv_if_ge (tgt := 32) hx hb zd_Post_sheet_22 (by decide) (fun c7 => ?_) (fun c7 => ?_)
      · have hf := zu_t c7 hf
        refine lv_iload_n hx hb zd_Post_sheet_32 rfl (lv_at hl 3 rfl) ?_
        refine lv_bipush (v := 40) hx hb zd_Post_sheet_33 (by decide) ?_
        refine lv_icmp_le (tgt := 45) hx hb zd_Post_sheet_35 (by decide) (fun c8 => ?_) (fun c8 => ?_)
        · have hf := zu_t c8 hf
          refine lv_aload_n hx hb zd_Post_sheet_45 rfl (lv_at hl 0 rfl) ?_
          refine zg_Post_sheets B hP rfl zq_196 zd_Post_sheet_46 ?_
          refine lv_iload_n hx hb zd_Post_sheet_49 rfl (lv_at hl 1 rfl) ?_
          obtain ⟨hg9, hf⟩ := zu_gd_e hf
          refine zr_she rfl B hP rfl hg9 zd_Post_sheet_50 ?_
          refine lv_iload_n hx hb zd_Post_sheet_51 rfl (lv_at hl 2 rfl) ?_
          refine lv_iload_n hx hb zd_Post_sheet_52 rfl (lv_at hl 3 rfl) ?_
          obtain ⟨X10, hq11, hf⟩ := zu_b1_e hf
          refine zw_Sheet_renew (rest := []) B hP hS (zk_she (zu_ib_lt hg9)) hq11 zq_789 (Nat.le_of_ble_eq_true rfl) (Nat.le_of_ble_eq_true rfl) hl.1 rfl (Nat.le_of_ble_eq_true rfl) zd_Post_sheet_53 (by decide) (fun H locs hP hS => ?_)
          clear hq11
          refine lv_aload_n hx hb zd_Post_sheet_56 rfl (lv_at hl 0 rfl) ?_
          refine zg_Post_sheets B hP rfl zq_196 zd_Post_sheet_57 ?_
          refine lv_iload_n hx hb zd_Post_sheet_60 rfl (lv_at hl 1 rfl) ?_
          obtain ⟨hg12, hf⟩ := zu_gd_e hf
          refine zr_she rfl B hP rfl hg12 zd_Post_sheet_61 ?_
          refine zg_Sheet_length B hP (zk_she (zu_ib_lt hg12)) zq_183 zd_Post_sheet_62 ?_
          obtain rfl := Option.some.inj hf
          exact zr_iret hx hb hret hlk hP hS zd_Post_sheet_65
        · have hf := zu_f c8 hf
          refine lv_aload_n hx hb zd_Post_sheet_38 rfl (lv_at hl 0 rfl) ?_
          refine lv_ldc (v := -1000001) hx hb hown (hts _ zq_226) zd_Post_sheet_39 ?_
          obtain ⟨v13, X14, hq15, hf⟩ := zu_b2_e hf
          refine zw_Post_finding (rest := []) B hP hS hq15 zq_227 (Nat.le_of_ble_eq_true rfl) (Nat.le_of_ble_eq_true rfl) hl.1 rfl (Nat.le_of_ble_eq_true rfl) zd_Post_sheet_41 (by decide) (fun H locs hP hS => ?_)
          clear hq15
          obtain rfl := Option.some.inj hf
          exact zr_iret hx hb hret hlk hP hS zd_Post_sheet_44
      · have hf := zu_f c7 hf
        refine lv_aload_n hx hb zd_Post_sheet_25 rfl (lv_at hl 0 rfl) ?_
        refine lv_ldc (v := -1000007) hx hb hown (hts _ zq_522) zd_Post_sheet_26 ?_
        obtain ⟨v16, X17, hq18, hf⟩ := zu_b2_e hf
        refine zw_Post_finding (rest := []) B hP hS hq18 zq_227 (Nat.le_of_ble_eq_true rfl) (Nat.le_of_ble_eq_true rfl) hl.1 rfl (Nat.le_of_ble_eq_true rfl) zd_Post_sheet_28 (by decide) (fun H locs hP hS => ?_)
        clear hq18
        obtain rfl := Option.some.inj hf
        exact zr_iret hx hb hret hlk hP hS zd_Post_sheet_31
    · have hf := zu_t c6 hf
      exact zl_Post_sheet_L14 B hret hlk X _ _ _ hP hS (lv_sub hl [0] rfl) hf
theorem zC_Post_sheet (l : Launch) {D : va_G} {cA : Nat → ClassId} {ad : Nat → Nat} {A : Nat → Prop} {a1 : Int32} {a2 : Int32} {a3 : Int32} {X : IX} {Y : LX} {res : Int32 × IX} (hf : fn_Post_sheet a1 a2 a3 X = some res) : Met l zm_Post_sheet (zu_ws zm_Post_sheet zb_Post_sheet 4 (some .int)) zR_Post_sheet (va_Pc [.ref (ad 0), .int a1, .int a2, .int a3] (zu_Pre D cA ad A X Y)) (zu_Qi D cA ad A res.1 res.2 Y) 0 0 A := by
  refine Met.ofW (cc := zb_Post_sheet) (maxL := 4) (ret := (some .int)) (by decide +kernel) rfl ?_
  intro p e s m args below meth c s₁ B0 hml hv
  obtain ⟨rfl, hP, hST⟩ := hv
  have B : zu_B p s m _ c zb_Post_sheet 4 "StonePost" D cA ad A := ⟨B0.exec, B0.bytes, hml, findClass_of_methodNamed B0.named, (fun w hw => atoms_spec (ws := zu_ws zm_Post_sheet zb_Post_sheet 4 (some .int)) B0.pre w (List.mem_cons_of_mem _ hw)), hST⟩
  have hl := lv_entry ([.ref (ad 0), .int a1, .int a2, .int a3]) (n := 4) (Nat.le_of_ble_eq_true rfl)
  rw [lg_entry_eq]
  generalize (lg_sl ([.ref (ad 0), .int a1, .int a2, .int a3]) ++ List.replicate (4 - (lg_sl ([.ref (ad 0), .int a1, .int a2, .int a3])).length) Slot.unset).toArray = ls at hl ⊢
  exact zl_Post_sheet B B0.returns B0.notSynchronized s.heap [] ls hP va_S.rf hl  hf
theorem zw_Post_sheet {p : Program} {l : Launch} {e : Env} {R : Room} {s : State} {m : MethodId} {args : Array Value} {below : List Frame} {meth : Method} {c : Code} {H : Heap} {locs : List Loc} {cells slots : Nat} {Q : State → Prop} {cc : ByteArray} {pc nL : Nat} {ls : Array Slot} {rest st0 : List Value} {D : va_G} {cA : Nat → ClassId} {ad : Nat → Nat} {A : Nat → Prop} {X : IX} {Y : LX} {own : String} {index : Nat} {a1 : Int32} {a2 : Int32} {a3 : Int32} {v1 : Int32} {X1 : IX} (B : zu_B p s m args c cc nL own D cA ad A) (hP : va_P D zu_cl (zu_pic cA ad X Y) H) (hS : va_S A s.heap H locs) (hq : fn_Post_sheet a1 a2 a3 X = some (v1, X1)) (m1 : Cond.methodLink own index zm_Post_sheet ∈ zu_TB) (hR1 : 2 + 1 ≤ R.frames) (hR2 : 8 + (4 + 11) + 45 ≤ R.locals) (hsz : ls.size = nL) (hst : st0 = .int a3 :: .int a2 :: .int a1 :: .ref (ad 0) :: rest) (hw : (rest.map fun v => v.category).sum ≤ 8) (hdg : decode cc pc = .ok (.invokevirtual index, 3)) (h00 : cells ≤ R.cells ∧ slots ≤ R.slots) (kk : ∀ (H1 : Heap) (locs1 : List Loc), va_P D zu_cl (zu_pic cA ad X1 Y) H1 → va_S A s.heap H1 locs1 → W p l e R s m args below meth c H1 locs1 cells slots Q (F0 m (pc + 3) ls (.int v1 :: rest))) : W p l e R s m args below meth c H locs cells slots Q (F0 m pc ls st0) := by
  subst hst
  exact zr_cVi (As := [.int a1, .int a2, .int a3]) (rest := rest) (n := 3) (C := "StonePost") (T := zt_Post) (N := 8) B hP hS (zC_Post_sheet l  hq) (K := 1) rfl (by decide) (by decide) rfl rfl m1 zq_780 zq_781 zq_1 zq_782 (by decide +kernel) ⟨hR1, hR2⟩ rfl rfl rfl hsz rfl hw hdg h00 kk
abbrev zR_Sheet_isMissing : Room := { frames := 0, cells := 0, slots := 0, locals := 0 }
theorem zd_Sheet_isMissing_0 : decode zb_Sheet_isMissing 0 = .ok (.aload_n 0, 1) := by decide +kernel
theorem zd_Sheet_isMissing_1 : decode zb_Sheet_isMissing 1 = .ok (.getfield 15, 3) := by decide +kernel
theorem zd_Sheet_isMissing_4 : decode zb_Sheet_isMissing 4 = .ok (.ifCond .ne 7, 3) := by decide +kernel
theorem zd_Sheet_isMissing_7 : decode zb_Sheet_isMissing 7 = .ok (.iconst 1, 1) := by decide +kernel
theorem zd_Sheet_isMissing_8 : decode zb_Sheet_isMissing 8 = .ok (.goto 4, 3) := by decide +kernel
theorem zd_Sheet_isMissing_11 : decode zb_Sheet_isMissing 11 = .ok (.iconst 0, 1) := by decide +kernel
theorem zd_Sheet_isMissing_12 : decode zb_Sheet_isMissing 12 = .ok (.ireturn, 1) := by decide +kernel
set_option maxHeartbeats 4000000 in
theorem zl_Sheet_isMissing_L12 {p : Program} {l : Launch} {e : Env} {s : State} {m : MethodId} {args : Array Value} {below : List Frame} {meth : Method} {c : Code} {D : va_G} {cA : Nat → ClassId} {ad : Nat → Nat} {A : Nat → Prop} (B : zu_B p s m args c zb_Sheet_isMissing 1 "StonePost$Sheet" D cA ad A) (hret : meth.sig.returnType = (some .boolean)) (hlk : meth.locks = false) {X : IX} {Y : LX} {res : Int32} (y0 : Int32) (H : Heap) (locs : List Loc) (ls : Array Slot) (hP : va_P D zu_cl (zu_pic cA ad X Y) H) (hS : va_S A s.heap H locs) (hl : lv_has ls 1 []) (hf : fn_Sheet_isMissing_L12 X y0 = some res) : W p l e zR_Sheet_isMissing s m args below meth c H locs 0 0 (MQ below (zu_Qi D cA ad A res X Y) args s 0 0 A) (F0 m 12 ls [.int y0]) := by
  obtain ⟨hx, hb, hml, hown, hts, hST⟩ := id B
  unfold fn_Sheet_isMissing_L12 at hf
  obtain ⟨hg2, hf⟩ := zu_gd_e hf
  obtain rfl := Option.some.inj hf
  exact zr_zret hx hb hret hlk hP hS hg2 zd_Sheet_isMissing_12
set_option maxHeartbeats 4000000 in
theorem zl_Sheet_isMissing {p : Program} {l : Launch} {e : Env} {s : State} {m : MethodId} {args : Array Value} {below : List Frame} {meth : Method} {c : Code} {D : va_G} {cA : Nat → ClassId} {ad : Nat → Nat} {A : Nat → Prop} (B : zu_B p s m args c zb_Sheet_isMissing 1 "StonePost$Sheet" D cA ad A) (hret : meth.sig.returnType = (some .boolean)) (hlk : meth.locks = false) {X : IX} {Y : LX} {res : Int32} {r0 : Nat} (H : Heap) (locs : List Loc) (ls : Array Slot) (hP : va_P D zu_cl (zu_pic cA ad X Y) H) (hS : va_S A s.heap H locs) (hl : lv_has ls 1 [(0, .ref (ad r0))]) (hr0 : zu_kd r0 = 4) (hf : fn_Sheet_isMissing X r0 = some res) : W p l e zR_Sheet_isMissing s m args below meth c H locs 0 0 (MQ below (zu_Qi D cA ad A res X Y) args s 0 0 A) (F0 m 0 ls []) := by
  obtain ⟨hx, hb, hml, hown, hts, hST⟩ := id B
  unfold fn_Sheet_isMissing at hf
  refine lv_aload_n hx hb zd_Sheet_isMissing_0 rfl (lv_at hl 0 rfl) ?_
  refine zg_Sheet_bits B hP hr0 zq_180 zd_Sheet_isMissing_1 ?_
  refine lv_if_ne (tgt := 11) hx hb zd_Sheet_isMissing_4 (by decide) (fun c1 => ?_) (fun c1 => ?_)
  · have hf := zu_f c1 hf
    refine lv_iconst (v := 0) hx hb zd_Sheet_isMissing_11 (by decide) ?_
    exact zl_Sheet_isMissing_L12 B hret hlk (0 : Int32) _ _ _ hP hS (lv_sub hl [] rfl) hf
  · have hf := zu_t c1 hf
    refine lv_iconst (v := 1) hx hb zd_Sheet_isMissing_7 (by decide) ?_
    refine lv_goto (tgt := 12) hx hb zd_Sheet_isMissing_8 (by decide) ?_
    exact zl_Sheet_isMissing_L12 B hret hlk (1 : Int32) _ _ _ hP hS (lv_sub hl [] rfl) hf
theorem zC_Sheet_isMissing (l : Launch) {D : va_G} {cA : Nat → ClassId} {ad : Nat → Nat} {A : Nat → Prop} {r0 : Nat} {X : IX} {Y : LX} {res : Int32} (hr0 : zu_kd r0 = 4) (hf : fn_Sheet_isMissing X r0 = some res) : Met l zm_Sheet_isMissing (zu_ws zm_Sheet_isMissing zb_Sheet_isMissing 1 (some .boolean)) zR_Sheet_isMissing (va_Pc [.ref (ad r0)] (zu_Pre D cA ad A X Y)) (zu_Qi D cA ad A res X Y) 0 0 A := by
  refine Met.ofW (cc := zb_Sheet_isMissing) (maxL := 1) (ret := (some .boolean)) (by decide +kernel) rfl ?_
  intro p e s m args below meth c s₁ B0 hml hv
  obtain ⟨rfl, hP, hST⟩ := hv
  have B : zu_B p s m _ c zb_Sheet_isMissing 1 "StonePost$Sheet" D cA ad A := ⟨B0.exec, B0.bytes, hml, findClass_of_methodNamed B0.named, (fun w hw => atoms_spec (ws := zu_ws zm_Sheet_isMissing zb_Sheet_isMissing 1 (some .boolean)) B0.pre w (List.mem_cons_of_mem _ hw)), hST⟩
  have hl := lv_entry ([.ref (ad r0)]) (n := 1) (Nat.le_of_ble_eq_true rfl)
  rw [lg_entry_eq]
  generalize (lg_sl ([.ref (ad r0)]) ++ List.replicate (1 - (lg_sl ([.ref (ad r0)])).length) Slot.unset).toArray = ls at hl ⊢
  exact zl_Sheet_isMissing B B0.returns B0.notSynchronized s.heap [] ls hP va_S.rf hl hr0 hf
theorem zw_Sheet_isMissing {p : Program} {l : Launch} {e : Env} {R : Room} {s : State} {m : MethodId} {args : Array Value} {below : List Frame} {meth : Method} {c : Code} {H : Heap} {locs : List Loc} {cells slots : Nat} {Q : State → Prop} {cc : ByteArray} {pc nL : Nat} {ls : Array Slot} {rest st0 : List Value} {D : va_G} {cA : Nat → ClassId} {ad : Nat → Nat} {A : Nat → Prop} {X : IX} {Y : LX} {own : String} {index : Nat} {r0 : Nat} {v1 : Int32} (B : zu_B p s m args c cc nL own D cA ad A) (hP : va_P D zu_cl (zu_pic cA ad X Y) H) (hS : va_S A s.heap H locs) (hr0 : zu_kd r0 = 4) (hq : fn_Sheet_isMissing X r0 = some v1) (m1 : Cond.methodLink own index zm_Sheet_isMissing ∈ zu_TB) (hR1 : 0 + 1 ≤ R.frames) (hR2 : 8 + (1 + 11) + 0 ≤ R.locals) (hsz : ls.size = nL) (hst : st0 = .ref (ad r0) :: rest) (hw : (rest.map fun v => v.category).sum ≤ 8) (hdg : decode cc pc = .ok (.invokevirtual index, 3)) (h00 : cells ≤ R.cells ∧ slots ≤ R.slots) (kk : ∀ (H1 : Heap) (locs1 : List Loc), va_P D zu_cl (zu_pic cA ad X Y) H1 → va_S A s.heap H1 locs1 → W p l e R s m args below meth c H1 locs1 cells slots Q (F0 m (pc + 3) ls (.int v1 :: rest))) : W p l e R s m args below meth c H locs cells slots Q (F0 m pc ls st0) := by
  subst hst
  exact zr_cVi (As := []) (rest := rest) (n := 0) (C := "StonePost$Sheet") (T := zt_Sheet) (N := 3) B hP hS (zC_Sheet_isMissing l hr0 hq) (K := 4) hr0 (by decide) (by decide) rfl rfl m1 zq_799 zq_800 zq_7 zq_801 (by decide +kernel) ⟨hR1, hR2⟩ rfl rfl rfl hsz rfl hw hdg h00 kk
abbrev zR_Sheet_put : Room := { frames := 0, cells := 0, slots := 0, locals := 0 }
theorem zd_Sheet_put_0 : decode zb_Sheet_put 0 = .ok (.bipush 32, 2) := by decide +kernel
theorem zd_Sheet_put_2 : decode zb_Sheet_put 2 = .ok (.aload_n 0, 1) := by decide +kernel
theorem zd_Sheet_put_3 : decode zb_Sheet_put 3 = .ok (.getfield 15, 3) := by decide +kernel
theorem zd_Sheet_put_6 : decode zb_Sheet_put 6 = .ok (.isub, 1) := by decide +kernel
theorem zd_Sheet_put_7 : decode zb_Sheet_put 7 = .ok (.istore_n 3, 1) := by decide +kernel
theorem zd_Sheet_put_8 : decode zb_Sheet_put 8 = .ok (.aload_n 0, 1) := by decide +kernel
theorem zd_Sheet_put_9 : decode zb_Sheet_put 9 = .ok (.getfield 9, 3) := by decide +kernel
theorem zd_Sheet_put_12 : decode zb_Sheet_put 12 = .ok (.iload_n 1, 1) := by decide +kernel
theorem zd_Sheet_put_13 : decode zb_Sheet_put 13 = .ok (.iload_n 2, 1) := by decide +kernel
theorem zd_Sheet_put_14 : decode zb_Sheet_put 14 = .ok (.iload_n 3, 1) := by decide +kernel
theorem zd_Sheet_put_15 : decode zb_Sheet_put 15 = .ok (.ishl, 1) := by decide +kernel
theorem zd_Sheet_put_16 : decode zb_Sheet_put 16 = .ok (.iload_n 3, 1) := by decide +kernel
theorem zd_Sheet_put_17 : decode zb_Sheet_put 17 = .ok (.ishr, 1) := by decide +kernel
theorem zd_Sheet_put_18 : decode zb_Sheet_put 18 = .ok (.iastore, 1) := by decide +kernel
theorem zd_Sheet_put_19 : decode zb_Sheet_put 19 = .ok (.return_, 1) := by decide +kernel
set_option maxHeartbeats 4000000 in
theorem zl_Sheet_put {p : Program} {l : Launch} {e : Env} {s : State} {m : MethodId} {args : Array Value} {below : List Frame} {meth : Method} {c : Code} {D : va_G} {cA : Nat → ClassId} {ad : Nat → Nat} {A : Nat → Prop} (B : zu_B p s m args c zb_Sheet_put 4 "StonePost$Sheet" D cA ad A) (hret : meth.sig.returnType = none) (hlk : meth.locks = false) {Y : LX} {res : IX} {r0 : Nat} {a1 : Int32} {a2 : Int32} {X : IX} (H : Heap) (locs : List Loc) (ls : Array Slot) (hP : va_P D zu_cl (zu_pic cA ad X Y) H) (hS : va_S A s.heap H locs) (hl : lv_has ls 4 [(0, .ref (ad r0)), (1, .int a1), (2, .int a2)]) (hr0 : zu_kd r0 = 4) (hf : fn_Sheet_put r0 a1 a2 X = some res) : W p l e zR_Sheet_put s m args below meth c H locs 0 0 (MQ below (zu_Qv D cA ad A res Y) args s 0 0 A) (F0 m 0 ls []) := by
  obtain ⟨hx, hb, hml, hown, hts, hST⟩ := id B
  unfold fn_Sheet_put at hf
  refine lv_bipush (v := 32) hx hb zd_Sheet_put_0 (by decide) ?_
  refine lv_aload_n hx hb zd_Sheet_put_2 rfl (lv_at hl 0 rfl) ?_
  refine zg_Sheet_bits B hP hr0 zq_180 zd_Sheet_put_3 ?_
  refine lv_isub hx hb zd_Sheet_put_6 ?_
  refine zr_nxi hf (fun v1 hf => ?_)
  refine lv_istore_n (lv' := [(3, .int v1), (0, .ref (ad r0)), (1, .int a1), (2, .int a2)]) hx hb zd_Sheet_put_7 rfl hl (by decide) rfl (fun ls hl => ?_)
  refine lv_aload_n hx hb zd_Sheet_put_8 rfl (lv_at hl 1 rfl) ?_
  refine zg_Sheet_numbers B hP hr0 zq_178 zd_Sheet_put_9 ?_
  refine lv_iload_n hx hb zd_Sheet_put_12 rfl (lv_at hl 2 rfl) ?_
  refine lv_iload_n hx hb zd_Sheet_put_13 rfl (lv_at hl 3 rfl) ?_
  refine lv_iload_n hx hb zd_Sheet_put_14 rfl (lv_at hl 0 rfl) ?_
  refine lv_ishl hx hb zd_Sheet_put_15 ?_
  refine lv_iload_n hx hb zd_Sheet_put_16 rfl (lv_at hl 0 rfl) ?_
  refine lv_ishr hx hb zd_Sheet_put_17 ?_
  obtain ⟨hg2, hf⟩ := zu_gd_e hf
  refine zr_iast rfl B hP hS hf (zk_Sheet_numbers hr0) (by decide) rfl hg2 zd_Sheet_put_18 (fun X3 H locs hf hP hS => ?_)
  obtain rfl := Option.some.inj hf
  exact zr_vret hx hb hret hlk hP hS zd_Sheet_put_19
theorem zC_Sheet_put (l : Launch) {D : va_G} {cA : Nat → ClassId} {ad : Nat → Nat} {A : Nat → Prop} {r0 : Nat} {a1 : Int32} {a2 : Int32} {X : IX} {Y : LX} {res : IX} (hr0 : zu_kd r0 = 4) (hf : fn_Sheet_put r0 a1 a2 X = some res) : Met l zm_Sheet_put (zu_ws zm_Sheet_put zb_Sheet_put 4 none) zR_Sheet_put (va_Pc [.ref (ad r0), .int a1, .int a2] (zu_Pre D cA ad A X Y)) (zu_Qv D cA ad A res Y) 0 0 A := by
  refine Met.ofW (cc := zb_Sheet_put) (maxL := 4) (ret := none) (by decide +kernel) rfl ?_
  intro p e s m args below meth c s₁ B0 hml hv
  obtain ⟨rfl, hP, hST⟩ := hv
  have B : zu_B p s m _ c zb_Sheet_put 4 "StonePost$Sheet" D cA ad A := ⟨B0.exec, B0.bytes, hml, findClass_of_methodNamed B0.named, (fun w hw => atoms_spec (ws := zu_ws zm_Sheet_put zb_Sheet_put 4 none) B0.pre w (List.mem_cons_of_mem _ hw)), hST⟩
  have hl := lv_entry ([.ref (ad r0), .int a1, .int a2]) (n := 4) (Nat.le_of_ble_eq_true rfl)
  rw [lg_entry_eq]
  generalize (lg_sl ([.ref (ad r0), .int a1, .int a2]) ++ List.replicate (4 - (lg_sl ([.ref (ad r0), .int a1, .int a2])).length) Slot.unset).toArray = ls at hl ⊢
  exact zl_Sheet_put B B0.returns B0.notSynchronized s.heap [] ls hP va_S.rf hl hr0 hf
theorem zw_Sheet_put {p : Program} {l : Launch} {e : Env} {R : Room} {s : State} {m : MethodId} {args : Array Value} {below : List Frame} {meth : Method} {c : Code} {H : Heap} {locs : List Loc} {cells slots : Nat} {Q : State → Prop} {cc : ByteArray} {pc nL : Nat} {ls : Array Slot} {rest st0 : List Value} {D : va_G} {cA : Nat → ClassId} {ad : Nat → Nat} {A : Nat → Prop} {X : IX} {Y : LX} {own : String} {index : Nat} {r0 : Nat} {a1 : Int32} {a2 : Int32} {X1 : IX} (B : zu_B p s m args c cc nL own D cA ad A) (hP : va_P D zu_cl (zu_pic cA ad X Y) H) (hS : va_S A s.heap H locs) (hr0 : zu_kd r0 = 4) (hq : fn_Sheet_put r0 a1 a2 X = some X1) (m1 : Cond.methodLink own index zm_Sheet_put ∈ zu_TB) (hR1 : 0 + 1 ≤ R.frames) (hR2 : 8 + (4 + 11) + 0 ≤ R.locals) (hsz : ls.size = nL) (hst : st0 = .int a2 :: .int a1 :: .ref (ad r0) :: rest) (hw : (rest.map fun v => v.category).sum ≤ 8) (hdg : decode cc pc = .ok (.invokevirtual index, 3)) (h00 : cells ≤ R.cells ∧ slots ≤ R.slots) (kk : ∀ (H1 : Heap) (locs1 : List Loc), va_P D zu_cl (zu_pic cA ad X1 Y) H1 → va_S A s.heap H1 locs1 → W p l e R s m args below meth c H1 locs1 cells slots Q (F0 m (pc + 3) ls (rest))) : W p l e R s m args below meth c H locs cells slots Q (F0 m pc ls st0) := by
  subst hst
  exact zr_cVv (As := [.int a1, .int a2]) (rest := rest) (n := 2) (C := "StonePost$Sheet") (T := zt_Sheet) (N := 3) B hP hS (zC_Sheet_put l hr0 hq) (K := 4) hr0 (by decide) (by decide) rfl rfl m1 zq_803 zq_804 zq_7 zq_805 (by decide +kernel) ⟨hR1, hR2⟩ rfl rfl rfl hsz rfl hw hdg h00 kk
abbrev zR_Post_write : Room := { frames := 2, cells := 0, slots := 0, locals := 44 }
theorem zd_Post_write_0 : decode zb_Post_write 0 = .ok (.iload_n 1, 1) := by decide +kernel
theorem zd_Post_write_1 : decode zb_Post_write 1 = .ok (.invokestatic 254, 3) := by decide +kernel
theorem zd_Post_write_4 : decode zb_Post_write 4 = .ok (.ifCond .ne 10, 3) := by decide +kernel
theorem zd_Post_write_7 : decode zb_Post_write 7 = .ok (.aload_n 0, 1) := by decide +kernel
theorem zd_Post_write_8 : decode zb_Post_write 8 = .ok (.ldc 55, 2) := by decide +kernel
theorem zd_Post_write_10 : decode zb_Post_write 10 = .ok (.invokevirtual 56, 3) := by decide +kernel
theorem zd_Post_write_13 : decode zb_Post_write 13 = .ok (.ireturn, 1) := by decide +kernel
theorem zd_Post_write_14 : decode zb_Post_write 14 = .ok (.aload_n 0, 1) := by decide +kernel
theorem zd_Post_write_15 : decode zb_Post_write 15 = .ok (.getfield 38, 3) := by decide +kernel
theorem zd_Post_write_18 : decode zb_Post_write 18 = .ok (.iload_n 1, 1) := by decide +kernel
theorem zd_Post_write_19 : decode zb_Post_write 19 = .ok (.aaload, 1) := by decide +kernel
theorem zd_Post_write_20 : decode zb_Post_write 20 = .ok (.invokevirtual 264, 3) := by decide +kernel
theorem zd_Post_write_23 : decode zb_Post_write 23 = .ok (.ifCond .eq 10, 3) := by decide +kernel
theorem zd_Post_write_26 : decode zb_Post_write 26 = .ok (.aload_n 0, 1) := by decide +kernel
theorem zd_Post_write_27 : decode zb_Post_write 27 = .ok (.ldc 249, 2) := by decide +kernel
theorem zd_Post_write_29 : decode zb_Post_write 29 = .ok (.invokevirtual 56, 3) := by decide +kernel
theorem zd_Post_write_32 : decode zb_Post_write 32 = .ok (.ireturn, 1) := by decide +kernel
theorem zd_Post_write_33 : decode zb_Post_write 33 = .ok (.iload_n 2, 1) := by decide +kernel
theorem zd_Post_write_34 : decode zb_Post_write 34 = .ok (.iconst 0, 1) := by decide +kernel
theorem zd_Post_write_35 : decode zb_Post_write 35 = .ok (.aload_n 0, 1) := by decide +kernel
theorem zd_Post_write_36 : decode zb_Post_write 36 = .ok (.getfield 38, 3) := by decide +kernel
theorem zd_Post_write_39 : decode zb_Post_write 39 = .ok (.iload_n 1, 1) := by decide +kernel
theorem zd_Post_write_40 : decode zb_Post_write 40 = .ok (.aaload, 1) := by decide +kernel
theorem zd_Post_write_41 : decode zb_Post_write 41 = .ok (.getfield 263, 3) := by decide +kernel
theorem zd_Post_write_44 : decode zb_Post_write 44 = .ok (.iconst 1, 1) := by decide +kernel
theorem zd_Post_write_45 : decode zb_Post_write 45 = .ok (.isub, 1) := by decide +kernel
theorem zd_Post_write_46 : decode zb_Post_write 46 = .ok (.invokestatic 51, 3) := by decide +kernel
theorem zd_Post_write_49 : decode zb_Post_write 49 = .ok (.ifCond .ne 10, 3) := by decide +kernel
theorem zd_Post_write_52 : decode zb_Post_write 52 = .ok (.aload_n 0, 1) := by decide +kernel
theorem zd_Post_write_53 : decode zb_Post_write 53 = .ok (.ldc 55, 2) := by decide +kernel
theorem zd_Post_write_55 : decode zb_Post_write 55 = .ok (.invokevirtual 56, 3) := by decide +kernel
theorem zd_Post_write_58 : decode zb_Post_write 58 = .ok (.ireturn, 1) := by decide +kernel
theorem zd_Post_write_59 : decode zb_Post_write 59 = .ok (.aload_n 0, 1) := by decide +kernel
theorem zd_Post_write_60 : decode zb_Post_write 60 = .ok (.getfield 38, 3) := by decide +kernel
theorem zd_Post_write_63 : decode zb_Post_write 63 = .ok (.iload_n 1, 1) := by decide +kernel
theorem zd_Post_write_64 : decode zb_Post_write 64 = .ok (.aaload, 1) := by decide +kernel
theorem zd_Post_write_65 : decode zb_Post_write 65 = .ok (.iload_n 2, 1) := by decide +kernel
theorem zd_Post_write_66 : decode zb_Post_write 66 = .ok (.iload_n 3, 1) := by decide +kernel
theorem zd_Post_write_67 : decode zb_Post_write 67 = .ok (.invokevirtual 267, 3) := by decide +kernel
theorem zd_Post_write_70 : decode zb_Post_write 70 = .ok (.iconst 1, 1) := by decide +kernel
theorem zd_Post_write_71 : decode zb_Post_write 71 = .ok (.ireturn, 1) := by decide +kernel
set_option maxHeartbeats 4000000 in
theorem zl_Post_write {p : Program} {l : Launch} {e : Env} {s : State} {m : MethodId} {args : Array Value} {below : List Frame} {meth : Method} {c : Code} {D : va_G} {cA : Nat → ClassId} {ad : Nat → Nat} {A : Nat → Prop} (B : zu_B p s m args c zb_Post_write 4 "StonePost" D cA ad A) (hret : meth.sig.returnType = (some .int)) (hlk : meth.locks = false) {Y : LX} {res : Int32 × IX} {a1 : Int32} {a2 : Int32} {a3 : Int32} {X : IX} (H : Heap) (locs : List Loc) (ls : Array Slot) (hP : va_P D zu_cl (zu_pic cA ad X Y) H) (hS : va_S A s.heap H locs) (hl : lv_has ls 4 [(0, .ref (ad 0)), (1, .int a1), (2, .int a2), (3, .int a3)]) (hf : fn_Post_write a1 a2 a3 X = some res) : W p l e zR_Post_write s m args below meth c H locs 0 0 (MQ below (zu_Qi D cA ad A res.1 res.2 Y) args s 0 0 A) (F0 m 0 ls []) := by
  obtain ⟨hx, hb, hml, hown, hts, hST⟩ := id B
  unfold fn_Post_write at hf
  refine lv_iload_n hx hb zd_Post_write_0 rfl (lv_at hl 1 rfl) ?_
  obtain ⟨v1, hq2, hf⟩ := zu_b1_e hf
  refine zw_Post_isSheet (rest := []) B hP hS hq2 zq_783 (Nat.le_of_ble_eq_true rfl) (Nat.le_of_ble_eq_true rfl) hl.1 rfl (Nat.le_of_ble_eq_true rfl) zd_Post_write_1 (by decide) (fun H locs hP hS => ?_)
  clear hq2
  refine lv_if_ne (tgt := 14) hx hb zd_Post_write_4 (by decide) (fun c3 => ?_) (fun c3 => ?_)
  · have hf := zu_f c3 hf
    refine lv_aload_n hx hb zd_Post_write_14 rfl (lv_at hl 0 rfl) ?_
    refine zg_Post_sheets B hP rfl zq_196 zd_Post_write_15 ?_
    refine lv_iload_n hx hb zd_Post_write_18 rfl (lv_at hl 1 rfl) ?_
    obtain ⟨hg4, hf⟩ := zu_gd_e hf
    refine zr_she rfl B hP rfl hg4 zd_Post_write_19 ?_
    obtain ⟨v5, hq6, hf⟩ := zu_b1_e hf
    refine zw_Sheet_isMissing (rest := []) B hP hS (zk_she (zu_ib_lt hg4)) hq6 zq_798 (Nat.le_of_ble_eq_true rfl) (Nat.le_of_ble_eq_true rfl) hl.1 rfl (Nat.le_of_ble_eq_true rfl) zd_Post_write_20 (by decide) (fun H locs hP hS => ?_)
    clear hq6
    refine lv_if_eq (tgt := 33) hx hb zd_Post_write_23 (by decide) (fun c7 => ?_) (fun c7 => ?_)
    · have hf := zu_t c7 hf
      refine lv_iload_n hx hb zd_Post_write_33 rfl (lv_at hl 2 rfl) ?_
      refine lv_iconst (v := 0) hx hb zd_Post_write_34 (by decide) ?_
      refine lv_aload_n hx hb zd_Post_write_35 rfl (lv_at hl 0 rfl) ?_
      refine zg_Post_sheets B hP rfl zq_196 zd_Post_write_36 ?_
      refine lv_iload_n hx hb zd_Post_write_39 rfl (lv_at hl 1 rfl) ?_
      obtain ⟨hg8, hf⟩ := zu_gd_e hf
      refine zr_she rfl B hP rfl hg8 zd_Post_write_40 ?_
      refine zg_Sheet_length B hP (zk_she (zu_ib_lt hg8)) zq_183 zd_Post_write_41 ?_
      refine lv_iconst (v := 1) hx hb zd_Post_write_44 (by decide) ?_
      refine lv_isub hx hb zd_Post_write_45 ?_
      obtain ⟨v9, hq10, hf⟩ := zu_b1_e hf
      refine zw_Post_isWithin (rest := []) B hP hS hq10 zq_223 (Nat.le_of_ble_eq_true rfl) (Nat.le_of_ble_eq_true rfl) hl.1 rfl (Nat.le_of_ble_eq_true rfl) zd_Post_write_46 (by decide) (fun H locs hP hS => ?_)
      clear hq10
      refine lv_if_ne (tgt := 59) hx hb zd_Post_write_49 (by decide) (fun c11 => ?_) (fun c11 => ?_)
      · have hf := zu_f c11 hf
        refine lv_aload_n hx hb zd_Post_write_59 rfl (lv_at hl 0 rfl) ?_
        refine zg_Post_sheets B hP rfl zq_196 zd_Post_write_60 ?_
        refine lv_iload_n hx hb zd_Post_write_63 rfl (lv_at hl 1 rfl) ?_
        obtain ⟨hg12, hf⟩ := zu_gd_e hf
        refine zr_she rfl B hP rfl hg12 zd_Post_write_64 ?_
        refine lv_iload_n hx hb zd_Post_write_65 rfl (lv_at hl 2 rfl) ?_
        refine lv_iload_n hx hb zd_Post_write_66 rfl (lv_at hl 3 rfl) ?_
        obtain ⟨X13, hq14, hf⟩ := zu_b1_e hf
        refine zw_Sheet_put (rest := []) B hP hS (zk_she (zu_ib_lt hg12)) hq14 zq_802 (Nat.le_of_ble_eq_true rfl) (Nat.le_of_ble_eq_true rfl) hl.1 rfl (Nat.le_of_ble_eq_true rfl) zd_Post_write_67 (by decide) (fun H locs hP hS => ?_)
        clear hq14
        refine lv_iconst (v := 1) hx hb zd_Post_write_70 (by decide) ?_
        obtain rfl := Option.some.inj hf
        exact zr_iret hx hb hret hlk hP hS zd_Post_write_71
      · have hf := zu_t c11 hf
        refine lv_aload_n hx hb zd_Post_write_52 rfl (lv_at hl 0 rfl) ?_
        refine lv_ldc (v := -1000001) hx hb hown (hts _ zq_226) zd_Post_write_53 ?_
        obtain ⟨v15, X16, hq17, hf⟩ := zu_b2_e hf
        refine zw_Post_finding (rest := []) B hP hS hq17 zq_227 (Nat.le_of_ble_eq_true rfl) (Nat.le_of_ble_eq_true rfl) hl.1 rfl (Nat.le_of_ble_eq_true rfl) zd_Post_write_55 (by decide) (fun H locs hP hS => ?_)
        clear hq17
        obtain rfl := Option.some.inj hf
        exact zr_iret hx hb hret hlk hP hS zd_Post_write_58
    · have hf := zu_f c7 hf
      refine lv_aload_n hx hb zd_Post_write_26 rfl (lv_at hl 0 rfl) ?_
      refine lv_ldc (v := -1000006) hx hb hown (hts _ zq_770) zd_Post_write_27 ?_
      obtain ⟨v18, X19, hq20, hf⟩ := zu_b2_e hf
      refine zw_Post_finding (rest := []) B hP hS hq20 zq_227 (Nat.le_of_ble_eq_true rfl) (Nat.le_of_ble_eq_true rfl) hl.1 rfl (Nat.le_of_ble_eq_true rfl) zd_Post_write_29 (by decide) (fun H locs hP hS => ?_)
      clear hq20
      obtain rfl := Option.some.inj hf
      exact zr_iret hx hb hret hlk hP hS zd_Post_write_32
  · have hf := zu_t c3 hf
    refine lv_aload_n hx hb zd_Post_write_7 rfl (lv_at hl 0 rfl) ?_
    refine lv_ldc (v := -1000001) hx hb hown (hts _ zq_226) zd_Post_write_8 ?_
    obtain ⟨v21, X22, hq23, hf⟩ := zu_b2_e hf
    refine zw_Post_finding (rest := []) B hP hS hq23 zq_227 (Nat.le_of_ble_eq_true rfl) (Nat.le_of_ble_eq_true rfl) hl.1 rfl (Nat.le_of_ble_eq_true rfl) zd_Post_write_10 (by decide) (fun H locs hP hS => ?_)
    clear hq23
    obtain rfl := Option.some.inj hf
    exact zr_iret hx hb hret hlk hP hS zd_Post_write_13
theorem zC_Post_write (l : Launch) {D : va_G} {cA : Nat → ClassId} {ad : Nat → Nat} {A : Nat → Prop} {a1 : Int32} {a2 : Int32} {a3 : Int32} {X : IX} {Y : LX} {res : Int32 × IX} (hf : fn_Post_write a1 a2 a3 X = some res) : Met l zm_Post_write (zu_ws zm_Post_write zb_Post_write 4 (some .int)) zR_Post_write (va_Pc [.ref (ad 0), .int a1, .int a2, .int a3] (zu_Pre D cA ad A X Y)) (zu_Qi D cA ad A res.1 res.2 Y) 0 0 A := by
  refine Met.ofW (cc := zb_Post_write) (maxL := 4) (ret := (some .int)) (by decide +kernel) rfl ?_
  intro p e s m args below meth c s₁ B0 hml hv
  obtain ⟨rfl, hP, hST⟩ := hv
  have B : zu_B p s m _ c zb_Post_write 4 "StonePost" D cA ad A := ⟨B0.exec, B0.bytes, hml, findClass_of_methodNamed B0.named, (fun w hw => atoms_spec (ws := zu_ws zm_Post_write zb_Post_write 4 (some .int)) B0.pre w (List.mem_cons_of_mem _ hw)), hST⟩
  have hl := lv_entry ([.ref (ad 0), .int a1, .int a2, .int a3]) (n := 4) (Nat.le_of_ble_eq_true rfl)
  rw [lg_entry_eq]
  generalize (lg_sl ([.ref (ad 0), .int a1, .int a2, .int a3]) ++ List.replicate (4 - (lg_sl ([.ref (ad 0), .int a1, .int a2, .int a3])).length) Slot.unset).toArray = ls at hl ⊢
  exact zl_Post_write B B0.returns B0.notSynchronized s.heap [] ls hP va_S.rf hl  hf
theorem zw_Post_write {p : Program} {l : Launch} {e : Env} {R : Room} {s : State} {m : MethodId} {args : Array Value} {below : List Frame} {meth : Method} {c : Code} {H : Heap} {locs : List Loc} {cells slots : Nat} {Q : State → Prop} {cc : ByteArray} {pc nL : Nat} {ls : Array Slot} {rest st0 : List Value} {D : va_G} {cA : Nat → ClassId} {ad : Nat → Nat} {A : Nat → Prop} {X : IX} {Y : LX} {own : String} {index : Nat} {a1 : Int32} {a2 : Int32} {a3 : Int32} {v1 : Int32} {X1 : IX} (B : zu_B p s m args c cc nL own D cA ad A) (hP : va_P D zu_cl (zu_pic cA ad X Y) H) (hS : va_S A s.heap H locs) (hq : fn_Post_write a1 a2 a3 X = some (v1, X1)) (m1 : Cond.methodLink own index zm_Post_write ∈ zu_TB) (hR1 : 2 + 1 ≤ R.frames) (hR2 : 8 + (4 + 11) + 44 ≤ R.locals) (hsz : ls.size = nL) (hst : st0 = .int a3 :: .int a2 :: .int a1 :: .ref (ad 0) :: rest) (hw : (rest.map fun v => v.category).sum ≤ 8) (hdg : decode cc pc = .ok (.invokevirtual index, 3)) (h00 : cells ≤ R.cells ∧ slots ≤ R.slots) (kk : ∀ (H1 : Heap) (locs1 : List Loc), va_P D zu_cl (zu_pic cA ad X1 Y) H1 → va_S A s.heap H1 locs1 → W p l e R s m args below meth c H1 locs1 cells slots Q (F0 m (pc + 3) ls (.int v1 :: rest))) : W p l e R s m args below meth c H locs cells slots Q (F0 m pc ls st0) := by
  subst hst
  exact zr_cVi (As := [.int a1, .int a2, .int a3]) (rest := rest) (n := 3) (C := "StonePost") (T := zt_Post) (N := 8) B hP hS (zC_Post_write l  hq) (K := 1) rfl (by decide) (by decide) rfl rfl m1 zq_795 zq_796 zq_1 zq_797 (by decide +kernel) ⟨hR1, hR2⟩ rfl rfl rfl hsz rfl hw hdg h00 kk
abbrev zR_Sheet_hasRow : Room := { frames := 0, cells := 0, slots := 0, locals := 0 }
theorem zd_Sheet_hasRow_0 : decode zb_Sheet_hasRow 0 = .ok (.iload_n 1, 1) := by decide +kernel
theorem zd_Sheet_hasRow_1 : decode zb_Sheet_hasRow 1 = .ok (.ifCond .lt 25, 3) := by decide +kernel
theorem zd_Sheet_hasRow_4 : decode zb_Sheet_hasRow 4 = .ok (.iload_n 2, 1) := by decide +kernel
theorem zd_Sheet_hasRow_5 : decode zb_Sheet_hasRow 5 = .ok (.ifCond .lt 21, 3) := by decide +kernel
theorem zd_Sheet_hasRow_8 : decode zb_Sheet_hasRow 8 = .ok (.iload_n 1, 1) := by decide +kernel
theorem zd_Sheet_hasRow_9 : decode zb_Sheet_hasRow 9 = .ok (.i2l, 1) := by decide +kernel
theorem zd_Sheet_hasRow_10 : decode zb_Sheet_hasRow 10 = .ok (.iload_n 2, 1) := by decide +kernel
theorem zd_Sheet_hasRow_11 : decode zb_Sheet_hasRow 11 = .ok (.i2l, 1) := by decide +kernel
theorem zd_Sheet_hasRow_12 : decode zb_Sheet_hasRow 12 = .ok (.ladd, 1) := by decide +kernel
theorem zd_Sheet_hasRow_13 : decode zb_Sheet_hasRow 13 = .ok (.aload_n 0, 1) := by decide +kernel
theorem zd_Sheet_hasRow_14 : decode zb_Sheet_hasRow 14 = .ok (.getfield 19, 3) := by decide +kernel
theorem zd_Sheet_hasRow_17 : decode zb_Sheet_hasRow 17 = .ok (.i2l, 1) := by decide +kernel
theorem zd_Sheet_hasRow_18 : decode zb_Sheet_hasRow 18 = .ok (.lcmp, 1) := by decide +kernel
theorem zd_Sheet_hasRow_19 : decode zb_Sheet_hasRow 19 = .ok (.ifCond .gt 7, 3) := by decide +kernel
theorem zd_Sheet_hasRow_22 : decode zb_Sheet_hasRow 22 = .ok (.iconst 1, 1) := by decide +kernel
theorem zd_Sheet_hasRow_23 : decode zb_Sheet_hasRow 23 = .ok (.goto 4, 3) := by decide +kernel
theorem zd_Sheet_hasRow_26 : decode zb_Sheet_hasRow 26 = .ok (.iconst 0, 1) := by decide +kernel
theorem zd_Sheet_hasRow_27 : decode zb_Sheet_hasRow 27 = .ok (.ireturn, 1) := by decide +kernel
set_option maxHeartbeats 4000000 in
theorem zl_Sheet_hasRow_L27 {p : Program} {l : Launch} {e : Env} {s : State} {m : MethodId} {args : Array Value} {below : List Frame} {meth : Method} {c : Code} {D : va_G} {cA : Nat → ClassId} {ad : Nat → Nat} {A : Nat → Prop} (B : zu_B p s m args c zb_Sheet_hasRow 3 "StonePost$Sheet" D cA ad A) (hret : meth.sig.returnType = (some .boolean)) (hlk : meth.locks = false) {X : IX} {Y : LX} {res : Int32} (y0 : Int32) (H : Heap) (locs : List Loc) (ls : Array Slot) (hP : va_P D zu_cl (zu_pic cA ad X Y) H) (hS : va_S A s.heap H locs) (hl : lv_has ls 3 []) (hf : fn_Sheet_hasRow_L27 X y0 = some res) : W p l e zR_Sheet_hasRow s m args below meth c H locs 0 0 (MQ below (zu_Qi D cA ad A res X Y) args s 0 0 A) (F0 m 27 ls [.int y0]) := by
  obtain ⟨hx, hb, hml, hown, hts, hST⟩ := id B
  unfold fn_Sheet_hasRow_L27 at hf
  obtain ⟨hg4, hf⟩ := zu_gd_e hf
  obtain rfl := Option.some.inj hf
  exact zr_zret hx hb hret hlk hP hS hg4 zd_Sheet_hasRow_27
set_option maxHeartbeats 4000000 in
theorem zl_Sheet_hasRow_L26 {p : Program} {l : Launch} {e : Env} {s : State} {m : MethodId} {args : Array Value} {below : List Frame} {meth : Method} {c : Code} {D : va_G} {cA : Nat → ClassId} {ad : Nat → Nat} {A : Nat → Prop} (B : zu_B p s m args c zb_Sheet_hasRow 3 "StonePost$Sheet" D cA ad A) (hret : meth.sig.returnType = (some .boolean)) (hlk : meth.locks = false) {X : IX} {Y : LX} {res : Int32} (H : Heap) (locs : List Loc) (ls : Array Slot) (hP : va_P D zu_cl (zu_pic cA ad X Y) H) (hS : va_S A s.heap H locs) (hl : lv_has ls 3 []) (hf : fn_Sheet_hasRow_L26 X = some res) : W p l e zR_Sheet_hasRow s m args below meth c H locs 0 0 (MQ below (zu_Qi D cA ad A res X Y) args s 0 0 A) (F0 m 26 ls []) := by
  obtain ⟨hx, hb, hml, hown, hts, hST⟩ := id B
  unfold fn_Sheet_hasRow_L26 at hf
  refine lv_iconst (v := 0) hx hb zd_Sheet_hasRow_26 (by decide) ?_
  exact zl_Sheet_hasRow_L27 B hret hlk (0 : Int32) _ _ _ hP hS (lv_sub hl [] rfl) hf
set_option maxHeartbeats 4000000 in
theorem zl_Sheet_hasRow {p : Program} {l : Launch} {e : Env} {s : State} {m : MethodId} {args : Array Value} {below : List Frame} {meth : Method} {c : Code} {D : va_G} {cA : Nat → ClassId} {ad : Nat → Nat} {A : Nat → Prop} (B : zu_B p s m args c zb_Sheet_hasRow 3 "StonePost$Sheet" D cA ad A) (hret : meth.sig.returnType = (some .boolean)) (hlk : meth.locks = false) {X : IX} {Y : LX} {res : Int32} {r0 : Nat} {a1 : Int32} {a2 : Int32} (H : Heap) (locs : List Loc) (ls : Array Slot) (hP : va_P D zu_cl (zu_pic cA ad X Y) H) (hS : va_S A s.heap H locs) (hl : lv_has ls 3 [(0, .ref (ad r0)), (1, .int a1), (2, .int a2)]) (hr0 : zu_kd r0 = 4) (hf : fn_Sheet_hasRow X r0 a1 a2 = some res) : W p l e zR_Sheet_hasRow s m args below meth c H locs 0 0 (MQ below (zu_Qi D cA ad A res X Y) args s 0 0 A) (F0 m 0 ls []) := by
  obtain ⟨hx, hb, hml, hown, hts, hST⟩ := id B
  unfold fn_Sheet_hasRow at hf
  refine lv_iload_n hx hb zd_Sheet_hasRow_0 rfl (lv_at hl 1 rfl) ?_
  refine lv_if_lt (tgt := 26) hx hb zd_Sheet_hasRow_1 (by decide) (fun c1 => ?_) (fun c1 => ?_)
  · have hf := zu_t c1 hf
    exact zl_Sheet_hasRow_L26 B hret hlk _ _ _ hP hS (lv_sub hl [] rfl) hf
  · have hf := zu_f c1 hf
    refine lv_iload_n hx hb zd_Sheet_hasRow_4 rfl (lv_at hl 2 rfl) ?_
    refine lv_if_lt (tgt := 26) hx hb zd_Sheet_hasRow_5 (by decide) (fun c2 => ?_) (fun c2 => ?_)
    · have hf := zu_t c2 hf
      exact zl_Sheet_hasRow_L26 B hret hlk _ _ _ hP hS (lv_sub hl [] rfl) hf
    · have hf := zu_f c2 hf
      refine lv_iload_n hx hb zd_Sheet_hasRow_8 rfl (lv_at hl 1 rfl) ?_
      refine lv_i2l hx hb zd_Sheet_hasRow_9 rfl ?_
      refine lv_iload_n hx hb zd_Sheet_hasRow_10 rfl (lv_at hl 2 rfl) ?_
      refine lv_i2l hx hb zd_Sheet_hasRow_11 rfl ?_
      refine lv_ladd hx hb zd_Sheet_hasRow_12 ?_
      refine lv_aload_n hx hb zd_Sheet_hasRow_13 rfl (lv_at hl 0 rfl) ?_
      refine zg_Sheet_length B hP hr0 zq_182 zd_Sheet_hasRow_14 ?_
      refine lv_i2l hx hb zd_Sheet_hasRow_17 rfl ?_
      refine W.lcmp hx hb zd_Sheet_hasRow_18 ?_
      refine lv_if_gt (tgt := 26) hx hb zd_Sheet_hasRow_19 (by decide) (fun c3 => ?_) (fun c3 => ?_)
      · have hf := zu_t c3 hf
        exact zl_Sheet_hasRow_L26 B hret hlk _ _ _ hP hS (lv_sub hl [] rfl) hf
      · have hf := zu_f c3 hf
        refine lv_iconst (v := 1) hx hb zd_Sheet_hasRow_22 (by decide) ?_
        refine lv_goto (tgt := 27) hx hb zd_Sheet_hasRow_23 (by decide) ?_
        exact zl_Sheet_hasRow_L27 B hret hlk (1 : Int32) _ _ _ hP hS (lv_sub hl [] rfl) hf
theorem zC_Sheet_hasRow (l : Launch) {D : va_G} {cA : Nat → ClassId} {ad : Nat → Nat} {A : Nat → Prop} {r0 : Nat} {a1 : Int32} {a2 : Int32} {X : IX} {Y : LX} {res : Int32} (hr0 : zu_kd r0 = 4) (hf : fn_Sheet_hasRow X r0 a1 a2 = some res) : Met l zm_Sheet_hasRow (zu_ws zm_Sheet_hasRow zb_Sheet_hasRow 3 (some .boolean)) zR_Sheet_hasRow (va_Pc [.ref (ad r0), .int a1, .int a2] (zu_Pre D cA ad A X Y)) (zu_Qi D cA ad A res X Y) 0 0 A := by
  refine Met.ofW (cc := zb_Sheet_hasRow) (maxL := 3) (ret := (some .boolean)) (by decide +kernel) rfl ?_
  intro p e s m args below meth c s₁ B0 hml hv
  obtain ⟨rfl, hP, hST⟩ := hv
  have B : zu_B p s m _ c zb_Sheet_hasRow 3 "StonePost$Sheet" D cA ad A := ⟨B0.exec, B0.bytes, hml, findClass_of_methodNamed B0.named, (fun w hw => atoms_spec (ws := zu_ws zm_Sheet_hasRow zb_Sheet_hasRow 3 (some .boolean)) B0.pre w (List.mem_cons_of_mem _ hw)), hST⟩
  have hl := lv_entry ([.ref (ad r0), .int a1, .int a2]) (n := 3) (Nat.le_of_ble_eq_true rfl)
  rw [lg_entry_eq]
  generalize (lg_sl ([.ref (ad r0), .int a1, .int a2]) ++ List.replicate (3 - (lg_sl ([.ref (ad r0), .int a1, .int a2])).length) Slot.unset).toArray = ls at hl ⊢
  exact zl_Sheet_hasRow B B0.returns B0.notSynchronized s.heap [] ls hP va_S.rf hl hr0 hf
theorem zw_Sheet_hasRow {p : Program} {l : Launch} {e : Env} {R : Room} {s : State} {m : MethodId} {args : Array Value} {below : List Frame} {meth : Method} {c : Code} {H : Heap} {locs : List Loc} {cells slots : Nat} {Q : State → Prop} {cc : ByteArray} {pc nL : Nat} {ls : Array Slot} {rest st0 : List Value} {D : va_G} {cA : Nat → ClassId} {ad : Nat → Nat} {A : Nat → Prop} {X : IX} {Y : LX} {own : String} {index : Nat} {r0 : Nat} {a1 : Int32} {a2 : Int32} {v1 : Int32} (B : zu_B p s m args c cc nL own D cA ad A) (hP : va_P D zu_cl (zu_pic cA ad X Y) H) (hS : va_S A s.heap H locs) (hr0 : zu_kd r0 = 4) (hq : fn_Sheet_hasRow X r0 a1 a2 = some v1) (m1 : Cond.methodLink own index zm_Sheet_hasRow ∈ zu_TB) (hR1 : 0 + 1 ≤ R.frames) (hR2 : 8 + (3 + 11) + 0 ≤ R.locals) (hsz : ls.size = nL) (hst : st0 = .int a2 :: .int a1 :: .ref (ad r0) :: rest) (hw : (rest.map fun v => v.category).sum ≤ 8) (hdg : decode cc pc = .ok (.invokevirtual index, 3)) (h00 : cells ≤ R.cells ∧ slots ≤ R.slots) (kk : ∀ (H1 : Heap) (locs1 : List Loc), va_P D zu_cl (zu_pic cA ad X Y) H1 → va_S A s.heap H1 locs1 → W p l e R s m args below meth c H1 locs1 cells slots Q (F0 m (pc + 3) ls (.int v1 :: rest))) : W p l e R s m args below meth c H locs cells slots Q (F0 m pc ls st0) := by
  subst hst
  exact zr_cVi (As := [.int a1, .int a2]) (rest := rest) (n := 2) (C := "StonePost$Sheet") (T := zt_Sheet) (N := 3) B hP hS (zC_Sheet_hasRow l hr0 hq) (K := 4) hr0 (by decide) (by decide) rfl rfl m1 zq_811 zq_812 zq_7 zq_813 (by decide +kernel) ⟨hR1, hR2⟩ rfl rfl rfl hsz rfl hw hdg h00 kk
abbrev zR_Post_copy : Room := { frames := 2, cells := 0, slots := 0, locals := 44 }
theorem zd_Post_copy_0 : decode zb_Post_copy 0 = .ok (.iload_n 1, 1) := by decide +kernel
theorem zd_Post_copy_1 : decode zb_Post_copy 1 = .ok (.invokestatic 254, 3) := by decide +kernel
theorem zd_Post_copy_4 : decode zb_Post_copy 4 = .ok (.ifCond .eq 10, 3) := by decide +kernel
theorem zd_Post_copy_7 : decode zb_Post_copy 7 = .ok (.iload_n 3, 1) := by decide +kernel
theorem zd_Post_copy_8 : decode zb_Post_copy 8 = .ok (.invokestatic 254, 3) := by decide +kernel
theorem zd_Post_copy_11 : decode zb_Post_copy 11 = .ok (.ifCond .ne 10, 3) := by decide +kernel
theorem zd_Post_copy_14 : decode zb_Post_copy 14 = .ok (.aload_n 0, 1) := by decide +kernel
theorem zd_Post_copy_15 : decode zb_Post_copy 15 = .ok (.ldc 55, 2) := by decide +kernel
theorem zd_Post_copy_17 : decode zb_Post_copy 17 = .ok (.invokevirtual 56, 3) := by decide +kernel
theorem zd_Post_copy_20 : decode zb_Post_copy 20 = .ok (.ireturn, 1) := by decide +kernel
theorem zd_Post_copy_21 : decode zb_Post_copy 21 = .ok (.aload_n 0, 1) := by decide +kernel
theorem zd_Post_copy_22 : decode zb_Post_copy 22 = .ok (.getfield 38, 3) := by decide +kernel
theorem zd_Post_copy_25 : decode zb_Post_copy 25 = .ok (.iload_n 1, 1) := by decide +kernel
theorem zd_Post_copy_26 : decode zb_Post_copy 26 = .ok (.aaload, 1) := by decide +kernel
theorem zd_Post_copy_27 : decode zb_Post_copy 27 = .ok (.invokevirtual 264, 3) := by decide +kernel
theorem zd_Post_copy_30 : decode zb_Post_copy 30 = .ok (.ifCond .ne 15, 3) := by decide +kernel
theorem zd_Post_copy_33 : decode zb_Post_copy 33 = .ok (.aload_n 0, 1) := by decide +kernel
theorem zd_Post_copy_34 : decode zb_Post_copy 34 = .ok (.getfield 38, 3) := by decide +kernel
theorem zd_Post_copy_37 : decode zb_Post_copy 37 = .ok (.iload_n 3, 1) := by decide +kernel
theorem zd_Post_copy_38 : decode zb_Post_copy 38 = .ok (.aaload, 1) := by decide +kernel
theorem zd_Post_copy_39 : decode zb_Post_copy 39 = .ok (.invokevirtual 264, 3) := by decide +kernel
theorem zd_Post_copy_42 : decode zb_Post_copy 42 = .ok (.ifCond .eq 10, 3) := by decide +kernel
theorem zd_Post_copy_45 : decode zb_Post_copy 45 = .ok (.aload_n 0, 1) := by decide +kernel
theorem zd_Post_copy_46 : decode zb_Post_copy 46 = .ok (.ldc 249, 2) := by decide +kernel
theorem zd_Post_copy_48 : decode zb_Post_copy 48 = .ok (.invokevirtual 56, 3) := by decide +kernel
theorem zd_Post_copy_51 : decode zb_Post_copy 51 = .ok (.ireturn, 1) := by decide +kernel
theorem zd_Post_copy_52 : decode zb_Post_copy 52 = .ok (.aload_n 0, 1) := by decide +kernel
theorem zd_Post_copy_53 : decode zb_Post_copy 53 = .ok (.getfield 38, 3) := by decide +kernel
theorem zd_Post_copy_56 : decode zb_Post_copy 56 = .ok (.iload_n 1, 1) := by decide +kernel
theorem zd_Post_copy_57 : decode zb_Post_copy 57 = .ok (.aaload, 1) := by decide +kernel
theorem zd_Post_copy_58 : decode zb_Post_copy 58 = .ok (.getfield 270, 3) := by decide +kernel
theorem zd_Post_copy_61 : decode zb_Post_copy 61 = .ok (.aload_n 0, 1) := by decide +kernel
theorem zd_Post_copy_62 : decode zb_Post_copy 62 = .ok (.getfield 38, 3) := by decide +kernel
theorem zd_Post_copy_65 : decode zb_Post_copy 65 = .ok (.iload_n 3, 1) := by decide +kernel
theorem zd_Post_copy_66 : decode zb_Post_copy 66 = .ok (.aaload, 1) := by decide +kernel
theorem zd_Post_copy_67 : decode zb_Post_copy 67 = .ok (.getfield 270, 3) := by decide +kernel
theorem zd_Post_copy_70 : decode zb_Post_copy 70 = .ok (.if_icmp .eq 10, 3) := by decide +kernel
theorem zd_Post_copy_73 : decode zb_Post_copy 73 = .ok (.aload_n 0, 1) := by decide +kernel
theorem zd_Post_copy_74 : decode zb_Post_copy 74 = .ok (.ldc 253, 2) := by decide +kernel
theorem zd_Post_copy_76 : decode zb_Post_copy 76 = .ok (.invokevirtual 56, 3) := by decide +kernel
theorem zd_Post_copy_79 : decode zb_Post_copy 79 = .ok (.ireturn, 1) := by decide +kernel
theorem zd_Post_copy_80 : decode zb_Post_copy 80 = .ok (.aload_n 0, 1) := by decide +kernel
theorem zd_Post_copy_81 : decode zb_Post_copy 81 = .ok (.getfield 38, 3) := by decide +kernel
theorem zd_Post_copy_84 : decode zb_Post_copy 84 = .ok (.iload_n 1, 1) := by decide +kernel
theorem zd_Post_copy_85 : decode zb_Post_copy 85 = .ok (.aaload, 1) := by decide +kernel
theorem zd_Post_copy_86 : decode zb_Post_copy 86 = .ok (.iload_n 2, 1) := by decide +kernel
theorem zd_Post_copy_87 : decode zb_Post_copy 87 = .ok (.iload 5, 2) := by decide +kernel
theorem zd_Post_copy_89 : decode zb_Post_copy 89 = .ok (.invokevirtual 273, 3) := by decide +kernel
theorem zd_Post_copy_92 : decode zb_Post_copy 92 = .ok (.ifCond .eq 19, 3) := by decide +kernel
theorem zd_Post_copy_95 : decode zb_Post_copy 95 = .ok (.aload_n 0, 1) := by decide +kernel
theorem zd_Post_copy_96 : decode zb_Post_copy 96 = .ok (.getfield 38, 3) := by decide +kernel
theorem zd_Post_copy_99 : decode zb_Post_copy 99 = .ok (.iload_n 3, 1) := by decide +kernel
theorem zd_Post_copy_100 : decode zb_Post_copy 100 = .ok (.aaload, 1) := by decide +kernel
theorem zd_Post_copy_101 : decode zb_Post_copy 101 = .ok (.iload 4, 2) := by decide +kernel
theorem zd_Post_copy_103 : decode zb_Post_copy 103 = .ok (.iload 5, 2) := by decide +kernel
theorem zd_Post_copy_105 : decode zb_Post_copy 105 = .ok (.invokevirtual 273, 3) := by decide +kernel
theorem zd_Post_copy_108 : decode zb_Post_copy 108 = .ok (.ifCond .ne 10, 3) := by decide +kernel
theorem zd_Post_copy_111 : decode zb_Post_copy 111 = .ok (.aload_n 0, 1) := by decide +kernel
theorem zd_Post_copy_112 : decode zb_Post_copy 112 = .ok (.ldc 55, 2) := by decide +kernel
theorem zd_Post_copy_114 : decode zb_Post_copy 114 = .ok (.invokevirtual 56, 3) := by decide +kernel
theorem zd_Post_copy_117 : decode zb_Post_copy 117 = .ok (.ireturn, 1) := by decide +kernel
theorem zd_Post_copy_118 : decode zb_Post_copy 118 = .ok (.aload_n 0, 1) := by decide +kernel
theorem zd_Post_copy_119 : decode zb_Post_copy 119 = .ok (.getfield 38, 3) := by decide +kernel
theorem zd_Post_copy_122 : decode zb_Post_copy 122 = .ok (.iload_n 1, 1) := by decide +kernel
theorem zd_Post_copy_123 : decode zb_Post_copy 123 = .ok (.aaload, 1) := by decide +kernel
theorem zd_Post_copy_124 : decode zb_Post_copy 124 = .ok (.getfield 276, 3) := by decide +kernel
theorem zd_Post_copy_127 : decode zb_Post_copy 127 = .ok (.iload_n 2, 1) := by decide +kernel
theorem zd_Post_copy_128 : decode zb_Post_copy 128 = .ok (.aload_n 0, 1) := by decide +kernel
theorem zd_Post_copy_129 : decode zb_Post_copy 129 = .ok (.getfield 38, 3) := by decide +kernel
theorem zd_Post_copy_132 : decode zb_Post_copy 132 = .ok (.iload_n 3, 1) := by decide +kernel
theorem zd_Post_copy_133 : decode zb_Post_copy 133 = .ok (.aaload, 1) := by decide +kernel
theorem zd_Post_copy_134 : decode zb_Post_copy 134 = .ok (.getfield 276, 3) := by decide +kernel
theorem zd_Post_copy_137 : decode zb_Post_copy 137 = .ok (.iload 4, 2) := by decide +kernel
theorem zd_Post_copy_139 : decode zb_Post_copy 139 = .ok (.iload 5, 2) := by decide +kernel
theorem zd_Post_copy_141 : decode zb_Post_copy 141 = .ok (.invokestatic 279, 3) := by decide +kernel
theorem zd_Post_copy_144 : decode zb_Post_copy 144 = .ok (.iload 5, 2) := by decide +kernel
theorem zd_Post_copy_146 : decode zb_Post_copy 146 = .ok (.ireturn, 1) := by decide +kernel
set_option maxHeartbeats 4000000 in
theorem zl_Post_copy_L111 {p : Program} {l : Launch} {e : Env} {s : State} {m : MethodId} {args : Array Value} {below : List Frame} {meth : Method} {c : Code} {D : va_G} {cA : Nat → ClassId} {ad : Nat → Nat} {A : Nat → Prop} (B : zu_B p s m args c zb_Post_copy 6 "StonePost" D cA ad A) (hret : meth.sig.returnType = (some .int)) (hlk : meth.locks = false) {Y : LX} {res : Int32 × IX} (X : IX) (H : Heap) (locs : List Loc) (ls : Array Slot) (hP : va_P D zu_cl (zu_pic cA ad X Y) H) (hS : va_S A s.heap H locs) (hl : lv_has ls 6 [(0, .ref (ad 0))]) (hf : fn_Post_copy_L111 X = some res) : W p l e zR_Post_copy s m args below meth c H locs 0 0 (MQ below (zu_Qi D cA ad A res.1 res.2 Y) args s 0 0 A) (F0 m 111 ls []) := by
  obtain ⟨hx, hb, hml, hown, hts, hST⟩ := id B
  unfold fn_Post_copy_L111 at hf
  refine lv_aload_n hx hb zd_Post_copy_111 rfl (lv_at hl 0 rfl) ?_
  refine lv_ldc (v := -1000001) hx hb hown (hts _ zq_226) zd_Post_copy_112 ?_
  obtain ⟨v39, X40, hq41, hf⟩ := zu_b2_e hf
  refine zw_Post_finding (rest := []) B hP hS hq41 zq_227 (Nat.le_of_ble_eq_true rfl) (Nat.le_of_ble_eq_true rfl) hl.1 rfl (Nat.le_of_ble_eq_true rfl) zd_Post_copy_114 (by decide) (fun H locs hP hS => ?_)
  clear hq41
  obtain rfl := Option.some.inj hf
  exact zr_iret hx hb hret hlk hP hS zd_Post_copy_117
set_option maxHeartbeats 4000000 in
theorem zl_Post_copy_L45 {p : Program} {l : Launch} {e : Env} {s : State} {m : MethodId} {args : Array Value} {below : List Frame} {meth : Method} {c : Code} {D : va_G} {cA : Nat → ClassId} {ad : Nat → Nat} {A : Nat → Prop} (B : zu_B p s m args c zb_Post_copy 6 "StonePost" D cA ad A) (hret : meth.sig.returnType = (some .int)) (hlk : meth.locks = false) {Y : LX} {res : Int32 × IX} (X : IX) (H : Heap) (locs : List Loc) (ls : Array Slot) (hP : va_P D zu_cl (zu_pic cA ad X Y) H) (hS : va_S A s.heap H locs) (hl : lv_has ls 6 [(0, .ref (ad 0))]) (hf : fn_Post_copy_L45 X = some res) : W p l e zR_Post_copy s m args below meth c H locs 0 0 (MQ below (zu_Qi D cA ad A res.1 res.2 Y) args s 0 0 A) (F0 m 45 ls []) := by
  obtain ⟨hx, hb, hml, hown, hts, hST⟩ := id B
  unfold fn_Post_copy_L45 at hf
  refine lv_aload_n hx hb zd_Post_copy_45 rfl (lv_at hl 0 rfl) ?_
  refine lv_ldc (v := -1000006) hx hb hown (hts _ zq_770) zd_Post_copy_46 ?_
  obtain ⟨v36, X37, hq38, hf⟩ := zu_b2_e hf
  refine zw_Post_finding (rest := []) B hP hS hq38 zq_227 (Nat.le_of_ble_eq_true rfl) (Nat.le_of_ble_eq_true rfl) hl.1 rfl (Nat.le_of_ble_eq_true rfl) zd_Post_copy_48 (by decide) (fun H locs hP hS => ?_)
  clear hq38
  obtain rfl := Option.some.inj hf
  exact zr_iret hx hb hret hlk hP hS zd_Post_copy_51
set_option maxHeartbeats 4000000 in
theorem zl_Post_copy_L14 {p : Program} {l : Launch} {e : Env} {s : State} {m : MethodId} {args : Array Value} {below : List Frame} {meth : Method} {c : Code} {D : va_G} {cA : Nat → ClassId} {ad : Nat → Nat} {A : Nat → Prop} (B : zu_B p s m args c zb_Post_copy 6 "StonePost" D cA ad A) (hret : meth.sig.returnType = (some .int)) (hlk : meth.locks = false) {Y : LX} {res : Int32 × IX} (X : IX) (H : Heap) (locs : List Loc) (ls : Array Slot) (hP : va_P D zu_cl (zu_pic cA ad X Y) H) (hS : va_S A s.heap H locs) (hl : lv_has ls 6 [(0, .ref (ad 0))]) (hf : fn_Post_copy_L14 X = some res) : W p l e zR_Post_copy s m args below meth c H locs 0 0 (MQ below (zu_Qi D cA ad A res.1 res.2 Y) args s 0 0 A) (F0 m 14 ls []) := by
  obtain ⟨hx, hb, hml, hown, hts, hST⟩ := id B
  unfold fn_Post_copy_L14 at hf
  refine lv_aload_n hx hb zd_Post_copy_14 rfl (lv_at hl 0 rfl) ?_
  refine lv_ldc (v := -1000001) hx hb hown (hts _ zq_226) zd_Post_copy_15 ?_
  obtain ⟨v33, X34, hq35, hf⟩ := zu_b2_e hf
  refine zw_Post_finding (rest := []) B hP hS hq35 zq_227 (Nat.le_of_ble_eq_true rfl) (Nat.le_of_ble_eq_true rfl) hl.1 rfl (Nat.le_of_ble_eq_true rfl) zd_Post_copy_17 (by decide) (fun H locs hP hS => ?_)
  clear hq35
  obtain rfl := Option.some.inj hf
  exact zr_iret hx hb hret hlk hP hS zd_Post_copy_20
set_option maxHeartbeats 4000000 in
theorem zl_Post_copy {p : Program} {l : Launch} {e : Env} {s : State} {m : MethodId} {args : Array Value} {below : List Frame} {meth : Method} {c : Code} {D : va_G} {cA : Nat → ClassId} {ad : Nat → Nat} {A : Nat → Prop} (B : zu_B p s m args c zb_Post_copy 6 "StonePost" D cA ad A) (hret : meth.sig.returnType = (some .int)) (hlk : meth.locks = false) {Y : LX} {res : Int32 × IX} {a1 : Int32} {a2 : Int32} {a3 : Int32} {a4 : Int32} {a5 : Int32} {X : IX} (H : Heap) (locs : List Loc) (ls : Array Slot) (hP : va_P D zu_cl (zu_pic cA ad X Y) H) (hS : va_S A s.heap H locs) (hl : lv_has ls 6 [(0, .ref (ad 0)), (1, .int a1), (2, .int a2), (3, .int a3), (4, .int a4), (5, .int a5)]) (hf : fn_Post_copy a1 a2 a3 a4 a5 X = some res) : W p l e zR_Post_copy s m args below meth c H locs 0 0 (MQ below (zu_Qi D cA ad A res.1 res.2 Y) args s 0 0 A) (F0 m 0 ls []) := by
  obtain ⟨hx, hb, hml, hown, hts, hST⟩ := id B
  unfold fn_Post_copy at hf
  refine lv_iload_n hx hb zd_Post_copy_0 rfl (lv_at hl 1 rfl) ?_
  obtain ⟨v1, hq2, hf⟩ := zu_b1_e hf
  refine zw_Post_isSheet (rest := []) B hP hS hq2 zq_783 (Nat.le_of_ble_eq_true rfl) (Nat.le_of_ble_eq_true rfl) hl.1 rfl (Nat.le_of_ble_eq_true rfl) zd_Post_copy_1 (by decide) (fun H locs hP hS => ?_)
  clear hq2
  refine lv_if_eq (tgt := 14) hx hb zd_Post_copy_4 (by decide) (fun c3 => ?_) (fun c3 => ?_)
  · have hf := zu_t c3 hf
    exact zl_Post_copy_L14 B hret hlk X _ _ _ hP hS (lv_sub hl [0] rfl) hf
  · have hf := zu_f c3 hf
    refine lv_iload_n hx hb zd_Post_copy_7 rfl (lv_at hl 3 rfl) ?_
    obtain ⟨v4, hq5, hf⟩ := zu_b1_e hf
    refine zw_Post_isSheet (rest := []) B hP hS hq5 zq_783 (Nat.le_of_ble_eq_true rfl) (Nat.le_of_ble_eq_true rfl) hl.1 rfl (Nat.le_of_ble_eq_true rfl) zd_Post_copy_8 (by decide) (fun H locs hP hS => ?_)
    clear hq5
    refine lv_if_ne (tgt := 21) hx hb zd_Post_copy_11 (by decide) (fun c6 => ?_) (fun c6 => ?_)
    · have hf := zu_f c6 hf
      refine lv_aload_n hx hb zd_Post_copy_21 rfl (lv_at hl 0 rfl) ?_
      refine zg_Post_sheets B hP rfl zq_196 zd_Post_copy_22 ?_
      refine lv_iload_n hx hb zd_Post_copy_25 rfl (lv_at hl 1 rfl) ?_
      obtain ⟨hg7, hf⟩ := zu_gd_e hf
      refine zr_she rfl B hP rfl hg7 zd_Post_copy_26 ?_
      obtain ⟨v8, hq9, hf⟩ := zu_b1_e hf
      refine zw_Sheet_isMissing (rest := []) B hP hS (zk_she (zu_ib_lt hg7)) hq9 zq_798 (Nat.le_of_ble_eq_true rfl) (Nat.le_of_ble_eq_true rfl) hl.1 rfl (Nat.le_of_ble_eq_true rfl) zd_Post_copy_27 (by decide) (fun H locs hP hS => ?_)
      clear hq9
      refine lv_if_ne (tgt := 45) hx hb zd_Post_copy_30 (by decide) (fun c10 => ?_) (fun c10 => ?_)
      · have hf := zu_f c10 hf
        exact zl_Post_copy_L45 B hret hlk X _ _ _ hP hS (lv_sub hl [0] rfl) hf
      · have hf := zu_t c10 hf
        refine lv_aload_n hx hb zd_Post_copy_33 rfl (lv_at hl 0 rfl) ?_
        refine zg_Post_sheets B hP rfl zq_196 zd_Post_copy_34 ?_
        refine lv_iload_n hx hb zd_Post_copy_37 rfl (lv_at hl 3 rfl) ?_
        obtain ⟨hg11, hf⟩ := zu_gd_e hf
        refine zr_she rfl B hP rfl hg11 zd_Post_copy_38 ?_
        obtain ⟨v12, hq13, hf⟩ := zu_b1_e hf
        refine zw_Sheet_isMissing (rest := []) B hP hS (zk_she (zu_ib_lt hg11)) hq13 zq_798 (Nat.le_of_ble_eq_true rfl) (Nat.le_of_ble_eq_true rfl) hl.1 rfl (Nat.le_of_ble_eq_true rfl) zd_Post_copy_39 (by decide) (fun H locs hP hS => ?_)
        clear hq13
        refine lv_if_eq (tgt := 52) hx hb zd_Post_copy_42 (by decide) (fun c14 => ?_) (fun c14 => ?_)
        · have hf := zu_t c14 hf
          refine lv_aload_n hx hb zd_Post_copy_52 rfl (lv_at hl 0 rfl) ?_
          refine zg_Post_sheets B hP rfl zq_196 zd_Post_copy_53 ?_
          refine lv_iload_n hx hb zd_Post_copy_56 rfl (lv_at hl 1 rfl) ?_
          obtain ⟨hg15, hf⟩ := zu_gd_e hf
          refine zr_she rfl B hP rfl hg15 zd_Post_copy_57 ?_
          refine zg_Sheet_bits B hP (zk_she (zu_ib_lt hg15)) zq_181 zd_Post_copy_58 ?_
          refine lv_aload_n hx hb zd_Post_copy_61 rfl (lv_at hl 0 rfl) ?_
          refine zg_Post_sheets B hP rfl zq_196 zd_Post_copy_62 ?_
          refine lv_iload_n hx hb zd_Post_copy_65 rfl (lv_at hl 3 rfl) ?_
          obtain ⟨hg16, hf⟩ := zu_gd_e hf
          refine zr_she rfl B hP rfl hg16 zd_Post_copy_66 ?_
          refine zg_Sheet_bits B hP (zk_she (zu_ib_lt hg16)) zq_181 zd_Post_copy_67 ?_
          refine lv_icmp_eq (tgt := 80) hx hb zd_Post_copy_70 (by decide) (fun c17 => ?_) (fun c17 => ?_)
          · have hf := zu_t c17 hf
            refine lv_aload_n hx hb zd_Post_copy_80 rfl (lv_at hl 0 rfl) ?_
            refine zg_Post_sheets B hP rfl zq_196 zd_Post_copy_81 ?_
            refine lv_iload_n hx hb zd_Post_copy_84 rfl (lv_at hl 1 rfl) ?_
            obtain ⟨hg18, hf⟩ := zu_gd_e hf
            refine zr_she rfl B hP rfl hg18 zd_Post_copy_85 ?_
            refine lv_iload_n hx hb zd_Post_copy_86 rfl (lv_at hl 2 rfl) ?_
            refine lv_iload hx hb zd_Post_copy_87 (lv_at hl 5 rfl) ?_
            obtain ⟨v19, hq20, hf⟩ := zu_b1_e hf
            refine zw_Sheet_hasRow (rest := []) B hP hS (zk_she (zu_ib_lt hg18)) hq20 zq_810 (Nat.le_of_ble_eq_true rfl) (Nat.le_of_ble_eq_true rfl) hl.1 rfl (Nat.le_of_ble_eq_true rfl) zd_Post_copy_89 (by decide) (fun H locs hP hS => ?_)
            clear hq20
            refine lv_if_eq (tgt := 111) hx hb zd_Post_copy_92 (by decide) (fun c21 => ?_) (fun c21 => ?_)
            · have hf := zu_t c21 hf
              exact zl_Post_copy_L111 B hret hlk X _ _ _ hP hS (lv_sub hl [0] rfl) hf
            · have hf := zu_f c21 hf
              refine lv_aload_n hx hb zd_Post_copy_95 rfl (lv_at hl 0 rfl) ?_
              refine zg_Post_sheets B hP rfl zq_196 zd_Post_copy_96 ?_
              refine lv_iload_n hx hb zd_Post_copy_99 rfl (lv_at hl 3 rfl) ?_
              obtain ⟨hg22, hf⟩ := zu_gd_e hf
              refine zr_she rfl B hP rfl hg22 zd_Post_copy_100 ?_
              refine lv_iload hx hb zd_Post_copy_101 (lv_at hl 4 rfl) ?_
              refine lv_iload hx hb zd_Post_copy_103 (lv_at hl 5 rfl) ?_
              obtain ⟨v23, hq24, hf⟩ := zu_b1_e hf
              refine zw_Sheet_hasRow (rest := []) B hP hS (zk_she (zu_ib_lt hg22)) hq24 zq_810 (Nat.le_of_ble_eq_true rfl) (Nat.le_of_ble_eq_true rfl) hl.1 rfl (Nat.le_of_ble_eq_true rfl) zd_Post_copy_105 (by decide) (fun H locs hP hS => ?_)
              clear hq24
              refine lv_if_ne (tgt := 118) hx hb zd_Post_copy_108 (by decide) (fun c25 => ?_) (fun c25 => ?_)
              · have hf := zu_f c25 hf
                refine lv_aload_n hx hb zd_Post_copy_118 rfl (lv_at hl 0 rfl) ?_
                refine zg_Post_sheets B hP rfl zq_196 zd_Post_copy_119 ?_
                refine lv_iload_n hx hb zd_Post_copy_122 rfl (lv_at hl 1 rfl) ?_
                obtain ⟨hg26, hf⟩ := zu_gd_e hf
                refine zr_she rfl B hP rfl hg26 zd_Post_copy_123 ?_
                refine zg_Sheet_numbers B hP (zk_she (zu_ib_lt hg26)) zq_179 zd_Post_copy_124 ?_
                refine lv_iload_n hx hb zd_Post_copy_127 rfl (lv_at hl 2 rfl) ?_
                refine lv_aload_n hx hb zd_Post_copy_128 rfl (lv_at hl 0 rfl) ?_
                refine zg_Post_sheets B hP rfl zq_196 zd_Post_copy_129 ?_
                refine lv_iload_n hx hb zd_Post_copy_132 rfl (lv_at hl 3 rfl) ?_
                obtain ⟨hg27, hf⟩ := zu_gd_e hf
                refine zr_she rfl B hP rfl hg27 zd_Post_copy_133 ?_
                refine zg_Sheet_numbers B hP (zk_she (zu_ib_lt hg27)) zq_179 zd_Post_copy_134 ?_
                refine lv_iload hx hb zd_Post_copy_137 (lv_at hl 4 rfl) ?_
                refine lv_iload hx hb zd_Post_copy_139 (lv_at hl 5 rfl) ?_
                obtain ⟨hg28, hf⟩ := zu_gd_e hf
                refine zr_cpi (j0 := a2.toNatClampNeg) (j1 := a4.toNatClampNeg) (jn := a5.toNatClampNeg) B hP hS rfl rfl rfl hf (zk_Sheet_numbers (zk_she (zu_ib_lt hg26))) (by decide) rfl (zk_Sheet_numbers (zk_she (zu_ib_lt hg27))) (by decide) rfl hg28 zq_814 zq_259 zq_258 zq_9 hl.1 (by decide) (Nat.le_of_ble_eq_true rfl) zd_Post_copy_141 (fun X29 H locs hf hP hS => ?_)
                refine lv_iload hx hb zd_Post_copy_144 (lv_at hl 5 rfl) ?_
                obtain rfl := Option.some.inj hf
                exact zr_iret hx hb hret hlk hP hS zd_Post_copy_146
              · have hf := zu_t c25 hf
                exact zl_Post_copy_L111 B hret hlk X _ _ _ hP hS (lv_sub hl [0] rfl) hf
          · have hf := zu_f c17 hf
            refine lv_aload_n hx hb zd_Post_copy_73 rfl (lv_at hl 0 rfl) ?_
            refine lv_ldc (v := -1000003) hx hb hown (hts _ zq_778) zd_Post_copy_74 ?_
            obtain ⟨v30, X31, hq32, hf⟩ := zu_b2_e hf
            refine zw_Post_finding (rest := []) B hP hS hq32 zq_227 (Nat.le_of_ble_eq_true rfl) (Nat.le_of_ble_eq_true rfl) hl.1 rfl (Nat.le_of_ble_eq_true rfl) zd_Post_copy_76 (by decide) (fun H locs hP hS => ?_)
            clear hq32
            obtain rfl := Option.some.inj hf
            exact zr_iret hx hb hret hlk hP hS zd_Post_copy_79
        · have hf := zu_f c14 hf
          exact zl_Post_copy_L45 B hret hlk X _ _ _ hP hS (lv_sub hl [0] rfl) hf
    · have hf := zu_t c6 hf
      exact zl_Post_copy_L14 B hret hlk X _ _ _ hP hS (lv_sub hl [0] rfl) hf
theorem zC_Post_copy (l : Launch) {D : va_G} {cA : Nat → ClassId} {ad : Nat → Nat} {A : Nat → Prop} {a1 : Int32} {a2 : Int32} {a3 : Int32} {a4 : Int32} {a5 : Int32} {X : IX} {Y : LX} {res : Int32 × IX} (hf : fn_Post_copy a1 a2 a3 a4 a5 X = some res) : Met l zm_Post_copy (zu_ws zm_Post_copy zb_Post_copy 6 (some .int)) zR_Post_copy (va_Pc [.ref (ad 0), .int a1, .int a2, .int a3, .int a4, .int a5] (zu_Pre D cA ad A X Y)) (zu_Qi D cA ad A res.1 res.2 Y) 0 0 A := by
  refine Met.ofW (cc := zb_Post_copy) (maxL := 6) (ret := (some .int)) (by decide +kernel) rfl ?_
  intro p e s m args below meth c s₁ B0 hml hv
  obtain ⟨rfl, hP, hST⟩ := hv
  have B : zu_B p s m _ c zb_Post_copy 6 "StonePost" D cA ad A := ⟨B0.exec, B0.bytes, hml, findClass_of_methodNamed B0.named, (fun w hw => atoms_spec (ws := zu_ws zm_Post_copy zb_Post_copy 6 (some .int)) B0.pre w (List.mem_cons_of_mem _ hw)), hST⟩
  have hl := lv_entry ([.ref (ad 0), .int a1, .int a2, .int a3, .int a4, .int a5]) (n := 6) (Nat.le_of_ble_eq_true rfl)
  rw [lg_entry_eq]
  generalize (lg_sl ([.ref (ad 0), .int a1, .int a2, .int a3, .int a4, .int a5]) ++ List.replicate (6 - (lg_sl ([.ref (ad 0), .int a1, .int a2, .int a3, .int a4, .int a5])).length) Slot.unset).toArray = ls at hl ⊢
  exact zl_Post_copy B B0.returns B0.notSynchronized s.heap [] ls hP va_S.rf hl  hf
theorem zw_Post_copy {p : Program} {l : Launch} {e : Env} {R : Room} {s : State} {m : MethodId} {args : Array Value} {below : List Frame} {meth : Method} {c : Code} {H : Heap} {locs : List Loc} {cells slots : Nat} {Q : State → Prop} {cc : ByteArray} {pc nL : Nat} {ls : Array Slot} {rest st0 : List Value} {D : va_G} {cA : Nat → ClassId} {ad : Nat → Nat} {A : Nat → Prop} {X : IX} {Y : LX} {own : String} {index : Nat} {a1 : Int32} {a2 : Int32} {a3 : Int32} {a4 : Int32} {a5 : Int32} {v1 : Int32} {X1 : IX} (B : zu_B p s m args c cc nL own D cA ad A) (hP : va_P D zu_cl (zu_pic cA ad X Y) H) (hS : va_S A s.heap H locs) (hq : fn_Post_copy a1 a2 a3 a4 a5 X = some (v1, X1)) (m1 : Cond.methodLink own index zm_Post_copy ∈ zu_TB) (hR1 : 2 + 1 ≤ R.frames) (hR2 : 8 + (6 + 11) + 44 ≤ R.locals) (hsz : ls.size = nL) (hst : st0 = .int a5 :: .int a4 :: .int a3 :: .int a2 :: .int a1 :: .ref (ad 0) :: rest) (hw : (rest.map fun v => v.category).sum ≤ 8) (hdg : decode cc pc = .ok (.invokevirtual index, 3)) (h00 : cells ≤ R.cells ∧ slots ≤ R.slots) (kk : ∀ (H1 : Heap) (locs1 : List Loc), va_P D zu_cl (zu_pic cA ad X1 Y) H1 → va_S A s.heap H1 locs1 → W p l e R s m args below meth c H1 locs1 cells slots Q (F0 m (pc + 3) ls (.int v1 :: rest))) : W p l e R s m args below meth c H locs cells slots Q (F0 m pc ls st0) := by
  subst hst
  exact zr_cVi (As := [.int a1, .int a2, .int a3, .int a4, .int a5]) (rest := rest) (n := 5) (C := "StonePost") (T := zt_Post) (N := 8) B hP hS (zC_Post_copy l  hq) (K := 1) rfl (by decide) (by decide) rfl rfl m1 zq_807 zq_808 zq_1 zq_809 (by decide +kernel) ⟨hR1, hR2⟩ rfl rfl rfl hsz rfl hw hdg h00 kk
abbrev zR_Post_load : Room := { frames := 2, cells := 0, slots := 0, locals := 44 }
theorem zd_Post_load_0 : decode zb_Post_load 0 = .ok (.iload_n 1, 1) := by decide +kernel
theorem zd_Post_load_1 : decode zb_Post_load 1 = .ok (.invokestatic 254, 3) := by decide +kernel
theorem zd_Post_load_4 : decode zb_Post_load 4 = .ok (.ifCond .ne 10, 3) := by decide +kernel
theorem zd_Post_load_7 : decode zb_Post_load 7 = .ok (.aload_n 0, 1) := by decide +kernel
theorem zd_Post_load_8 : decode zb_Post_load 8 = .ok (.ldc 55, 2) := by decide +kernel
theorem zd_Post_load_10 : decode zb_Post_load 10 = .ok (.invokevirtual 56, 3) := by decide +kernel
theorem zd_Post_load_13 : decode zb_Post_load 13 = .ok (.ireturn, 1) := by decide +kernel
theorem zd_Post_load_14 : decode zb_Post_load 14 = .ok (.aload_n 0, 1) := by decide +kernel
theorem zd_Post_load_15 : decode zb_Post_load 15 = .ok (.getfield 38, 3) := by decide +kernel
theorem zd_Post_load_18 : decode zb_Post_load 18 = .ok (.iload_n 1, 1) := by decide +kernel
theorem zd_Post_load_19 : decode zb_Post_load 19 = .ok (.aaload, 1) := by decide +kernel
theorem zd_Post_load_20 : decode zb_Post_load 20 = .ok (.invokevirtual 264, 3) := by decide +kernel
theorem zd_Post_load_23 : decode zb_Post_load 23 = .ok (.ifCond .eq 10, 3) := by decide +kernel
theorem zd_Post_load_26 : decode zb_Post_load 26 = .ok (.aload_n 0, 1) := by decide +kernel
theorem zd_Post_load_27 : decode zb_Post_load 27 = .ok (.ldc 249, 2) := by decide +kernel
theorem zd_Post_load_29 : decode zb_Post_load 29 = .ok (.invokevirtual 56, 3) := by decide +kernel
theorem zd_Post_load_32 : decode zb_Post_load 32 = .ok (.ireturn, 1) := by decide +kernel
theorem zd_Post_load_33 : decode zb_Post_load 33 = .ok (.iconst 0, 1) := by decide +kernel
theorem zd_Post_load_34 : decode zb_Post_load 34 = .ok (.istore_n 2, 1) := by decide +kernel
theorem zd_Post_load_35 : decode zb_Post_load 35 = .ok (.aload_n 0, 1) := by decide +kernel
theorem zd_Post_load_36 : decode zb_Post_load 36 = .ok (.getfield 38, 3) := by decide +kernel
theorem zd_Post_load_39 : decode zb_Post_load 39 = .ok (.iload_n 1, 1) := by decide +kernel
theorem zd_Post_load_40 : decode zb_Post_load 40 = .ok (.aaload, 1) := by decide +kernel
theorem zd_Post_load_41 : decode zb_Post_load 41 = .ok (.getfield 263, 3) := by decide +kernel
theorem zd_Post_load_44 : decode zb_Post_load 44 = .ok (.bipush 24, 2) := by decide +kernel
theorem zd_Post_load_46 : decode zb_Post_load 46 = .ok (.invokestatic 226, 3) := by decide +kernel
theorem zd_Post_load_49 : decode zb_Post_load 49 = .ok (.istore_n 3, 1) := by decide +kernel
theorem zd_Post_load_50 : decode zb_Post_load 50 = .ok (.iload_n 2, 1) := by decide +kernel
theorem zd_Post_load_51 : decode zb_Post_load 51 = .ok (.iload_n 3, 1) := by decide +kernel
theorem zd_Post_load_52 : decode zb_Post_load 52 = .ok (.if_icmp .ge 48, 3) := by decide +kernel
theorem zd_Post_load_55 : decode zb_Post_load 55 = .ok (.aload_n 0, 1) := by decide +kernel
theorem zd_Post_load_56 : decode zb_Post_load 56 = .ok (.getfield 38, 3) := by decide +kernel
theorem zd_Post_load_59 : decode zb_Post_load 59 = .ok (.iload_n 1, 1) := by decide +kernel
theorem zd_Post_load_60 : decode zb_Post_load 60 = .ok (.aaload, 1) := by decide +kernel
theorem zd_Post_load_61 : decode zb_Post_load 61 = .ok (.getfield 276, 3) := by decide +kernel
theorem zd_Post_load_64 : decode zb_Post_load 64 = .ok (.iload_n 2, 1) := by decide +kernel
theorem zd_Post_load_65 : decode zb_Post_load 65 = .ok (.iaload, 1) := by decide +kernel
theorem zd_Post_load_66 : decode zb_Post_load 66 = .ok (.iconst 0, 1) := by decide +kernel
theorem zd_Post_load_67 : decode zb_Post_load 67 = .ok (.iconst 3, 1) := by decide +kernel
theorem zd_Post_load_68 : decode zb_Post_load 68 = .ok (.invokestatic 51, 3) := by decide +kernel
theorem zd_Post_load_71 : decode zb_Post_load 71 = .ok (.ifCond .eq 29, 3) := by decide +kernel
theorem zd_Post_load_74 : decode zb_Post_load 74 = .ok (.aload_n 0, 1) := by decide +kernel
theorem zd_Post_load_75 : decode zb_Post_load 75 = .ok (.getfield 10, 3) := by decide +kernel
theorem zd_Post_load_78 : decode zb_Post_load 78 = .ok (.getfield 60, 3) := by decide +kernel
theorem zd_Post_load_81 : decode zb_Post_load 81 = .ok (.iload_n 2, 1) := by decide +kernel
theorem zd_Post_load_82 : decode zb_Post_load 82 = .ok (.aload_n 0, 1) := by decide +kernel
theorem zd_Post_load_83 : decode zb_Post_load 83 = .ok (.getfield 38, 3) := by decide +kernel
theorem zd_Post_load_86 : decode zb_Post_load 86 = .ok (.iload_n 1, 1) := by decide +kernel
theorem zd_Post_load_87 : decode zb_Post_load 87 = .ok (.aaload, 1) := by decide +kernel
theorem zd_Post_load_88 : decode zb_Post_load 88 = .ok (.getfield 276, 3) := by decide +kernel
theorem zd_Post_load_91 : decode zb_Post_load 91 = .ok (.iload_n 2, 1) := by decide +kernel
theorem zd_Post_load_92 : decode zb_Post_load 92 = .ok (.iaload, 1) := by decide +kernel
theorem zd_Post_load_93 : decode zb_Post_load 93 = .ok (.iastore, 1) := by decide +kernel
theorem zd_Post_load_94 : decode zb_Post_load 94 = .ok (.iinc 2 1, 3) := by decide +kernel
theorem zd_Post_load_97 : decode zb_Post_load 97 = .ok (.goto (-47), 3) := by decide +kernel
theorem zd_Post_load_100 : decode zb_Post_load 100 = .ok (.iload_n 2, 1) := by decide +kernel
theorem zd_Post_load_101 : decode zb_Post_load 101 = .ok (.ireturn, 1) := by decide +kernel
set_option maxHeartbeats 4000000 in
theorem zl_Post_load_L100 {p : Program} {l : Launch} {e : Env} {s : State} {m : MethodId} {args : Array Value} {below : List Frame} {meth : Method} {c : Code} {D : va_G} {cA : Nat → ClassId} {ad : Nat → Nat} {A : Nat → Prop} (B : zu_B p s m args c zb_Post_load 4 "StonePost" D cA ad A) (hret : meth.sig.returnType = (some .int)) (hlk : meth.locks = false) {Y : LX} {res : Int32 × IX} (x2 : Int32) (X : IX) (H : Heap) (locs : List Loc) (ls : Array Slot) (hP : va_P D zu_cl (zu_pic cA ad X Y) H) (hS : va_S A s.heap H locs) (hl : lv_has ls 4 [(2, .int x2)]) (hf : fn_Post_load_L100 x2 X = some res) : W p l e zR_Post_load s m args below meth c H locs 0 0 (MQ below (zu_Qi D cA ad A res.1 res.2 Y) args s 0 0 A) (F0 m 100 ls []) := by
  obtain ⟨hx, hb, hml, hown, hts, hST⟩ := id B
  unfold fn_Post_load_L100 at hf
  refine lv_iload_n hx hb zd_Post_load_100 rfl (lv_at hl 0 rfl) ?_
  obtain rfl := Option.some.inj hf
  exact zr_iret hx hb hret hlk hP hS zd_Post_load_101
set_option maxHeartbeats 4000000 in
theorem zl_Post_load_B50 {p : Program} {l : Launch} {e : Env} {s : State} {m : MethodId} {args : Array Value} {below : List Frame} {meth : Method} {c : Code} {D : va_G} {cA : Nat → ClassId} {ad : Nat → Nat} {A : Nat → Prop} (B : zu_B p s m args c zb_Post_load 4 "StonePost" D cA ad A) (hret : meth.sig.returnType = (some .int)) (hlk : meth.locks = false) {Y : LX} {res : Int32 × IX} {k50 : Int32 → Int32 → Int32 → IX → Option (Int32 × IX)} (hk50 : ∀ (x1 : Int32) (x2 : Int32) (x3 : Int32) (X : IX) (H : Heap) (locs : List Loc) (ls : Array Slot), va_P D zu_cl (zu_pic cA ad X Y) H → va_S A s.heap H locs → lv_has ls 4 [(0, .ref (ad 0)), (1, .int x1), (2, .int x2), (3, .int x3)] → k50 x1 x2 x3 X = some res → W p l e zR_Post_load s m args below meth c H locs 0 0 (MQ below (zu_Qi D cA ad A res.1 res.2 Y) args s 0 0 A) (F0 m 50 ls [])) (x1 : Int32) (x2 : Int32) (x3 : Int32) (X : IX) (H : Heap) (locs : List Loc) (ls : Array Slot) (hP : va_P D zu_cl (zu_pic cA ad X Y) H) (hS : va_S A s.heap H locs) (hl : lv_has ls 4 [(0, .ref (ad 0)), (1, .int x1), (2, .int x2), (3, .int x3)]) (hf : fn_Post_load_B50 k50 x1 x2 x3 X = some res) : W p l e zR_Post_load s m args below meth c H locs 0 0 (MQ below (zu_Qi D cA ad A res.1 res.2 Y) args s 0 0 A) (F0 m 50 ls []) := by
  obtain ⟨hx, hb, hml, hown, hts, hST⟩ := id B
  unfold fn_Post_load_B50 at hf
  refine lv_iload_n hx hb zd_Post_load_50 rfl (lv_at hl 2 rfl) ?_
  refine lv_iload_n hx hb zd_Post_load_51 rfl (lv_at hl 3 rfl) ?_
  refine lv_icmp_ge (tgt := 100) hx hb zd_Post_load_52 (by decide) (fun c16 => ?_) (fun c16 => ?_)
  · have hf := zu_t c16 hf
    exact zl_Post_load_L100 B hret hlk x2 X _ _ _ hP hS (lv_sub hl [2] rfl) hf
  · have hf := zu_f c16 hf
    refine lv_aload_n hx hb zd_Post_load_55 rfl (lv_at hl 0 rfl) ?_
    refine zg_Post_sheets B hP rfl zq_196 zd_Post_load_56 ?_
    refine lv_iload_n hx hb zd_Post_load_59 rfl (lv_at hl 1 rfl) ?_
    obtain ⟨hg17, hf⟩ := zu_gd_e hf
    refine zr_she rfl B hP rfl hg17 zd_Post_load_60 ?_
    refine zg_Sheet_numbers B hP (zk_she (zu_ib_lt hg17)) zq_179 zd_Post_load_61 ?_
    refine lv_iload_n hx hb zd_Post_load_64 rfl (lv_at hl 2 rfl) ?_
    obtain ⟨hg18, hf⟩ := zu_gd_e hf
    refine zr_iald rfl B hP (zk_Sheet_numbers (zk_she (zu_ib_lt hg17))) (by decide) rfl hg18 zd_Post_load_65 ?_
    refine lv_iconst (v := 0) hx hb zd_Post_load_66 (by decide) ?_
    refine lv_iconst (v := 3) hx hb zd_Post_load_67 (by decide) ?_
    obtain ⟨v19, hq20, hf⟩ := zu_b1_e hf
    refine zw_Post_isWithin (rest := []) B hP hS hq20 zq_223 (Nat.le_of_ble_eq_true rfl) (Nat.le_of_ble_eq_true rfl) hl.1 rfl (Nat.le_of_ble_eq_true rfl) zd_Post_load_68 (by decide) (fun H locs hP hS => ?_)
    clear hq20
    refine lv_if_eq (tgt := 100) hx hb zd_Post_load_71 (by decide) (fun c21 => ?_) (fun c21 => ?_)
    · have hf := zu_t c21 hf
      exact zl_Post_load_L100 B hret hlk x2 X _ _ _ hP hS (lv_sub hl [2] rfl) hf
    · have hf := zu_f c21 hf
      refine lv_aload_n hx hb zd_Post_load_74 rfl (lv_at hl 0 rfl) ?_
      refine zg_Post_land B hP rfl zq_191 zd_Post_load_75 ?_
      refine zg_Land_stuffs B hP rfl zq_51 zd_Post_load_78 ?_
      refine lv_iload_n hx hb zd_Post_load_81 rfl (lv_at hl 2 rfl) ?_
      refine lv_aload_n hx hb zd_Post_load_82 rfl (lv_at hl 0 rfl) ?_
      refine zg_Post_sheets B hP rfl zq_196 zd_Post_load_83 ?_
      refine lv_iload_n hx hb zd_Post_load_86 rfl (lv_at hl 1 rfl) ?_
      obtain ⟨hg22, hf⟩ := zu_gd_e hf
      refine zr_she rfl B hP rfl hg22 zd_Post_load_87 ?_
      refine zg_Sheet_numbers B hP (zk_she (zu_ib_lt hg22)) zq_179 zd_Post_load_88 ?_
      refine lv_iload_n hx hb zd_Post_load_91 rfl (lv_at hl 2 rfl) ?_
      obtain ⟨hg23, hf⟩ := zu_gd_e hf
      refine zr_iald rfl B hP (zk_Sheet_numbers (zk_she (zu_ib_lt hg22))) (by decide) rfl hg23 zd_Post_load_92 ?_
      obtain ⟨hg24, hf⟩ := zu_gd_e hf
      refine zr_iast rfl B hP hS hf (zk_Land_stuffs rfl) (by decide) rfl hg24 zd_Post_load_93 (fun X25 H locs hf hP hS => ?_)
      obtain ⟨v26, ev26, hf⟩ := zu_nx_e hf
      refine lv_iinc (v := v26) (lv' := [(2, .int v26), (0, .ref (ad 0)), (1, .int x1), (3, .int x3)]) hx hb zd_Post_load_94 hl (k := 2) rfl (by rw [ev26]; rfl) (by decide) rfl (fun ls hl => ?_)
      clear ev26
      refine lv_goto (tgt := 50) hx hb zd_Post_load_97 (by decide) ?_
      exact hk50 x1 v26 x3 X25 _ _ _ hP hS (lv_sub hl [1, 2, 0, 3] rfl) hf
theorem zl_Post_load_L50 {p : Program} {l : Launch} {e : Env} {s : State} {m : MethodId} {args : Array Value} {below : List Frame} {meth : Method} {c : Code} {D : va_G} {cA : Nat → ClassId} {ad : Nat → Nat} {A : Nat → Prop} (B : zu_B p s m args c zb_Post_load 4 "StonePost" D cA ad A) (hret : meth.sig.returnType = (some .int)) (hlk : meth.locks = false) {Y : LX} {res : Int32 × IX} : ∀ (n : Nat) (x1 : Int32) (x2 : Int32) (x3 : Int32) (X : IX) (H : Heap) (locs : List Loc) (ls : Array Slot), va_P D zu_cl (zu_pic cA ad X Y) H → va_S A s.heap H locs → lv_has ls 4 [(0, .ref (ad 0)), (1, .int x1), (2, .int x2), (3, .int x3)] → fn_Post_load_L50 n x1 x2 x3 X = some res → W p l e zR_Post_load s m args below meth c H locs 0 0 (MQ below (zu_Qi D cA ad A res.1 res.2 Y) args s 0 0 A) (F0 m 50 ls []) := by
  intro n
  induction n with
  | zero =>
    intro x1 x2 x3 X H locs ls hP hS hl hf
    exact (Option.some_ne_none _ hf.symm).elim
  | succ n ih =>
    intro x1 x2 x3 X H locs ls hP hS hl hf
    exact zl_Post_load_B50 B hret hlk ih x1 x2 x3 X H locs ls hP hS hl  hf
set_option maxHeartbeats 4000000 in
theorem zl_Post_load {p : Program} {l : Launch} {e : Env} {s : State} {m : MethodId} {args : Array Value} {below : List Frame} {meth : Method} {c : Code} {D : va_G} {cA : Nat → ClassId} {ad : Nat → Nat} {A : Nat → Prop} (B : zu_B p s m args c zb_Post_load 4 "StonePost" D cA ad A) (hret : meth.sig.returnType = (some .int)) (hlk : meth.locks = false) {Y : LX} {res : Int32 × IX} {a1 : Int32} {X : IX} (H : Heap) (locs : List Loc) (ls : Array Slot) (hP : va_P D zu_cl (zu_pic cA ad X Y) H) (hS : va_S A s.heap H locs) (hl : lv_has ls 4 [(0, .ref (ad 0)), (1, .int a1)]) (hf : fn_Post_load a1 X = some res) : W p l e zR_Post_load s m args below meth c H locs 0 0 (MQ below (zu_Qi D cA ad A res.1 res.2 Y) args s 0 0 A) (F0 m 0 ls []) := by
  obtain ⟨hx, hb, hml, hown, hts, hST⟩ := id B
  unfold fn_Post_load at hf
  refine lv_iload_n hx hb zd_Post_load_0 rfl (lv_at hl 1 rfl) ?_
  obtain ⟨v1, hq2, hf⟩ := zu_b1_e hf
  refine zw_Post_isSheet (rest := []) B hP hS hq2 zq_783 (Nat.le_of_ble_eq_true rfl) (Nat.le_of_ble_eq_true rfl) hl.1 rfl (Nat.le_of_ble_eq_true rfl) zd_Post_load_1 (by decide) (fun H locs hP hS => ?_)
  clear hq2
  refine lv_if_ne (tgt := 14) hx hb zd_Post_load_4 (by decide) (fun c3 => ?_) (fun c3 => ?_)
  · have hf := zu_f c3 hf
    refine lv_aload_n hx hb zd_Post_load_14 rfl (lv_at hl 0 rfl) ?_
    refine zg_Post_sheets B hP rfl zq_196 zd_Post_load_15 ?_
    refine lv_iload_n hx hb zd_Post_load_18 rfl (lv_at hl 1 rfl) ?_
    obtain ⟨hg4, hf⟩ := zu_gd_e hf
    refine zr_she rfl B hP rfl hg4 zd_Post_load_19 ?_
    obtain ⟨v5, hq6, hf⟩ := zu_b1_e hf
    refine zw_Sheet_isMissing (rest := []) B hP hS (zk_she (zu_ib_lt hg4)) hq6 zq_798 (Nat.le_of_ble_eq_true rfl) (Nat.le_of_ble_eq_true rfl) hl.1 rfl (Nat.le_of_ble_eq_true rfl) zd_Post_load_20 (by decide) (fun H locs hP hS => ?_)
    clear hq6
    refine lv_if_eq (tgt := 33) hx hb zd_Post_load_23 (by decide) (fun c7 => ?_) (fun c7 => ?_)
    · have hf := zu_t c7 hf
      refine lv_iconst (v := 0) hx hb zd_Post_load_33 (by decide) ?_
      refine lv_istore_n (lv' := [(2, .int (0 : Int32)), (0, .ref (ad 0)), (1, .int a1)]) hx hb zd_Post_load_34 rfl hl (by decide) rfl (fun ls hl => ?_)
      refine lv_aload_n hx hb zd_Post_load_35 rfl (lv_at hl 1 rfl) ?_
      refine zg_Post_sheets B hP rfl zq_196 zd_Post_load_36 ?_
      refine lv_iload_n hx hb zd_Post_load_39 rfl (lv_at hl 2 rfl) ?_
      obtain ⟨hg8, hf⟩ := zu_gd_e hf
      refine zr_she rfl B hP rfl hg8 zd_Post_load_40 ?_
      refine zg_Sheet_length B hP (zk_she (zu_ib_lt hg8)) zq_183 zd_Post_load_41 ?_
      refine lv_bipush (v := 24) hx hb zd_Post_load_44 (by decide) ?_
      refine va_mmin hx hb (hml.trans hl.1.symm) hown (hts _ zq_608) (hts _ zq_320) (hts _ zq_10) (hts _ zq_321) (by decide) (Nat.le_of_ble_eq_true rfl) (by decide) (by decide) zd_Post_load_46 ?_
      refine zr_nxi hf (fun v9 hf => ?_)
      refine lv_istore_n (lv' := [(3, .int v9), (2, .int (0 : Int32)), (0, .ref (ad 0)), (1, .int a1)]) hx hb zd_Post_load_49 rfl hl (by decide) rfl (fun ls hl => ?_)
      exact zl_Post_load_L50 B hret hlk 400 a1 (0 : Int32) v9 X _ _ _ hP hS (lv_sub hl [2, 3, 1, 0] rfl) hf
    · have hf := zu_f c7 hf
      refine lv_aload_n hx hb zd_Post_load_26 rfl (lv_at hl 0 rfl) ?_
      refine lv_ldc (v := -1000006) hx hb hown (hts _ zq_770) zd_Post_load_27 ?_
      obtain ⟨v10, X11, hq12, hf⟩ := zu_b2_e hf
      refine zw_Post_finding (rest := []) B hP hS hq12 zq_227 (Nat.le_of_ble_eq_true rfl) (Nat.le_of_ble_eq_true rfl) hl.1 rfl (Nat.le_of_ble_eq_true rfl) zd_Post_load_29 (by decide) (fun H locs hP hS => ?_)
      clear hq12
      obtain rfl := Option.some.inj hf
      exact zr_iret hx hb hret hlk hP hS zd_Post_load_32
  · have hf := zu_t c3 hf
    refine lv_aload_n hx hb zd_Post_load_7 rfl (lv_at hl 0 rfl) ?_
    refine lv_ldc (v := -1000001) hx hb hown (hts _ zq_226) zd_Post_load_8 ?_
    obtain ⟨v13, X14, hq15, hf⟩ := zu_b2_e hf
    refine zw_Post_finding (rest := []) B hP hS hq15 zq_227 (Nat.le_of_ble_eq_true rfl) (Nat.le_of_ble_eq_true rfl) hl.1 rfl (Nat.le_of_ble_eq_true rfl) zd_Post_load_10 (by decide) (fun H locs hP hS => ?_)
    clear hq15
    obtain rfl := Option.some.inj hf
    exact zr_iret hx hb hret hlk hP hS zd_Post_load_13
theorem zC_Post_load (l : Launch) {D : va_G} {cA : Nat → ClassId} {ad : Nat → Nat} {A : Nat → Prop} {a1 : Int32} {X : IX} {Y : LX} {res : Int32 × IX} (hf : fn_Post_load a1 X = some res) : Met l zm_Post_load (zu_ws zm_Post_load zb_Post_load 4 (some .int)) zR_Post_load (va_Pc [.ref (ad 0), .int a1] (zu_Pre D cA ad A X Y)) (zu_Qi D cA ad A res.1 res.2 Y) 0 0 A := by
  refine Met.ofW (cc := zb_Post_load) (maxL := 4) (ret := (some .int)) (by decide +kernel) rfl ?_
  intro p e s m args below meth c s₁ B0 hml hv
  obtain ⟨rfl, hP, hST⟩ := hv
  have B : zu_B p s m _ c zb_Post_load 4 "StonePost" D cA ad A := ⟨B0.exec, B0.bytes, hml, findClass_of_methodNamed B0.named, (fun w hw => atoms_spec (ws := zu_ws zm_Post_load zb_Post_load 4 (some .int)) B0.pre w (List.mem_cons_of_mem _ hw)), hST⟩
  have hl := lv_entry ([.ref (ad 0), .int a1]) (n := 4) (Nat.le_of_ble_eq_true rfl)
  rw [lg_entry_eq]
  generalize (lg_sl ([.ref (ad 0), .int a1]) ++ List.replicate (4 - (lg_sl ([.ref (ad 0), .int a1])).length) Slot.unset).toArray = ls at hl ⊢
  exact zl_Post_load B B0.returns B0.notSynchronized s.heap [] ls hP va_S.rf hl  hf
theorem zw_Post_load {p : Program} {l : Launch} {e : Env} {R : Room} {s : State} {m : MethodId} {args : Array Value} {below : List Frame} {meth : Method} {c : Code} {H : Heap} {locs : List Loc} {cells slots : Nat} {Q : State → Prop} {cc : ByteArray} {pc nL : Nat} {ls : Array Slot} {rest st0 : List Value} {D : va_G} {cA : Nat → ClassId} {ad : Nat → Nat} {A : Nat → Prop} {X : IX} {Y : LX} {own : String} {index : Nat} {a1 : Int32} {v1 : Int32} {X1 : IX} (B : zu_B p s m args c cc nL own D cA ad A) (hP : va_P D zu_cl (zu_pic cA ad X Y) H) (hS : va_S A s.heap H locs) (hq : fn_Post_load a1 X = some (v1, X1)) (m1 : Cond.methodLink own index zm_Post_load ∈ zu_TB) (hR1 : 2 + 1 ≤ R.frames) (hR2 : 8 + (4 + 11) + 44 ≤ R.locals) (hsz : ls.size = nL) (hst : st0 = .int a1 :: .ref (ad 0) :: rest) (hw : (rest.map fun v => v.category).sum ≤ 8) (hdg : decode cc pc = .ok (.invokevirtual index, 3)) (h00 : cells ≤ R.cells ∧ slots ≤ R.slots) (kk : ∀ (H1 : Heap) (locs1 : List Loc), va_P D zu_cl (zu_pic cA ad X1 Y) H1 → va_S A s.heap H1 locs1 → W p l e R s m args below meth c H1 locs1 cells slots Q (F0 m (pc + 3) ls (.int v1 :: rest))) : W p l e R s m args below meth c H locs cells slots Q (F0 m pc ls st0) := by
  subst hst
  exact zr_cVi (As := [.int a1]) (rest := rest) (n := 1) (C := "StonePost") (T := zt_Post) (N := 8) B hP hS (zC_Post_load l  hq) (K := 1) rfl (by decide) (by decide) rfl rfl m1 zq_816 zq_817 zq_1 zq_818 (by decide +kernel) ⟨hR1, hR2⟩ rfl rfl rfl hsz rfl hw hdg h00 kk
abbrev zR_Post_rightCells : Room := { frames := 4, cells := 0, slots := 0, locals := 92 }
theorem zd_Post_rightCells_0 : decode zb_Post_rightCells 0 = .ok (.iconst 1, 1) := by decide +kernel
theorem zd_Post_rightCells_1 : decode zb_Post_rightCells 1 = .ok (.iload_n 2, 1) := by decide +kernel
theorem zd_Post_rightCells_2 : decode zb_Post_rightCells 2 = .ok (.ishl, 1) := by decide +kernel
theorem zd_Post_rightCells_3 : decode zb_Post_rightCells 3 = .ok (.istore_n 3, 1) := by decide +kernel
theorem zd_Post_rightCells_4 : decode zb_Post_rightCells 4 = .ok (.iconst 0, 1) := by decide +kernel
theorem zd_Post_rightCells_5 : decode zb_Post_rightCells 5 = .ok (.istore 4, 2) := by decide +kernel
theorem zd_Post_rightCells_7 : decode zb_Post_rightCells 7 = .ok (.iload 4, 2) := by decide +kernel
theorem zd_Post_rightCells_9 : decode zb_Post_rightCells 9 = .ok (.aload_n 1, 1) := by decide +kernel
theorem zd_Post_rightCells_10 : decode zb_Post_rightCells 10 = .ok (.getfield 263, 3) := by decide +kernel
theorem zd_Post_rightCells_13 : decode zb_Post_rightCells 13 = .ok (.if_icmp .ge 52, 3) := by decide +kernel
theorem zd_Post_rightCells_16 : decode zb_Post_rightCells 16 = .ok (.aload_n 1, 1) := by decide +kernel
theorem zd_Post_rightCells_17 : decode zb_Post_rightCells 17 = .ok (.getfield 276, 3) := by decide +kernel
theorem zd_Post_rightCells_20 : decode zb_Post_rightCells 20 = .ok (.iload 4, 2) := by decide +kernel
theorem zd_Post_rightCells_22 : decode zb_Post_rightCells 22 = .ok (.iaload, 1) := by decide +kernel
theorem zd_Post_rightCells_23 : decode zb_Post_rightCells 23 = .ok (.istore 5, 2) := by decide +kernel
theorem zd_Post_rightCells_25 : decode zb_Post_rightCells 25 = .ok (.iload 5, 2) := by decide +kernel
theorem zd_Post_rightCells_27 : decode zb_Post_rightCells 27 = .ok (.invokestatic 47, 3) := by decide +kernel
theorem zd_Post_rightCells_30 : decode zb_Post_rightCells 30 = .ok (.ifCond .eq 12, 3) := by decide +kernel
theorem zd_Post_rightCells_33 : decode zb_Post_rightCells 33 = .ok (.iload_n 3, 1) := by decide +kernel
theorem zd_Post_rightCells_34 : decode zb_Post_rightCells 34 = .ok (.iload 5, 2) := by decide +kernel
theorem zd_Post_rightCells_36 : decode zb_Post_rightCells 36 = .ok (.ishr, 1) := by decide +kernel
theorem zd_Post_rightCells_37 : decode zb_Post_rightCells 37 = .ok (.iconst 1, 1) := by decide +kernel
theorem zd_Post_rightCells_38 : decode zb_Post_rightCells 38 = .ok (.iand, 1) := by decide +kernel
theorem zd_Post_rightCells_39 : decode zb_Post_rightCells 39 = .ok (.ifCond .ne 6, 3) := by decide +kernel
theorem zd_Post_rightCells_42 : decode zb_Post_rightCells 42 = .ok (.iload 4, 2) := by decide +kernel
theorem zd_Post_rightCells_44 : decode zb_Post_rightCells 44 = .ok (.ireturn, 1) := by decide +kernel
theorem zd_Post_rightCells_45 : decode zb_Post_rightCells 45 = .ok (.aload_n 0, 1) := by decide +kernel
theorem zd_Post_rightCells_46 : decode zb_Post_rightCells 46 = .ok (.getfield 25, 3) := by decide +kernel
theorem zd_Post_rightCells_49 : decode zb_Post_rightCells 49 = .ok (.iconst 1, 1) := by decide +kernel
theorem zd_Post_rightCells_50 : decode zb_Post_rightCells 50 = .ok (.iload 5, 2) := by decide +kernel
theorem zd_Post_rightCells_52 : decode zb_Post_rightCells 52 = .ok (.ishl, 1) := by decide +kernel
theorem zd_Post_rightCells_53 : decode zb_Post_rightCells 53 = .ok (.iload 4, 2) := by decide +kernel
theorem zd_Post_rightCells_55 : decode zb_Post_rightCells 55 = .ok (.invokevirtual 160, 3) := by decide +kernel
theorem zd_Post_rightCells_58 : decode zb_Post_rightCells 58 = .ok (.istore_n 3, 1) := by decide +kernel
theorem zd_Post_rightCells_59 : decode zb_Post_rightCells 59 = .ok (.iinc 4 1, 3) := by decide +kernel
theorem zd_Post_rightCells_62 : decode zb_Post_rightCells 62 = .ok (.goto (-55), 3) := by decide +kernel
theorem zd_Post_rightCells_65 : decode zb_Post_rightCells 65 = .ok (.aload_n 1, 1) := by decide +kernel
theorem zd_Post_rightCells_66 : decode zb_Post_rightCells 66 = .ok (.getfield 263, 3) := by decide +kernel
theorem zd_Post_rightCells_69 : decode zb_Post_rightCells 69 = .ok (.ireturn, 1) := by decide +kernel
set_option maxHeartbeats 4000000 in
theorem zl_Post_rightCells_L42 {p : Program} {l : Launch} {e : Env} {s : State} {m : MethodId} {args : Array Value} {below : List Frame} {meth : Method} {c : Code} {D : va_G} {cA : Nat → ClassId} {ad : Nat → Nat} {A : Nat → Prop} (B : zu_B p s m args c zb_Post_rightCells 6 "StonePost" D cA ad A) (hret : meth.sig.returnType = (some .int)) (hlk : meth.locks = false) {X : IX} {Y : LX} {res : Int32} (x4 : Int32) (H : Heap) (locs : List Loc) (ls : Array Slot) (hP : va_P D zu_cl (zu_pic cA ad X Y) H) (hS : va_S A s.heap H locs) (hl : lv_has ls 6 [(4, .int x4)]) (hf : fn_Post_rightCells_L42 X x4 = some res) : W p l e zR_Post_rightCells s m args below meth c H locs 0 0 (MQ below (zu_Qi D cA ad A res X Y) args s 0 0 A) (F0 m 42 ls []) := by
  obtain ⟨hx, hb, hml, hown, hts, hST⟩ := id B
  unfold fn_Post_rightCells_L42 at hf
  refine lv_iload hx hb zd_Post_rightCells_42 (lv_at hl 0 rfl) ?_
  obtain rfl := Option.some.inj hf
  exact zr_iret hx hb hret hlk hP hS zd_Post_rightCells_44
set_option maxHeartbeats 4000000 in
theorem zl_Post_rightCells_B7 {p : Program} {l : Launch} {e : Env} {s : State} {m : MethodId} {args : Array Value} {below : List Frame} {meth : Method} {c : Code} {D : va_G} {cA : Nat → ClassId} {ad : Nat → Nat} {A : Nat → Prop} (B : zu_B p s m args c zb_Post_rightCells 6 "StonePost" D cA ad A) (hret : meth.sig.returnType = (some .int)) (hlk : meth.locks = false) {X : IX} {Y : LX} {res : Int32} {k7 : Nat → Int32 → Int32 → Option Int32} (hk7 : ∀ (r1 : Nat) (x3 : Int32) (x4 : Int32) (H : Heap) (locs : List Loc) (ls : Array Slot), va_P D zu_cl (zu_pic cA ad X Y) H → va_S A s.heap H locs → lv_has ls 6 [(0, .ref (ad 0)), (1, .ref (ad r1)), (3, .int x3), (4, .int x4)] → zu_kd r1 = 4 → k7 r1 x3 x4 = some res → W p l e zR_Post_rightCells s m args below meth c H locs 0 0 (MQ below (zu_Qi D cA ad A res X Y) args s 0 0 A) (F0 m 7 ls [])) (r1 : Nat) (x3 : Int32) (x4 : Int32) (H : Heap) (locs : List Loc) (ls : Array Slot) (hP : va_P D zu_cl (zu_pic cA ad X Y) H) (hS : va_S A s.heap H locs) (hl : lv_has ls 6 [(0, .ref (ad 0)), (1, .ref (ad r1)), (3, .int x3), (4, .int x4)]) (hr1 : zu_kd r1 = 4) (hf : fn_Post_rightCells_B7 X k7 r1 x3 x4 = some res) : W p l e zR_Post_rightCells s m args below meth c H locs 0 0 (MQ below (zu_Qi D cA ad A res X Y) args s 0 0 A) (F0 m 7 ls []) := by
  obtain ⟨hx, hb, hml, hown, hts, hST⟩ := id B
  unfold fn_Post_rightCells_B7 at hf
  refine lv_iload hx hb zd_Post_rightCells_7 (lv_at hl 3 rfl) ?_
  refine lv_aload_n hx hb zd_Post_rightCells_9 rfl (lv_at hl 1 rfl) ?_
  refine zg_Sheet_length B hP hr1 zq_183 zd_Post_rightCells_10 ?_
  refine lv_icmp_ge (tgt := 65) hx hb zd_Post_rightCells_13 (by decide) (fun c2 => ?_) (fun c2 => ?_)
  · have hf := zu_t c2 hf
    refine lv_aload_n hx hb zd_Post_rightCells_65 rfl (lv_at hl 1 rfl) ?_
    refine zg_Sheet_length B hP hr1 zq_183 zd_Post_rightCells_66 ?_
    obtain rfl := Option.some.inj hf
    exact zr_iret hx hb hret hlk hP hS zd_Post_rightCells_69
  · have hf := zu_f c2 hf
    refine lv_aload_n hx hb zd_Post_rightCells_16 rfl (lv_at hl 1 rfl) ?_
    refine zg_Sheet_numbers B hP hr1 zq_179 zd_Post_rightCells_17 ?_
    refine lv_iload hx hb zd_Post_rightCells_20 (lv_at hl 3 rfl) ?_
    obtain ⟨hg3, hf⟩ := zu_gd_e hf
    refine zr_iald rfl B hP (zk_Sheet_numbers hr1) (by decide) rfl hg3 zd_Post_rightCells_22 ?_
    refine zr_nxi hf (fun v4 hf => ?_)
    refine lv_istore (lv' := [(5, .int v4), (0, .ref (ad 0)), (1, .ref (ad r1)), (3, .int x3), (4, .int x4)]) hx hb zd_Post_rightCells_23 hl (by decide) rfl (fun ls hl => ?_)
    refine lv_iload hx hb zd_Post_rightCells_25 (lv_at hl 0 rfl) ?_
    obtain ⟨v5, hq6, hf⟩ := zu_b1_e hf
    refine zw_Post_isCell (rest := []) B hP hS hq6 zq_220 (Nat.le_of_ble_eq_true rfl) (Nat.le_of_ble_eq_true rfl) hl.1 rfl (Nat.le_of_ble_eq_true rfl) zd_Post_rightCells_27 (by decide) (fun H locs hP hS => ?_)
    clear hq6
    refine lv_if_eq (tgt := 42) hx hb zd_Post_rightCells_30 (by decide) (fun c7 => ?_) (fun c7 => ?_)
    · have hf := zu_t c7 hf
      exact zl_Post_rightCells_L42 B hret hlk x4 _ _ _ hP hS (lv_sub hl [4] rfl) hf
    · have hf := zu_f c7 hf
      refine lv_iload_n hx hb zd_Post_rightCells_33 rfl (lv_at hl 3 rfl) ?_
      refine lv_iload hx hb zd_Post_rightCells_34 (lv_at hl 0 rfl) ?_
      refine lv_ishr hx hb zd_Post_rightCells_36 ?_
      refine lv_iconst (v := 1) hx hb zd_Post_rightCells_37 (by decide) ?_
      refine lv_iand hx hb zd_Post_rightCells_38 ?_
      refine lv_if_ne (tgt := 45) hx hb zd_Post_rightCells_39 (by decide) (fun c8 => ?_) (fun c8 => ?_)
      · have hf := zu_f c8 hf
        refine lv_aload_n hx hb zd_Post_rightCells_45 rfl (lv_at hl 1 rfl) ?_
        refine zg_Post_chart B hP rfl zq_194 zd_Post_rightCells_46 ?_
        refine lv_iconst (v := 1) hx hb zd_Post_rightCells_49 (by decide) ?_
        refine lv_iload hx hb zd_Post_rightCells_50 (lv_at hl 0 rfl) ?_
        refine lv_ishl hx hb zd_Post_rightCells_52 ?_
        refine lv_iload hx hb zd_Post_rightCells_53 (lv_at hl 4 rfl) ?_
        obtain ⟨v9, hq10, hf⟩ := zu_b1_e hf
        refine zw_Chart_after (rest := []) B hP hS hq10 zq_483 (Nat.le_of_ble_eq_true rfl) (Nat.le_of_ble_eq_true rfl) hl.1 rfl (Nat.le_of_ble_eq_true rfl) zd_Post_rightCells_55 (by decide) (fun H locs hP hS => ?_)
        clear hq10
        refine lv_istore_n (lv' := [(3, .int v9), (5, .int v4), (0, .ref (ad 0)), (1, .ref (ad r1)), (4, .int x4)]) hx hb zd_Post_rightCells_58 rfl hl (by decide) rfl (fun ls hl => ?_)
        obtain ⟨v11, ev11, hf⟩ := zu_nx_e hf
        refine lv_iinc (v := v11) (lv' := [(4, .int v11), (3, .int v9), (5, .int v4), (0, .ref (ad 0)), (1, .ref (ad r1))]) hx hb zd_Post_rightCells_59 hl (k := 4) rfl (by rw [ev11]; rfl) (by decide) rfl (fun ls hl => ?_)
        clear ev11
        refine lv_goto (tgt := 7) hx hb zd_Post_rightCells_62 (by decide) ?_
        exact hk7 r1 v9 v11 _ _ _ hP hS (lv_sub hl [3, 4, 1, 0] rfl) hr1 hf
      · have hf := zu_t c8 hf
        exact zl_Post_rightCells_L42 B hret hlk x4 _ _ _ hP hS (lv_sub hl [4] rfl) hf
theorem zl_Post_rightCells_L7 {p : Program} {l : Launch} {e : Env} {s : State} {m : MethodId} {args : Array Value} {below : List Frame} {meth : Method} {c : Code} {D : va_G} {cA : Nat → ClassId} {ad : Nat → Nat} {A : Nat → Prop} (B : zu_B p s m args c zb_Post_rightCells 6 "StonePost" D cA ad A) (hret : meth.sig.returnType = (some .int)) (hlk : meth.locks = false) {X : IX} {Y : LX} {res : Int32} : ∀ (n : Nat) (r1 : Nat) (x3 : Int32) (x4 : Int32) (H : Heap) (locs : List Loc) (ls : Array Slot), va_P D zu_cl (zu_pic cA ad X Y) H → va_S A s.heap H locs → lv_has ls 6 [(0, .ref (ad 0)), (1, .ref (ad r1)), (3, .int x3), (4, .int x4)] → zu_kd r1 = 4 → fn_Post_rightCells_L7 X n r1 x3 x4 = some res → W p l e zR_Post_rightCells s m args below meth c H locs 0 0 (MQ below (zu_Qi D cA ad A res X Y) args s 0 0 A) (F0 m 7 ls []) := by
  intro n
  induction n with
  | zero =>
    intro r1 x3 x4 H locs ls hP hS hl hr1 hf
    exact (Option.some_ne_none _ hf.symm).elim
  | succ n ih =>
    intro r1 x3 x4 H locs ls hP hS hl hr1 hf
    exact zl_Post_rightCells_B7 B hret hlk ih r1 x3 x4 H locs ls hP hS hl hr1 hf
set_option maxHeartbeats 4000000 in
theorem zl_Post_rightCells {p : Program} {l : Launch} {e : Env} {s : State} {m : MethodId} {args : Array Value} {below : List Frame} {meth : Method} {c : Code} {D : va_G} {cA : Nat → ClassId} {ad : Nat → Nat} {A : Nat → Prop} (B : zu_B p s m args c zb_Post_rightCells 6 "StonePost" D cA ad A) (hret : meth.sig.returnType = (some .int)) (hlk : meth.locks = false) {X : IX} {Y : LX} {res : Int32} {r1 : Nat} {a2 : Int32} (H : Heap) (locs : List Loc) (ls : Array Slot) (hP : va_P D zu_cl (zu_pic cA ad X Y) H) (hS : va_S A s.heap H locs) (hl : lv_has ls 6 [(0, .ref (ad 0)), (1, .ref (ad r1)), (2, .int a2)]) (hr1 : zu_kd r1 = 4) (hf : fn_Post_rightCells X r1 a2 = some res) : W p l e zR_Post_rightCells s m args below meth c H locs 0 0 (MQ below (zu_Qi D cA ad A res X Y) args s 0 0 A) (F0 m 0 ls []) := by
  obtain ⟨hx, hb, hml, hown, hts, hST⟩ := id B
  unfold fn_Post_rightCells at hf
  refine lv_iconst (v := 1) hx hb zd_Post_rightCells_0 (by decide) ?_
  refine lv_iload_n hx hb zd_Post_rightCells_1 rfl (lv_at hl 2 rfl) ?_
  refine lv_ishl hx hb zd_Post_rightCells_2 ?_
  refine zr_nxi hf (fun v1 hf => ?_)
  refine lv_istore_n (lv' := [(3, .int v1), (0, .ref (ad 0)), (1, .ref (ad r1)), (2, .int a2)]) hx hb zd_Post_rightCells_3 rfl hl (by decide) rfl (fun ls hl => ?_)
  refine lv_iconst (v := 0) hx hb zd_Post_rightCells_4 (by decide) ?_
  refine lv_istore (lv' := [(4, .int (0 : Int32)), (3, .int v1), (0, .ref (ad 0)), (1, .ref (ad r1)), (2, .int a2)]) hx hb zd_Post_rightCells_5 hl (by decide) rfl (fun ls hl => ?_)
  exact zl_Post_rightCells_L7 B hret hlk 400 r1 v1 (0 : Int32) _ _ _ hP hS (lv_sub hl [2, 3, 1, 0] rfl) hr1 hf
theorem zC_Post_rightCells (l : Launch) {D : va_G} {cA : Nat → ClassId} {ad : Nat → Nat} {A : Nat → Prop} {r1 : Nat} {a2 : Int32} {X : IX} {Y : LX} {res : Int32} (hr1 : zu_kd r1 = 4) (hf : fn_Post_rightCells X r1 a2 = some res) : Met l zm_Post_rightCells (zu_ws zm_Post_rightCells zb_Post_rightCells 6 (some .int)) zR_Post_rightCells (va_Pc [.ref (ad 0), .ref (ad r1), .int a2] (zu_Pre D cA ad A X Y)) (zu_Qi D cA ad A res X Y) 0 0 A := by
  refine Met.ofW (cc := zb_Post_rightCells) (maxL := 6) (ret := (some .int)) (by decide +kernel) rfl ?_
  intro p e s m args below meth c s₁ B0 hml hv
  obtain ⟨rfl, hP, hST⟩ := hv
  have B : zu_B p s m _ c zb_Post_rightCells 6 "StonePost" D cA ad A := ⟨B0.exec, B0.bytes, hml, findClass_of_methodNamed B0.named, (fun w hw => atoms_spec (ws := zu_ws zm_Post_rightCells zb_Post_rightCells 6 (some .int)) B0.pre w (List.mem_cons_of_mem _ hw)), hST⟩
  have hl := lv_entry ([.ref (ad 0), .ref (ad r1), .int a2]) (n := 6) (Nat.le_of_ble_eq_true rfl)
  rw [lg_entry_eq]
  generalize (lg_sl ([.ref (ad 0), .ref (ad r1), .int a2]) ++ List.replicate (6 - (lg_sl ([.ref (ad 0), .ref (ad r1), .int a2])).length) Slot.unset).toArray = ls at hl ⊢
  exact zl_Post_rightCells B B0.returns B0.notSynchronized s.heap [] ls hP va_S.rf hl hr1 hf
theorem zw_Post_rightCells {p : Program} {l : Launch} {e : Env} {R : Room} {s : State} {m : MethodId} {args : Array Value} {below : List Frame} {meth : Method} {c : Code} {H : Heap} {locs : List Loc} {cells slots : Nat} {Q : State → Prop} {cc : ByteArray} {pc nL : Nat} {ls : Array Slot} {rest st0 : List Value} {D : va_G} {cA : Nat → ClassId} {ad : Nat → Nat} {A : Nat → Prop} {X : IX} {Y : LX} {own : String} {index : Nat} {r1 : Nat} {a2 : Int32} {v1 : Int32} (B : zu_B p s m args c cc nL own D cA ad A) (hP : va_P D zu_cl (zu_pic cA ad X Y) H) (hS : va_S A s.heap H locs) (hr1 : zu_kd r1 = 4) (hq : fn_Post_rightCells X r1 a2 = some v1) (m1 : Cond.methodLink own index zm_Post_rightCells ∈ zu_TB) (hR1 : 4 + 1 ≤ R.frames) (hR2 : 8 + (6 + 11) + 92 ≤ R.locals) (hsz : ls.size = nL) (hst : st0 = .int a2 :: .ref (ad r1) :: .ref (ad 0) :: rest) (hw : (rest.map fun v => v.category).sum ≤ 8) (hdg : decode cc pc = .ok (.invokevirtual index, 3)) (h00 : cells ≤ R.cells ∧ slots ≤ R.slots) (kk : ∀ (H1 : Heap) (locs1 : List Loc), va_P D zu_cl (zu_pic cA ad X Y) H1 → va_S A s.heap H1 locs1 → W p l e R s m args below meth c H1 locs1 cells slots Q (F0 m (pc + 3) ls (.int v1 :: rest))) : W p l e R s m args below meth c H locs cells slots Q (F0 m pc ls st0) := by
  subst hst
  exact zr_cVi (As := [.ref (ad r1), .int a2]) (rest := rest) (n := 2) (C := "StonePost") (T := zt_Post) (N := 8) B hP hS (zC_Post_rightCells l hr1 hq) (K := 1) rfl (by decide) (by decide) rfl rfl m1 zq_825 zqP_19 zq_1 zq_826 (by decide +kernel) ⟨hR1, hR2⟩ rfl rfl rfl hsz rfl hw hdg h00 kk
abbrev zR_Post_judge : Room := { frames := 6, cells := 0, slots := 0, locals := 138 }
theorem zd_Post_judge_0 : decode zb_Post_judge 0 = .ok (.iload_n 1, 1) := by decide +kernel
theorem zd_Post_judge_1 : decode zb_Post_judge 1 = .ok (.invokestatic 254, 3) := by decide +kernel
theorem zd_Post_judge_4 : decode zb_Post_judge 4 = .ok (.ifCond .ne 10, 3) := by decide +kernel
theorem zd_Post_judge_7 : decode zb_Post_judge 7 = .ok (.aload_n 0, 1) := by decide +kernel
theorem zd_Post_judge_8 : decode zb_Post_judge 8 = .ok (.ldc 55, 2) := by decide +kernel
theorem zd_Post_judge_10 : decode zb_Post_judge 10 = .ok (.invokevirtual 56, 3) := by decide +kernel
theorem zd_Post_judge_13 : decode zb_Post_judge 13 = .ok (.ireturn, 1) := by decide +kernel
theorem zd_Post_judge_14 : decode zb_Post_judge 14 = .ok (.aload_n 0, 1) := by decide +kernel
theorem zd_Post_judge_15 : decode zb_Post_judge 15 = .ok (.getfield 38, 3) := by decide +kernel
theorem zd_Post_judge_18 : decode zb_Post_judge 18 = .ok (.iload_n 1, 1) := by decide +kernel
theorem zd_Post_judge_19 : decode zb_Post_judge 19 = .ok (.aaload, 1) := by decide +kernel
theorem zd_Post_judge_20 : decode zb_Post_judge 20 = .ok (.invokevirtual 264, 3) := by decide +kernel
theorem zd_Post_judge_23 : decode zb_Post_judge 23 = .ok (.ifCond .eq 10, 3) := by decide +kernel
theorem zd_Post_judge_26 : decode zb_Post_judge 26 = .ok (.aload_n 0, 1) := by decide +kernel
theorem zd_Post_judge_27 : decode zb_Post_judge 27 = .ok (.ldc 249, 2) := by decide +kernel
theorem zd_Post_judge_29 : decode zb_Post_judge 29 = .ok (.invokevirtual 56, 3) := by decide +kernel
theorem zd_Post_judge_32 : decode zb_Post_judge 32 = .ok (.ireturn, 1) := by decide +kernel
theorem zd_Post_judge_33 : decode zb_Post_judge 33 = .ok (.aload_n 0, 1) := by decide +kernel
theorem zd_Post_judge_34 : decode zb_Post_judge 34 = .ok (.iload_n 2, 1) := by decide +kernel
theorem zd_Post_judge_35 : decode zb_Post_judge 35 = .ok (.invokevirtual 124, 3) := by decide +kernel
theorem zd_Post_judge_38 : decode zb_Post_judge 38 = .ok (.ifCond .ne 10, 3) := by decide +kernel
theorem zd_Post_judge_41 : decode zb_Post_judge 41 = .ok (.aload_n 0, 1) := by decide +kernel
theorem zd_Post_judge_42 : decode zb_Post_judge 42 = .ok (.ldc 55, 2) := by decide +kernel
theorem zd_Post_judge_44 : decode zb_Post_judge 44 = .ok (.invokevirtual 56, 3) := by decide +kernel
theorem zd_Post_judge_47 : decode zb_Post_judge 47 = .ok (.ireturn, 1) := by decide +kernel
theorem zd_Post_judge_48 : decode zb_Post_judge 48 = .ok (.aload_n 0, 1) := by decide +kernel
theorem zd_Post_judge_49 : decode zb_Post_judge 49 = .ok (.getfield 25, 3) := by decide +kernel
theorem zd_Post_judge_52 : decode zb_Post_judge 52 = .ok (.aload_n 0, 1) := by decide +kernel
theorem zd_Post_judge_53 : decode zb_Post_judge 53 = .ok (.getfield 10, 3) := by decide +kernel
theorem zd_Post_judge_56 : decode zb_Post_judge 56 = .ok (.invokevirtual 136, 3) := by decide +kernel
theorem zd_Post_judge_59 : decode zb_Post_judge 59 = .ok (.aload_n 0, 1) := by decide +kernel
theorem zd_Post_judge_60 : decode zb_Post_judge 60 = .ok (.aload_n 0, 1) := by decide +kernel
theorem zd_Post_judge_61 : decode zb_Post_judge 61 = .ok (.getfield 38, 3) := by decide +kernel
theorem zd_Post_judge_64 : decode zb_Post_judge 64 = .ok (.iload_n 1, 1) := by decide +kernel
theorem zd_Post_judge_65 : decode zb_Post_judge 65 = .ok (.aaload, 1) := by decide +kernel
theorem zd_Post_judge_66 : decode zb_Post_judge 66 = .ok (.aload_n 0, 1) := by decide +kernel
theorem zd_Post_judge_67 : decode zb_Post_judge 67 = .ok (.getfield 10, 3) := by decide +kernel
theorem zd_Post_judge_70 : decode zb_Post_judge 70 = .ok (.getfield 127, 3) := by decide +kernel
theorem zd_Post_judge_73 : decode zb_Post_judge 73 = .ok (.iload_n 2, 1) := by decide +kernel
theorem zd_Post_judge_74 : decode zb_Post_judge 74 = .ok (.iaload, 1) := by decide +kernel
theorem zd_Post_judge_75 : decode zb_Post_judge 75 = .ok (.invokevirtual 285, 3) := by decide +kernel
theorem zd_Post_judge_78 : decode zb_Post_judge 78 = .ok (.istore_n 3, 1) := by decide +kernel
theorem zd_Post_judge_79 : decode zb_Post_judge 79 = .ok (.iload_n 3, 1) := by decide +kernel
theorem zd_Post_judge_80 : decode zb_Post_judge 80 = .ok (.aload_n 0, 1) := by decide +kernel
theorem zd_Post_judge_81 : decode zb_Post_judge 81 = .ok (.getfield 38, 3) := by decide +kernel
theorem zd_Post_judge_84 : decode zb_Post_judge 84 = .ok (.iload_n 1, 1) := by decide +kernel
theorem zd_Post_judge_85 : decode zb_Post_judge 85 = .ok (.aaload, 1) := by decide +kernel
theorem zd_Post_judge_86 : decode zb_Post_judge 86 = .ok (.getfield 263, 3) := by decide +kernel
theorem zd_Post_judge_89 : decode zb_Post_judge 89 = .ok (.if_icmp .ne 7, 3) := by decide +kernel
theorem zd_Post_judge_92 : decode zb_Post_judge 92 = .ok (.iconst 0, 1) := by decide +kernel
theorem zd_Post_judge_93 : decode zb_Post_judge 93 = .ok (.goto 6, 3) := by decide +kernel
theorem zd_Post_judge_96 : decode zb_Post_judge 96 = .ok (.iconst 1, 1) := by decide +kernel
theorem zd_Post_judge_97 : decode zb_Post_judge 97 = .ok (.iload_n 3, 1) := by decide +kernel
theorem zd_Post_judge_98 : decode zb_Post_judge 98 = .ok (.iadd, 1) := by decide +kernel
theorem zd_Post_judge_99 : decode zb_Post_judge 99 = .ok (.ireturn, 1) := by decide +kernel
set_option maxHeartbeats 4000000 in
theorem zl_Post_judge_L99 {p : Program} {l : Launch} {e : Env} {s : State} {m : MethodId} {args : Array Value} {below : List Frame} {meth : Method} {c : Code} {D : va_G} {cA : Nat → ClassId} {ad : Nat → Nat} {A : Nat → Prop} (B : zu_B p s m args c zb_Post_judge 4 "StonePost" D cA ad A) (hret : meth.sig.returnType = (some .int)) (hlk : meth.locks = false) {Y : LX} {res : Int32 × IX} (y0 : Int32) (X : IX) (H : Heap) (locs : List Loc) (ls : Array Slot) (hP : va_P D zu_cl (zu_pic cA ad X Y) H) (hS : va_S A s.heap H locs) (hl : lv_has ls 4 []) (hf : fn_Post_judge_L99 y0 X = some res) : W p l e zR_Post_judge s m args below meth c H locs 0 0 (MQ below (zu_Qi D cA ad A res.1 res.2 Y) args s 0 0 A) (F0 m 99 ls [.int y0]) := by
  obtain ⟨hx, hb, hml, hown, hts, hST⟩ := id B
  unfold fn_Post_judge_L99 at hf
  obtain rfl := Option.some.inj hf
  exact zr_iret hx hb hret hlk hP hS zd_Post_judge_99
set_option maxHeartbeats 4000000 in
theorem zl_Post_judge {p : Program} {l : Launch} {e : Env} {s : State} {m : MethodId} {args : Array Value} {below : List Frame} {meth : Method} {c : Code} {D : va_G} {cA : Nat → ClassId} {ad : Nat → Nat} {A : Nat → Prop} (B : zu_B p s m args c zb_Post_judge 4 "StonePost" D cA ad A) (hret : meth.sig.returnType = (some .int)) (hlk : meth.locks = false) {Y : LX} {res : Int32 × IX} {a1 : Int32} {a2 : Int32} {X : IX} (H : Heap) (locs : List Loc) (ls : Array Slot) (hP : va_P D zu_cl (zu_pic cA ad X Y) H) (hS : va_S A s.heap H locs) (hl : lv_has ls 4 [(0, .ref (ad 0)), (1, .int a1), (2, .int a2)]) (hf : fn_Post_judge a1 a2 X = some res) : W p l e zR_Post_judge s m args below meth c H locs 0 0 (MQ below (zu_Qi D cA ad A res.1 res.2 Y) args s 0 0 A) (F0 m 0 ls []) := by
  obtain ⟨hx, hb, hml, hown, hts, hST⟩ := id B
  unfold fn_Post_judge at hf
  refine lv_iload_n hx hb zd_Post_judge_0 rfl (lv_at hl 1 rfl) ?_
  obtain ⟨v1, hq2, hf⟩ := zu_b1_e hf
  refine zw_Post_isSheet (rest := []) B hP hS hq2 zq_783 (Nat.le_of_ble_eq_true rfl) (Nat.le_of_ble_eq_true rfl) hl.1 rfl (Nat.le_of_ble_eq_true rfl) zd_Post_judge_1 (by decide) (fun H locs hP hS => ?_)
  clear hq2
  refine lv_if_ne (tgt := 14) hx hb zd_Post_judge_4 (by decide) (fun c3 => ?_) (fun c3 => ?_)
  · have hf := zu_f c3 hf
    refine lv_aload_n hx hb zd_Post_judge_14 rfl (lv_at hl 0 rfl) ?_
    refine zg_Post_sheets B hP rfl zq_196 zd_Post_judge_15 ?_
    refine lv_iload_n hx hb zd_Post_judge_18 rfl (lv_at hl 1 rfl) ?_
    obtain ⟨hg4, hf⟩ := zu_gd_e hf
    refine zr_she rfl B hP rfl hg4 zd_Post_judge_19 ?_
    obtain ⟨v5, hq6, hf⟩ := zu_b1_e hf
    refine zw_Sheet_isMissing (rest := []) B hP hS (zk_she (zu_ib_lt hg4)) hq6 zq_798 (Nat.le_of_ble_eq_true rfl) (Nat.le_of_ble_eq_true rfl) hl.1 rfl (Nat.le_of_ble_eq_true rfl) zd_Post_judge_20 (by decide) (fun H locs hP hS => ?_)
    clear hq6
    refine lv_if_eq (tgt := 33) hx hb zd_Post_judge_23 (by decide) (fun c7 => ?_) (fun c7 => ?_)
    · have hf := zu_t c7 hf
      refine lv_aload_n hx hb zd_Post_judge_33 rfl (lv_at hl 0 rfl) ?_
      refine lv_iload_n hx hb zd_Post_judge_34 rfl (lv_at hl 2 rfl) ?_
      obtain ⟨v8, hq9, hf⟩ := zu_b1_e hf
      refine zw_Post_isLetter (rest := []) B hP hS hq9 zq_370 (Nat.le_of_ble_eq_true rfl) (Nat.le_of_ble_eq_true rfl) hl.1 rfl (Nat.le_of_ble_eq_true rfl) zd_Post_judge_35 (by decide) (fun H locs hP hS => ?_)
      clear hq9
      refine lv_if_ne (tgt := 48) hx hb zd_Post_judge_38 (by decide) (fun c10 => ?_) (fun c10 => ?_)
      · have hf := zu_f c10 hf
        refine lv_aload_n hx hb zd_Post_judge_48 rfl (lv_at hl 0 rfl) ?_
        refine zg_Post_chart B hP rfl zq_194 zd_Post_judge_49 ?_
        refine lv_aload_n hx hb zd_Post_judge_52 rfl (lv_at hl 0 rfl) ?_
        refine zg_Post_land B hP rfl zq_191 zd_Post_judge_53 ?_
        obtain ⟨X11, hq12, hf⟩ := zu_b1_e hf
        refine zw_Chart_lay (rest := []) B hP hS rfl hq12 zq_382 (Nat.le_of_ble_eq_true rfl) (Nat.le_of_ble_eq_true rfl) hl.1 rfl (Nat.le_of_ble_eq_true rfl) zd_Post_judge_56 (by decide) (fun H locs hP hS => ?_)
        clear hq12
        refine lv_aload_n hx hb zd_Post_judge_59 rfl (lv_at hl 0 rfl) ?_
        refine lv_aload_n hx hb zd_Post_judge_60 rfl (lv_at hl 0 rfl) ?_
        refine zg_Post_sheets B hP rfl zq_196 zd_Post_judge_61 ?_
        refine lv_iload_n hx hb zd_Post_judge_64 rfl (lv_at hl 1 rfl) ?_
        obtain ⟨hg13, hf⟩ := zu_gd_e hf
        refine zr_she rfl B hP rfl hg13 zd_Post_judge_65 ?_
        refine lv_aload_n hx hb zd_Post_judge_66 rfl (lv_at hl 0 rfl) ?_
        refine zg_Post_land B hP rfl zq_191 zd_Post_judge_67 ?_
        refine zg_Land_letterCells B hP rfl zq_58 zd_Post_judge_70 ?_
        refine lv_iload_n hx hb zd_Post_judge_73 rfl (lv_at hl 2 rfl) ?_
        obtain ⟨hg14, hf⟩ := zu_gd_e hf
        refine zr_iald rfl B hP (zk_Land_letterCells rfl) (by decide) rfl hg14 zd_Post_judge_74 ?_
        obtain ⟨v15, hq16, hf⟩ := zu_b1_e hf
        refine zw_Post_rightCells (rest := []) B hP hS (zk_she (zu_ib_lt hg13)) hq16 zq_823 (Nat.le_of_ble_eq_true rfl) (Nat.le_of_ble_eq_true rfl) hl.1 rfl (Nat.le_of_ble_eq_true rfl) zd_Post_judge_75 (by decide) (fun H locs hP hS => ?_)
        clear hq16
        refine lv_istore_n (lv' := [(3, .int v15), (0, .ref (ad 0)), (1, .int a1), (2, .int a2)]) hx hb zd_Post_judge_78 rfl hl (by decide) rfl (fun ls hl => ?_)
        refine lv_iload_n hx hb zd_Post_judge_79 rfl (lv_at hl 0 rfl) ?_
        refine lv_aload_n hx hb zd_Post_judge_80 rfl (lv_at hl 1 rfl) ?_
        refine zg_Post_sheets B hP rfl zq_196 zd_Post_judge_81 ?_
        refine lv_iload_n hx hb zd_Post_judge_84 rfl (lv_at hl 2 rfl) ?_
        obtain ⟨hg17, hf⟩ := zu_gd_e hf
        refine zr_she rfl B hP rfl hg17 zd_Post_judge_85 ?_
        refine zg_Sheet_length B hP (zk_she (zu_ib_lt hg17)) zq_183 zd_Post_judge_86 ?_
        refine lv_icmp_ne (tgt := 96) hx hb zd_Post_judge_89 (by decide) (fun c18 => ?_) (fun c18 => ?_)
        · have hf := zu_f c18 hf
          refine lv_iconst (v := 1) hx hb zd_Post_judge_96 (by decide) ?_
          refine lv_iload_n hx hb zd_Post_judge_97 rfl (lv_at hl 0 rfl) ?_
          refine lv_iadd hx hb zd_Post_judge_98 ?_
          exact zl_Post_judge_L99 B hret hlk ((1 : Int32) + v15) X11 _ _ _ hP hS (lv_sub hl [] rfl) hf
        · have hf := zu_t c18 hf
          refine lv_iconst (v := 0) hx hb zd_Post_judge_92 (by decide) ?_
          refine lv_goto (tgt := 99) hx hb zd_Post_judge_93 (by decide) ?_
          exact zl_Post_judge_L99 B hret hlk (0 : Int32) X11 _ _ _ hP hS (lv_sub hl [] rfl) hf
      · have hf := zu_t c10 hf
        refine lv_aload_n hx hb zd_Post_judge_41 rfl (lv_at hl 0 rfl) ?_
        refine lv_ldc (v := -1000001) hx hb hown (hts _ zq_226) zd_Post_judge_42 ?_
        obtain ⟨v19, X20, hq21, hf⟩ := zu_b2_e hf
        refine zw_Post_finding (rest := []) B hP hS hq21 zq_227 (Nat.le_of_ble_eq_true rfl) (Nat.le_of_ble_eq_true rfl) hl.1 rfl (Nat.le_of_ble_eq_true rfl) zd_Post_judge_44 (by decide) (fun H locs hP hS => ?_)
        clear hq21
        obtain rfl := Option.some.inj hf
        exact zr_iret hx hb hret hlk hP hS zd_Post_judge_47
    · have hf := zu_f c7 hf
      refine lv_aload_n hx hb zd_Post_judge_26 rfl (lv_at hl 0 rfl) ?_
      refine lv_ldc (v := -1000006) hx hb hown (hts _ zq_770) zd_Post_judge_27 ?_
      obtain ⟨v22, X23, hq24, hf⟩ := zu_b2_e hf
      refine zw_Post_finding (rest := []) B hP hS hq24 zq_227 (Nat.le_of_ble_eq_true rfl) (Nat.le_of_ble_eq_true rfl) hl.1 rfl (Nat.le_of_ble_eq_true rfl) zd_Post_judge_29 (by decide) (fun H locs hP hS => ?_)
      clear hq24
      obtain rfl := Option.some.inj hf
      exact zr_iret hx hb hret hlk hP hS zd_Post_judge_32
  · have hf := zu_t c3 hf
    refine lv_aload_n hx hb zd_Post_judge_7 rfl (lv_at hl 0 rfl) ?_
    refine lv_ldc (v := -1000001) hx hb hown (hts _ zq_226) zd_Post_judge_8 ?_
    obtain ⟨v25, X26, hq27, hf⟩ := zu_b2_e hf
    refine zw_Post_finding (rest := []) B hP hS hq27 zq_227 (Nat.le_of_ble_eq_true rfl) (Nat.le_of_ble_eq_true rfl) hl.1 rfl (Nat.le_of_ble_eq_true rfl) zd_Post_judge_10 (by decide) (fun H locs hP hS => ?_)
    clear hq27
    obtain rfl := Option.some.inj hf
    exact zr_iret hx hb hret hlk hP hS zd_Post_judge_13
theorem zC_Post_judge (l : Launch) {D : va_G} {cA : Nat → ClassId} {ad : Nat → Nat} {A : Nat → Prop} {a1 : Int32} {a2 : Int32} {X : IX} {Y : LX} {res : Int32 × IX} (hf : fn_Post_judge a1 a2 X = some res) : Met l zm_Post_judge (zu_ws zm_Post_judge zb_Post_judge 4 (some .int)) zR_Post_judge (va_Pc [.ref (ad 0), .int a1, .int a2] (zu_Pre D cA ad A X Y)) (zu_Qi D cA ad A res.1 res.2 Y) 0 0 A := by
  refine Met.ofW (cc := zb_Post_judge) (maxL := 4) (ret := (some .int)) (by decide +kernel) rfl ?_
  intro p e s m args below meth c s₁ B0 hml hv
  obtain ⟨rfl, hP, hST⟩ := hv
  have B : zu_B p s m _ c zb_Post_judge 4 "StonePost" D cA ad A := ⟨B0.exec, B0.bytes, hml, findClass_of_methodNamed B0.named, (fun w hw => atoms_spec (ws := zu_ws zm_Post_judge zb_Post_judge 4 (some .int)) B0.pre w (List.mem_cons_of_mem _ hw)), hST⟩
  have hl := lv_entry ([.ref (ad 0), .int a1, .int a2]) (n := 4) (Nat.le_of_ble_eq_true rfl)
  rw [lg_entry_eq]
  generalize (lg_sl ([.ref (ad 0), .int a1, .int a2]) ++ List.replicate (4 - (lg_sl ([.ref (ad 0), .int a1, .int a2])).length) Slot.unset).toArray = ls at hl ⊢
  exact zl_Post_judge B B0.returns B0.notSynchronized s.heap [] ls hP va_S.rf hl  hf
theorem zw_Post_judge {p : Program} {l : Launch} {e : Env} {R : Room} {s : State} {m : MethodId} {args : Array Value} {below : List Frame} {meth : Method} {c : Code} {H : Heap} {locs : List Loc} {cells slots : Nat} {Q : State → Prop} {cc : ByteArray} {pc nL : Nat} {ls : Array Slot} {rest st0 : List Value} {D : va_G} {cA : Nat → ClassId} {ad : Nat → Nat} {A : Nat → Prop} {X : IX} {Y : LX} {own : String} {index : Nat} {a1 : Int32} {a2 : Int32} {v1 : Int32} {X1 : IX} (B : zu_B p s m args c cc nL own D cA ad A) (hP : va_P D zu_cl (zu_pic cA ad X Y) H) (hS : va_S A s.heap H locs) (hq : fn_Post_judge a1 a2 X = some (v1, X1)) (m1 : Cond.methodLink own index zm_Post_judge ∈ zu_TB) (hR1 : 6 + 1 ≤ R.frames) (hR2 : 8 + (4 + 11) + 138 ≤ R.locals) (hsz : ls.size = nL) (hst : st0 = .int a2 :: .int a1 :: .ref (ad 0) :: rest) (hw : (rest.map fun v => v.category).sum ≤ 8) (hdg : decode cc pc = .ok (.invokevirtual index, 3)) (h00 : cells ≤ R.cells ∧ slots ≤ R.slots) (kk : ∀ (H1 : Heap) (locs1 : List Loc), va_P D zu_cl (zu_pic cA ad X1 Y) H1 → va_S A s.heap H1 locs1 → W p l e R s m args below meth c H1 locs1 cells slots Q (F0 m (pc + 3) ls (.int v1 :: rest))) : W p l e R s m args below meth c H locs cells slots Q (F0 m pc ls st0) := by
  subst hst
  exact zr_cVi (As := [.int a1, .int a2]) (rest := rest) (n := 2) (C := "StonePost") (T := zt_Post) (N := 8) B hP hS (zC_Post_judge l  hq) (K := 1) rfl (by decide) (by decide) rfl rfl m1 zq_820 zq_821 zq_1 zq_822 (by decide +kernel) ⟨hR1, hR2⟩ rfl rfl rfl hsz rfl hw hdg h00 kk
abbrev zR_Post_image : Room := { frames := 2, cells := 0, slots := 0, locals := 48 }
theorem zd_Post_image_0 : decode zb_Post_image 0 = .ok (.aload_n 0, 1) := by decide +kernel
theorem zd_Post_image_1 : decode zb_Post_image 1 = .ok (.getfield 16, 3) := by decide +kernel
theorem zd_Post_image_4 : decode zb_Post_image 4 = .ok (.aload_n 0, 1) := by decide +kernel
theorem zd_Post_image_5 : decode zb_Post_image 5 = .ok (.getfield 10, 3) := by decide +kernel
theorem zd_Post_image_8 : decode zb_Post_image 8 = .ok (.invokevirtual 197, 3) := by decide +kernel
theorem zd_Post_image_11 : decode zb_Post_image 11 = .ok (.aload_n 0, 1) := by decide +kernel
theorem zd_Post_image_12 : decode zb_Post_image 12 = .ok (.iconst 1, 1) := by decide +kernel
theorem zd_Post_image_13 : decode zb_Post_image 13 = .ok (.putfield 289, 3) := by decide +kernel
theorem zd_Post_image_16 : decode zb_Post_image 16 = .ok (.iconst 1, 1) := by decide +kernel
theorem zd_Post_image_17 : decode zb_Post_image 17 = .ok (.ireturn, 1) := by decide +kernel
set_option maxHeartbeats 4000000 in
theorem zl_Post_image {p : Program} {l : Launch} {e : Env} {s : State} {m : MethodId} {args : Array Value} {below : List Frame} {meth : Method} {c : Code} {D : va_G} {cA : Nat → ClassId} {ad : Nat → Nat} {A : Nat → Prop} (B : zu_B p s m args c zb_Post_image 1 "StonePost" D cA ad A) (hret : meth.sig.returnType = (some .int)) (hlk : meth.locks = false) {Y : LX} {res : Int32 × IX} {X : IX} (H : Heap) (locs : List Loc) (ls : Array Slot) (hP : va_P D zu_cl (zu_pic cA ad X Y) H) (hS : va_S A s.heap H locs) (hl : lv_has ls 1 [(0, .ref (ad 0))]) (hf : fn_Post_image X = some res) : W p l e zR_Post_image s m args below meth c H locs 0 0 (MQ below (zu_Qi D cA ad A res.1 res.2 Y) args s 0 0 A) (F0 m 0 ls []) := by
  obtain ⟨hx, hb, hml, hown, hts, hST⟩ := id B
  unfold fn_Post_image at hf
  refine lv_aload_n hx hb zd_Post_image_0 rfl (lv_at hl 0 rfl) ?_
  refine zg_Post_kept B hP rfl zq_192 zd_Post_image_1 ?_
  refine lv_aload_n hx hb zd_Post_image_4 rfl (lv_at hl 0 rfl) ?_
  refine zg_Post_land B hP rfl zq_191 zd_Post_image_5 ?_
  obtain ⟨X1, hq2, hf⟩ := zu_b1_e hf
  refine zw_Land_become (rest := []) B hP hS rfl rfl hq2 zq_539 (Nat.le_of_ble_eq_true rfl) (Nat.le_of_ble_eq_true rfl) hl.1 rfl (Nat.le_of_ble_eq_true rfl) zd_Post_image_8 (by decide) (fun H locs hP hS => ?_)
  clear hq2
  refine lv_aload_n hx hb zd_Post_image_11 rfl (lv_at hl 0 rfl) ?_
  refine lv_iconst (v := 1) hx hb zd_Post_image_12 (by decide) ?_
  refine zp_Post_isKept B hP hS hf rfl rfl zq_198 zd_Post_image_13 (fun X3 H locs hf hP hS => ?_)
  refine lv_iconst (v := 1) hx hb zd_Post_image_16 (by decide) ?_
  obtain rfl := Option.some.inj hf
  exact zr_iret hx hb hret hlk hP hS zd_Post_image_17
theorem zC_Post_image (l : Launch) {D : va_G} {cA : Nat → ClassId} {ad : Nat → Nat} {A : Nat → Prop} {X : IX} {Y : LX} {res : Int32 × IX} (hf : fn_Post_image X = some res) : Met l zm_Post_image (zu_ws zm_Post_image zb_Post_image 1 (some .int)) zR_Post_image (va_Pc [.ref (ad 0)] (zu_Pre D cA ad A X Y)) (zu_Qi D cA ad A res.1 res.2 Y) 0 0 A := by
  refine Met.ofW (cc := zb_Post_image) (maxL := 1) (ret := (some .int)) (by decide +kernel) rfl ?_
  intro p e s m args below meth c s₁ B0 hml hv
  obtain ⟨rfl, hP, hST⟩ := hv
  have B : zu_B p s m _ c zb_Post_image 1 "StonePost" D cA ad A := ⟨B0.exec, B0.bytes, hml, findClass_of_methodNamed B0.named, (fun w hw => atoms_spec (ws := zu_ws zm_Post_image zb_Post_image 1 (some .int)) B0.pre w (List.mem_cons_of_mem _ hw)), hST⟩
  have hl := lv_entry ([.ref (ad 0)]) (n := 1) (Nat.le_of_ble_eq_true rfl)
  rw [lg_entry_eq]
  generalize (lg_sl ([.ref (ad 0)]) ++ List.replicate (1 - (lg_sl ([.ref (ad 0)])).length) Slot.unset).toArray = ls at hl ⊢
  exact zl_Post_image B B0.returns B0.notSynchronized s.heap [] ls hP va_S.rf hl  hf
theorem zw_Post_image {p : Program} {l : Launch} {e : Env} {R : Room} {s : State} {m : MethodId} {args : Array Value} {below : List Frame} {meth : Method} {c : Code} {H : Heap} {locs : List Loc} {cells slots : Nat} {Q : State → Prop} {cc : ByteArray} {pc nL : Nat} {ls : Array Slot} {rest st0 : List Value} {D : va_G} {cA : Nat → ClassId} {ad : Nat → Nat} {A : Nat → Prop} {X : IX} {Y : LX} {own : String} {index : Nat} {v1 : Int32} {X1 : IX} (B : zu_B p s m args c cc nL own D cA ad A) (hP : va_P D zu_cl (zu_pic cA ad X Y) H) (hS : va_S A s.heap H locs) (hq : fn_Post_image X = some (v1, X1)) (m1 : Cond.methodLink own index zm_Post_image ∈ zu_TB) (hR1 : 2 + 1 ≤ R.frames) (hR2 : 8 + (1 + 11) + 48 ≤ R.locals) (hsz : ls.size = nL) (hst : st0 = .ref (ad 0) :: rest) (hw : (rest.map fun v => v.category).sum ≤ 8) (hdg : decode cc pc = .ok (.invokevirtual index, 3)) (h00 : cells ≤ R.cells ∧ slots ≤ R.slots) (kk : ∀ (H1 : Heap) (locs1 : List Loc), va_P D zu_cl (zu_pic cA ad X1 Y) H1 → va_S A s.heap H1 locs1 → W p l e R s m args below meth c H1 locs1 cells slots Q (F0 m (pc + 3) ls (.int v1 :: rest))) : W p l e R s m args below meth c H locs cells slots Q (F0 m pc ls st0) := by
  subst hst
  exact zr_cVi (As := []) (rest := rest) (n := 0) (C := "StonePost") (T := zt_Post) (N := 8) B hP hS (zC_Post_image l  hq) (K := 1) rfl (by decide) (by decide) rfl rfl m1 zq_828 zq_829 zq_1 zq_830 (by decide +kernel) ⟨hR1, hR2⟩ rfl rfl rfl hsz rfl hw hdg h00 kk
abbrev zR_Post_undo : Room := { frames := 2, cells := 0, slots := 0, locals := 48 }
theorem zd_Post_undo_0 : decode zb_Post_undo 0 = .ok (.aload_n 0, 1) := by decide +kernel
theorem zd_Post_undo_1 : decode zb_Post_undo 1 = .ok (.getfield 289, 3) := by decide +kernel
theorem zd_Post_undo_4 : decode zb_Post_undo 4 = .ok (.ifCond .ne 10, 3) := by decide +kernel
theorem zd_Post_undo_7 : decode zb_Post_undo 7 = .ok (.aload_n 0, 1) := by decide +kernel
theorem zd_Post_undo_8 : decode zb_Post_undo 8 = .ok (.ldc 120, 2) := by decide +kernel
theorem zd_Post_undo_10 : decode zb_Post_undo 10 = .ok (.invokevirtual 56, 3) := by decide +kernel
theorem zd_Post_undo_13 : decode zb_Post_undo 13 = .ok (.ireturn, 1) := by decide +kernel
theorem zd_Post_undo_14 : decode zb_Post_undo 14 = .ok (.aload_n 0, 1) := by decide +kernel
theorem zd_Post_undo_15 : decode zb_Post_undo 15 = .ok (.getfield 10, 3) := by decide +kernel
theorem zd_Post_undo_18 : decode zb_Post_undo 18 = .ok (.aload_n 0, 1) := by decide +kernel
theorem zd_Post_undo_19 : decode zb_Post_undo 19 = .ok (.getfield 16, 3) := by decide +kernel
theorem zd_Post_undo_22 : decode zb_Post_undo 22 = .ok (.invokevirtual 197, 3) := by decide +kernel
theorem zd_Post_undo_25 : decode zb_Post_undo 25 = .ok (.aload_n 0, 1) := by decide +kernel
theorem zd_Post_undo_26 : decode zb_Post_undo 26 = .ok (.getfield 10, 3) := by decide +kernel
theorem zd_Post_undo_29 : decode zb_Post_undo 29 = .ok (.getfield 133, 3) := by decide +kernel
theorem zd_Post_undo_32 : decode zb_Post_undo 32 = .ok (.ireturn, 1) := by decide +kernel
set_option maxHeartbeats 4000000 in
theorem zl_Post_undo {p : Program} {l : Launch} {e : Env} {s : State} {m : MethodId} {args : Array Value} {below : List Frame} {meth : Method} {c : Code} {D : va_G} {cA : Nat → ClassId} {ad : Nat → Nat} {A : Nat → Prop} (B : zu_B p s m args c zb_Post_undo 1 "StonePost" D cA ad A) (hret : meth.sig.returnType = (some .int)) (hlk : meth.locks = false) {Y : LX} {res : Int32 × IX} {X : IX} (H : Heap) (locs : List Loc) (ls : Array Slot) (hP : va_P D zu_cl (zu_pic cA ad X Y) H) (hS : va_S A s.heap H locs) (hl : lv_has ls 1 [(0, .ref (ad 0))]) (hf : fn_Post_undo X = some res) : W p l e zR_Post_undo s m args below meth c H locs 0 0 (MQ below (zu_Qi D cA ad A res.1 res.2 Y) args s 0 0 A) (F0 m 0 ls []) := by
  obtain ⟨hx, hb, hml, hown, hts, hST⟩ := id B
  unfold fn_Post_undo at hf
  refine lv_aload_n hx hb zd_Post_undo_0 rfl (lv_at hl 0 rfl) ?_
  refine zg_Post_isKept B hP rfl zq_198 zd_Post_undo_1 ?_
  refine lv_if_ne (tgt := 14) hx hb zd_Post_undo_4 (by decide) (fun c1 => ?_) (fun c1 => ?_)
  · have hf := zu_f c1 hf
    refine lv_aload_n hx hb zd_Post_undo_14 rfl (lv_at hl 0 rfl) ?_
    refine zg_Post_land B hP rfl zq_191 zd_Post_undo_15 ?_
    refine lv_aload_n hx hb zd_Post_undo_18 rfl (lv_at hl 0 rfl) ?_
    refine zg_Post_kept B hP rfl zq_192 zd_Post_undo_19 ?_
    obtain ⟨X2, hq3, hf⟩ := zu_b1_e hf
    refine zw_Land_become (rest := []) B hP hS rfl rfl hq3 zq_539 (Nat.le_of_ble_eq_true rfl) (Nat.le_of_ble_eq_true rfl) hl.1 rfl (Nat.le_of_ble_eq_true rfl) zd_Post_undo_22 (by decide) (fun H locs hP hS => ?_)
    clear hq3
    refine lv_aload_n hx hb zd_Post_undo_25 rfl (lv_at hl 0 rfl) ?_
    refine zg_Post_land B hP rfl zq_191 zd_Post_undo_26 ?_
    refine zg_Land_hour B hP rfl zq_76 zd_Post_undo_29 ?_
    obtain rfl := Option.some.inj hf
    exact zr_iret hx hb hret hlk hP hS zd_Post_undo_32
  · have hf := zu_t c1 hf
    refine lv_aload_n hx hb zd_Post_undo_7 rfl (lv_at hl 0 rfl) ?_
    refine lv_ldc (v := -1000004) hx hb hown (hts _ zq_357) zd_Post_undo_8 ?_
    obtain ⟨v4, X5, hq6, hf⟩ := zu_b2_e hf
    refine zw_Post_finding (rest := []) B hP hS hq6 zq_227 (Nat.le_of_ble_eq_true rfl) (Nat.le_of_ble_eq_true rfl) hl.1 rfl (Nat.le_of_ble_eq_true rfl) zd_Post_undo_10 (by decide) (fun H locs hP hS => ?_)
    clear hq6
    obtain rfl := Option.some.inj hf
    exact zr_iret hx hb hret hlk hP hS zd_Post_undo_13
theorem zC_Post_undo (l : Launch) {D : va_G} {cA : Nat → ClassId} {ad : Nat → Nat} {A : Nat → Prop} {X : IX} {Y : LX} {res : Int32 × IX} (hf : fn_Post_undo X = some res) : Met l zm_Post_undo (zu_ws zm_Post_undo zb_Post_undo 1 (some .int)) zR_Post_undo (va_Pc [.ref (ad 0)] (zu_Pre D cA ad A X Y)) (zu_Qi D cA ad A res.1 res.2 Y) 0 0 A := by
  refine Met.ofW (cc := zb_Post_undo) (maxL := 1) (ret := (some .int)) (by decide +kernel) rfl ?_
  intro p e s m args below meth c s₁ B0 hml hv
  obtain ⟨rfl, hP, hST⟩ := hv
  have B : zu_B p s m _ c zb_Post_undo 1 "StonePost" D cA ad A := ⟨B0.exec, B0.bytes, hml, findClass_of_methodNamed B0.named, (fun w hw => atoms_spec (ws := zu_ws zm_Post_undo zb_Post_undo 1 (some .int)) B0.pre w (List.mem_cons_of_mem _ hw)), hST⟩
  have hl := lv_entry ([.ref (ad 0)]) (n := 1) (Nat.le_of_ble_eq_true rfl)
  rw [lg_entry_eq]
  generalize (lg_sl ([.ref (ad 0)]) ++ List.replicate (1 - (lg_sl ([.ref (ad 0)])).length) Slot.unset).toArray = ls at hl ⊢
  exact zl_Post_undo B B0.returns B0.notSynchronized s.heap [] ls hP va_S.rf hl  hf
theorem zw_Post_undo {p : Program} {l : Launch} {e : Env} {R : Room} {s : State} {m : MethodId} {args : Array Value} {below : List Frame} {meth : Method} {c : Code} {H : Heap} {locs : List Loc} {cells slots : Nat} {Q : State → Prop} {cc : ByteArray} {pc nL : Nat} {ls : Array Slot} {rest st0 : List Value} {D : va_G} {cA : Nat → ClassId} {ad : Nat → Nat} {A : Nat → Prop} {X : IX} {Y : LX} {own : String} {index : Nat} {v1 : Int32} {X1 : IX} (B : zu_B p s m args c cc nL own D cA ad A) (hP : va_P D zu_cl (zu_pic cA ad X Y) H) (hS : va_S A s.heap H locs) (hq : fn_Post_undo X = some (v1, X1)) (m1 : Cond.methodLink own index zm_Post_undo ∈ zu_TB) (hR1 : 2 + 1 ≤ R.frames) (hR2 : 8 + (1 + 11) + 48 ≤ R.locals) (hsz : ls.size = nL) (hst : st0 = .ref (ad 0) :: rest) (hw : (rest.map fun v => v.category).sum ≤ 8) (hdg : decode cc pc = .ok (.invokevirtual index, 3)) (h00 : cells ≤ R.cells ∧ slots ≤ R.slots) (kk : ∀ (H1 : Heap) (locs1 : List Loc), va_P D zu_cl (zu_pic cA ad X1 Y) H1 → va_S A s.heap H1 locs1 → W p l e R s m args below meth c H1 locs1 cells slots Q (F0 m (pc + 3) ls (.int v1 :: rest))) : W p l e R s m args below meth c H locs cells slots Q (F0 m pc ls st0) := by
  subst hst
  exact zr_cVi (As := []) (rest := rest) (n := 0) (C := "StonePost") (T := zt_Post) (N := 8) B hP hS (zC_Post_undo l  hq) (K := 1) rfl (by decide) (by decide) rfl rfl m1 zq_832 zq_833 zq_1 zq_834 (by decide +kernel) ⟨hR1, hR2⟩ rfl rfl rfl hsz rfl hw hdg h00 kk
abbrev zR_Post_tear : Room := { frames := 0, cells := 0, slots := 0, locals := 0 }
theorem zd_Post_tear_0 : decode zb_Post_tear 0 = .ok (.aload_n 0, 1) := by decide +kernel
theorem zd_Post_tear_1 : decode zb_Post_tear 1 = .ok (.getfield 289, 3) := by decide +kernel
theorem zd_Post_tear_4 : decode zb_Post_tear 4 = .ok (.ifCond .eq 7, 3) := by decide +kernel
theorem zd_Post_tear_7 : decode zb_Post_tear 7 = .ok (.iconst 1, 1) := by decide +kernel
theorem zd_Post_tear_8 : decode zb_Post_tear 8 = .ok (.goto 4, 3) := by decide +kernel
theorem zd_Post_tear_11 : decode zb_Post_tear 11 = .ok (.iconst 0, 1) := by decide +kernel
theorem zd_Post_tear_12 : decode zb_Post_tear 12 = .ok (.istore_n 1, 1) := by decide +kernel
theorem zd_Post_tear_13 : decode zb_Post_tear 13 = .ok (.aload_n 0, 1) := by decide +kernel
theorem zd_Post_tear_14 : decode zb_Post_tear 14 = .ok (.iconst 0, 1) := by decide +kernel
theorem zd_Post_tear_15 : decode zb_Post_tear 15 = .ok (.putfield 289, 3) := by decide +kernel
theorem zd_Post_tear_18 : decode zb_Post_tear 18 = .ok (.iload_n 1, 1) := by decide +kernel
theorem zd_Post_tear_19 : decode zb_Post_tear 19 = .ok (.ireturn, 1) := by decide +kernel
set_option maxHeartbeats 4000000 in
theorem zl_Post_tear_L12 {p : Program} {l : Launch} {e : Env} {s : State} {m : MethodId} {args : Array Value} {below : List Frame} {meth : Method} {c : Code} {D : va_G} {cA : Nat → ClassId} {ad : Nat → Nat} {A : Nat → Prop} (B : zu_B p s m args c zb_Post_tear 2 "StonePost" D cA ad A) (hret : meth.sig.returnType = (some .int)) (hlk : meth.locks = false) {Y : LX} {res : Int32 × IX} (y0 : Int32) (X : IX) (H : Heap) (locs : List Loc) (ls : Array Slot) (hP : va_P D zu_cl (zu_pic cA ad X Y) H) (hS : va_S A s.heap H locs) (hl : lv_has ls 2 [(0, .ref (ad 0))]) (hf : fn_Post_tear_L12 y0 X = some res) : W p l e zR_Post_tear s m args below meth c H locs 0 0 (MQ below (zu_Qi D cA ad A res.1 res.2 Y) args s 0 0 A) (F0 m 12 ls [.int y0]) := by
  obtain ⟨hx, hb, hml, hown, hts, hST⟩ := id B
  unfold fn_Post_tear_L12 at hf
  refine lv_istore_n (lv' := [(1, .int y0), (0, .ref (ad 0))]) hx hb zd_Post_tear_12 rfl hl (by decide) rfl (fun ls hl => ?_)
  refine lv_aload_n hx hb zd_Post_tear_13 rfl (lv_at hl 1 rfl) ?_
  refine lv_iconst (v := 0) hx hb zd_Post_tear_14 (by decide) ?_
  refine zp_Post_isKept B hP hS hf rfl rfl zq_198 zd_Post_tear_15 (fun X2 H locs hf hP hS => ?_)
  refine lv_iload_n hx hb zd_Post_tear_18 rfl (lv_at hl 0 rfl) ?_
  obtain rfl := Option.some.inj hf
  exact zr_iret hx hb hret hlk hP hS zd_Post_tear_19
set_option maxHeartbeats 4000000 in
theorem zl_Post_tear {p : Program} {l : Launch} {e : Env} {s : State} {m : MethodId} {args : Array Value} {below : List Frame} {meth : Method} {c : Code} {D : va_G} {cA : Nat → ClassId} {ad : Nat → Nat} {A : Nat → Prop} (B : zu_B p s m args c zb_Post_tear 2 "StonePost" D cA ad A) (hret : meth.sig.returnType = (some .int)) (hlk : meth.locks = false) {Y : LX} {res : Int32 × IX} {X : IX} (H : Heap) (locs : List Loc) (ls : Array Slot) (hP : va_P D zu_cl (zu_pic cA ad X Y) H) (hS : va_S A s.heap H locs) (hl : lv_has ls 2 [(0, .ref (ad 0))]) (hf : fn_Post_tear X = some res) : W p l e zR_Post_tear s m args below meth c H locs 0 0 (MQ below (zu_Qi D cA ad A res.1 res.2 Y) args s 0 0 A) (F0 m 0 ls []) := by
  obtain ⟨hx, hb, hml, hown, hts, hST⟩ := id B
  unfold fn_Post_tear at hf
  refine lv_aload_n hx hb zd_Post_tear_0 rfl (lv_at hl 0 rfl) ?_
  refine zg_Post_isKept B hP rfl zq_198 zd_Post_tear_1 ?_
  refine lv_if_eq (tgt := 11) hx hb zd_Post_tear_4 (by decide) (fun c1 => ?_) (fun c1 => ?_)
  · have hf := zu_t c1 hf
    refine lv_iconst (v := 0) hx hb zd_Post_tear_11 (by decide) ?_
    exact zl_Post_tear_L12 B hret hlk (0 : Int32) X _ _ _ hP hS (lv_sub hl [0] rfl) hf
  · have hf := zu_f c1 hf
    refine lv_iconst (v := 1) hx hb zd_Post_tear_7 (by decide) ?_
    refine lv_goto (tgt := 12) hx hb zd_Post_tear_8 (by decide) ?_
    exact zl_Post_tear_L12 B hret hlk (1 : Int32) X _ _ _ hP hS (lv_sub hl [0] rfl) hf
theorem zC_Post_tear (l : Launch) {D : va_G} {cA : Nat → ClassId} {ad : Nat → Nat} {A : Nat → Prop} {X : IX} {Y : LX} {res : Int32 × IX} (hf : fn_Post_tear X = some res) : Met l zm_Post_tear (zu_ws zm_Post_tear zb_Post_tear 2 (some .int)) zR_Post_tear (va_Pc [.ref (ad 0)] (zu_Pre D cA ad A X Y)) (zu_Qi D cA ad A res.1 res.2 Y) 0 0 A := by
  refine Met.ofW (cc := zb_Post_tear) (maxL := 2) (ret := (some .int)) (by decide +kernel) rfl ?_
  intro p e s m args below meth c s₁ B0 hml hv
  obtain ⟨rfl, hP, hST⟩ := hv
  have B : zu_B p s m _ c zb_Post_tear 2 "StonePost" D cA ad A := ⟨B0.exec, B0.bytes, hml, findClass_of_methodNamed B0.named, (fun w hw => atoms_spec (ws := zu_ws zm_Post_tear zb_Post_tear 2 (some .int)) B0.pre w (List.mem_cons_of_mem _ hw)), hST⟩
  have hl := lv_entry ([.ref (ad 0)]) (n := 2) (Nat.le_of_ble_eq_true rfl)
  rw [lg_entry_eq]
  generalize (lg_sl ([.ref (ad 0)]) ++ List.replicate (2 - (lg_sl ([.ref (ad 0)])).length) Slot.unset).toArray = ls at hl ⊢
  exact zl_Post_tear B B0.returns B0.notSynchronized s.heap [] ls hP va_S.rf hl  hf
theorem zw_Post_tear {p : Program} {l : Launch} {e : Env} {R : Room} {s : State} {m : MethodId} {args : Array Value} {below : List Frame} {meth : Method} {c : Code} {H : Heap} {locs : List Loc} {cells slots : Nat} {Q : State → Prop} {cc : ByteArray} {pc nL : Nat} {ls : Array Slot} {rest st0 : List Value} {D : va_G} {cA : Nat → ClassId} {ad : Nat → Nat} {A : Nat → Prop} {X : IX} {Y : LX} {own : String} {index : Nat} {v1 : Int32} {X1 : IX} (B : zu_B p s m args c cc nL own D cA ad A) (hP : va_P D zu_cl (zu_pic cA ad X Y) H) (hS : va_S A s.heap H locs) (hq : fn_Post_tear X = some (v1, X1)) (m1 : Cond.methodLink own index zm_Post_tear ∈ zu_TB) (hR1 : 0 + 1 ≤ R.frames) (hR2 : 8 + (2 + 11) + 0 ≤ R.locals) (hsz : ls.size = nL) (hst : st0 = .ref (ad 0) :: rest) (hw : (rest.map fun v => v.category).sum ≤ 8) (hdg : decode cc pc = .ok (.invokevirtual index, 3)) (h00 : cells ≤ R.cells ∧ slots ≤ R.slots) (kk : ∀ (H1 : Heap) (locs1 : List Loc), va_P D zu_cl (zu_pic cA ad X1 Y) H1 → va_S A s.heap H1 locs1 → W p l e R s m args below meth c H1 locs1 cells slots Q (F0 m (pc + 3) ls (.int v1 :: rest))) : W p l e R s m args below meth c H locs cells slots Q (F0 m pc ls st0) := by
  subst hst
  exact zr_cVi (As := []) (rest := rest) (n := 0) (C := "StonePost") (T := zt_Post) (N := 8) B hP hS (zC_Post_tear l  hq) (K := 1) rfl (by decide) (by decide) rfl rfl m1 zq_836 zq_837 zq_1 zq_838 (by decide +kernel) ⟨hR1, hR2⟩ rfl rfl rfl hsz rfl hw hdg h00 kk
abbrev zR_Land_illCount : Room := { frames := 1, cells := 0, slots := 0, locals := 23 }
theorem zd_Land_illCount_0 : decode zb_Land_illCount 0 = .ok (.aload_n 0, 1) := by decide +kernel
theorem zd_Land_illCount_1 : decode zb_Land_illCount 1 = .ok (.bipush 7, 2) := by decide +kernel
theorem zd_Land_illCount_3 : decode zb_Land_illCount 3 = .ok (.invokevirtual 92, 3) := by decide +kernel
theorem zd_Land_illCount_6 : decode zb_Land_illCount 6 = .ok (.ireturn, 1) := by decide +kernel
set_option maxHeartbeats 4000000 in
theorem zl_Land_illCount {p : Program} {l : Launch} {e : Env} {s : State} {m : MethodId} {args : Array Value} {below : List Frame} {meth : Method} {c : Code} {D : va_G} {cA : Nat → ClassId} {ad : Nat → Nat} {A : Nat → Prop} (B : zu_B p s m args c zb_Land_illCount 1 "StonePost$Land" D cA ad A) (hret : meth.sig.returnType = (some .int)) (hlk : meth.locks = false) {X : IX} {Y : LX} {res : Int32} {r0 : Nat} (H : Heap) (locs : List Loc) (ls : Array Slot) (hP : va_P D zu_cl (zu_pic cA ad X Y) H) (hS : va_S A s.heap H locs) (hl : lv_has ls 1 [(0, .ref (ad r0))]) (hr0 : zu_kd r0 = 5) (hf : fn_Land_illCount X r0 = some res) : W p l e zR_Land_illCount s m args below meth c H locs 0 0 (MQ below (zu_Qi D cA ad A res X Y) args s 0 0 A) (F0 m 0 ls []) := by
  obtain ⟨hx, hb, hml, hown, hts, hST⟩ := id B
  unfold fn_Land_illCount at hf
  refine lv_aload_n hx hb zd_Land_illCount_0 rfl (lv_at hl 0 rfl) ?_
  refine lv_bipush (v := 7) hx hb zd_Land_illCount_1 (by decide) ?_
  obtain ⟨v1, hq2, hf⟩ := zu_b1_e hf
  refine zw_Land_sumOf (rest := []) B hP hS hr0 hq2 zq_596 (Nat.le_of_ble_eq_true rfl) (Nat.le_of_ble_eq_true rfl) hl.1 rfl (Nat.le_of_ble_eq_true rfl) zd_Land_illCount_3 (by decide) (fun H locs hP hS => ?_)
  clear hq2
  obtain rfl := Option.some.inj hf
  exact zr_iret hx hb hret hlk hP hS zd_Land_illCount_6
theorem zC_Land_illCount (l : Launch) {D : va_G} {cA : Nat → ClassId} {ad : Nat → Nat} {A : Nat → Prop} {r0 : Nat} {X : IX} {Y : LX} {res : Int32} (hr0 : zu_kd r0 = 5) (hf : fn_Land_illCount X r0 = some res) : Met l zm_Land_illCount (zu_ws zm_Land_illCount zb_Land_illCount 1 (some .int)) zR_Land_illCount (va_Pc [.ref (ad r0)] (zu_Pre D cA ad A X Y)) (zu_Qi D cA ad A res X Y) 0 0 A := by
  refine Met.ofW (cc := zb_Land_illCount) (maxL := 1) (ret := (some .int)) (by decide +kernel) rfl ?_
  intro p e s m args below meth c s₁ B0 hml hv
  obtain ⟨rfl, hP, hST⟩ := hv
  have B : zu_B p s m _ c zb_Land_illCount 1 "StonePost$Land" D cA ad A := ⟨B0.exec, B0.bytes, hml, findClass_of_methodNamed B0.named, (fun w hw => atoms_spec (ws := zu_ws zm_Land_illCount zb_Land_illCount 1 (some .int)) B0.pre w (List.mem_cons_of_mem _ hw)), hST⟩
  have hl := lv_entry ([.ref (ad r0)]) (n := 1) (Nat.le_of_ble_eq_true rfl)
  rw [lg_entry_eq]
  generalize (lg_sl ([.ref (ad r0)]) ++ List.replicate (1 - (lg_sl ([.ref (ad r0)])).length) Slot.unset).toArray = ls at hl ⊢
  exact zl_Land_illCount B B0.returns B0.notSynchronized s.heap [] ls hP va_S.rf hl hr0 hf
theorem zw_Land_illCount {p : Program} {l : Launch} {e : Env} {R : Room} {s : State} {m : MethodId} {args : Array Value} {below : List Frame} {meth : Method} {c : Code} {H : Heap} {locs : List Loc} {cells slots : Nat} {Q : State → Prop} {cc : ByteArray} {pc nL : Nat} {ls : Array Slot} {rest st0 : List Value} {D : va_G} {cA : Nat → ClassId} {ad : Nat → Nat} {A : Nat → Prop} {X : IX} {Y : LX} {own : String} {index : Nat} {r0 : Nat} {v1 : Int32} (B : zu_B p s m args c cc nL own D cA ad A) (hP : va_P D zu_cl (zu_pic cA ad X Y) H) (hS : va_S A s.heap H locs) (hr0 : zu_kd r0 = 5) (hq : fn_Land_illCount X r0 = some v1) (m1 : Cond.methodLink own index zm_Land_illCount ∈ zu_TB) (hR1 : 1 + 1 ≤ R.frames) (hR2 : 8 + (1 + 11) + 23 ≤ R.locals) (hsz : ls.size = nL) (hst : st0 = .ref (ad r0) :: rest) (hw : (rest.map fun v => v.category).sum ≤ 8) (hdg : decode cc pc = .ok (.invokevirtual index, 3)) (h00 : cells ≤ R.cells ∧ slots ≤ R.slots) (kk : ∀ (H1 : Heap) (locs1 : List Loc), va_P D zu_cl (zu_pic cA ad X Y) H1 → va_S A s.heap H1 locs1 → W p l e R s m args below meth c H1 locs1 cells slots Q (F0 m (pc + 3) ls (.int v1 :: rest))) : W p l e R s m args below meth c H locs cells slots Q (F0 m pc ls st0) := by
  subst hst
  exact zr_cVi (As := []) (rest := rest) (n := 0) (C := "StonePost$Land") (T := zt_Land) (N := 10) B hP hS (zC_Land_illCount l hr0 hq) (K := 5) hr0 (by decide) (by decide) rfl rfl m1 zq_844 zq_845 zq_2 zq_846 (by decide +kernel) ⟨hR1, hR2⟩ rfl rfl rfl hsz rfl hw hdg h00 kk
abbrev zR_Land_heldSpots : Room := { frames := 0, cells := 0, slots := 0, locals := 0 }
theorem zd_Land_heldSpots_0 : decode zb_Land_heldSpots 0 = .ok (.iconst 0, 1) := by decide +kernel
theorem zd_Land_heldSpots_1 : decode zb_Land_heldSpots 1 = .ok (.istore_n 1, 1) := by decide +kernel
theorem zd_Land_heldSpots_2 : decode zb_Land_heldSpots 2 = .ok (.iconst 0, 1) := by decide +kernel
theorem zd_Land_heldSpots_3 : decode zb_Land_heldSpots 3 = .ok (.istore_n 2, 1) := by decide +kernel
theorem zd_Land_heldSpots_4 : decode zb_Land_heldSpots 4 = .ok (.iload_n 2, 1) := by decide +kernel
theorem zd_Land_heldSpots_5 : decode zb_Land_heldSpots 5 = .ok (.bipush 10, 2) := by decide +kernel
theorem zd_Land_heldSpots_7 : decode zb_Land_heldSpots 7 = .ok (.if_icmp .ge 22, 3) := by decide +kernel
theorem zd_Land_heldSpots_10 : decode zb_Land_heldSpots 10 = .ok (.aload_n 0, 1) := by decide +kernel
theorem zd_Land_heldSpots_11 : decode zb_Land_heldSpots 11 = .ok (.getfield 24, 3) := by decide +kernel
theorem zd_Land_heldSpots_14 : decode zb_Land_heldSpots 14 = .ok (.iload_n 2, 1) := by decide +kernel
theorem zd_Land_heldSpots_15 : decode zb_Land_heldSpots 15 = .ok (.iaload, 1) := by decide +kernel
theorem zd_Land_heldSpots_16 : decode zb_Land_heldSpots 16 = .ok (.iconst (-1), 1) := by decide +kernel
theorem zd_Land_heldSpots_17 : decode zb_Land_heldSpots 17 = .ok (.if_icmp .eq 6, 3) := by decide +kernel
theorem zd_Land_heldSpots_20 : decode zb_Land_heldSpots 20 = .ok (.iinc 1 1, 3) := by decide +kernel
theorem zd_Land_heldSpots_23 : decode zb_Land_heldSpots 23 = .ok (.iinc 2 1, 3) := by decide +kernel
theorem zd_Land_heldSpots_26 : decode zb_Land_heldSpots 26 = .ok (.goto (-22), 3) := by decide +kernel
theorem zd_Land_heldSpots_29 : decode zb_Land_heldSpots 29 = .ok (.iload_n 1, 1) := by decide +kernel
theorem zd_Land_heldSpots_30 : decode zb_Land_heldSpots 30 = .ok (.ireturn, 1) := by decide +kernel
set_option maxHeartbeats 4000000 in
theorem zl_Land_heldSpots_L23 {p : Program} {l : Launch} {e : Env} {s : State} {m : MethodId} {args : Array Value} {below : List Frame} {meth : Method} {c : Code} {D : va_G} {cA : Nat → ClassId} {ad : Nat → Nat} {A : Nat → Prop} (B : zu_B p s m args c zb_Land_heldSpots 3 "StonePost$Land" D cA ad A) (hret : meth.sig.returnType = (some .int)) (hlk : meth.locks = false) {X : IX} {Y : LX} {res : Int32} {k4 : Nat → Int32 → Int32 → Option Int32} (hk4 : ∀ (r0 : Nat) (x1 : Int32) (x2 : Int32) (H : Heap) (locs : List Loc) (ls : Array Slot), va_P D zu_cl (zu_pic cA ad X Y) H → va_S A s.heap H locs → lv_has ls 3 [(0, .ref (ad r0)), (1, .int x1), (2, .int x2)] → zu_kd r0 = 5 → k4 r0 x1 x2 = some res → W p l e zR_Land_heldSpots s m args below meth c H locs 0 0 (MQ below (zu_Qi D cA ad A res X Y) args s 0 0 A) (F0 m 4 ls [])) (r0 : Nat) (x1 : Int32) (x2 : Int32) (H : Heap) (locs : List Loc) (ls : Array Slot) (hP : va_P D zu_cl (zu_pic cA ad X Y) H) (hS : va_S A s.heap H locs) (hl : lv_has ls 3 [(0, .ref (ad r0)), (1, .int x1), (2, .int x2)]) (hr0 : zu_kd r0 = 5) (hf : fn_Land_heldSpots_L23 X k4 r0 x1 x2 = some res) : W p l e zR_Land_heldSpots s m args below meth c H locs 0 0 (MQ below (zu_Qi D cA ad A res X Y) args s 0 0 A) (F0 m 23 ls []) := by
  obtain ⟨hx, hb, hml, hown, hts, hST⟩ := id B
  unfold fn_Land_heldSpots_L23 at hf
  obtain ⟨v5, ev5, hf⟩ := zu_nx_e hf
  refine lv_iinc (v := v5) (lv' := [(2, .int v5), (0, .ref (ad r0)), (1, .int x1)]) hx hb zd_Land_heldSpots_23 hl (k := 2) rfl (by rw [ev5]; rfl) (by decide) rfl (fun ls hl => ?_)
  clear ev5
  refine lv_goto (tgt := 4) hx hb zd_Land_heldSpots_26 (by decide) ?_
  exact hk4 r0 x1 v5 _ _ _ hP hS (lv_sub hl [1, 2, 0] rfl) hr0 hf
set_option maxHeartbeats 4000000 in
theorem zl_Land_heldSpots_B4 {p : Program} {l : Launch} {e : Env} {s : State} {m : MethodId} {args : Array Value} {below : List Frame} {meth : Method} {c : Code} {D : va_G} {cA : Nat → ClassId} {ad : Nat → Nat} {A : Nat → Prop} (B : zu_B p s m args c zb_Land_heldSpots 3 "StonePost$Land" D cA ad A) (hret : meth.sig.returnType = (some .int)) (hlk : meth.locks = false) {X : IX} {Y : LX} {res : Int32} {k4 : Nat → Int32 → Int32 → Option Int32} (hk4 : ∀ (r0 : Nat) (x1 : Int32) (x2 : Int32) (H : Heap) (locs : List Loc) (ls : Array Slot), va_P D zu_cl (zu_pic cA ad X Y) H → va_S A s.heap H locs → lv_has ls 3 [(0, .ref (ad r0)), (1, .int x1), (2, .int x2)] → zu_kd r0 = 5 → k4 r0 x1 x2 = some res → W p l e zR_Land_heldSpots s m args below meth c H locs 0 0 (MQ below (zu_Qi D cA ad A res X Y) args s 0 0 A) (F0 m 4 ls [])) (r0 : Nat) (x1 : Int32) (x2 : Int32) (H : Heap) (locs : List Loc) (ls : Array Slot) (hP : va_P D zu_cl (zu_pic cA ad X Y) H) (hS : va_S A s.heap H locs) (hl : lv_has ls 3 [(0, .ref (ad r0)), (1, .int x1), (2, .int x2)]) (hr0 : zu_kd r0 = 5) (hf : fn_Land_heldSpots_B4 X k4 r0 x1 x2 = some res) : W p l e zR_Land_heldSpots s m args below meth c H locs 0 0 (MQ below (zu_Qi D cA ad A res X Y) args s 0 0 A) (F0 m 4 ls []) := by
  obtain ⟨hx, hb, hml, hown, hts, hST⟩ := id B
  unfold fn_Land_heldSpots_B4 at hf
  refine lv_iload_n hx hb zd_Land_heldSpots_4 rfl (lv_at hl 2 rfl) ?_
  refine lv_bipush (v := 10) hx hb zd_Land_heldSpots_5 (by decide) ?_
  refine lv_icmp_ge (tgt := 29) hx hb zd_Land_heldSpots_7 (by decide) (fun c1 => ?_) (fun c1 => ?_)
  · have hf := zu_t c1 hf
    refine lv_iload_n hx hb zd_Land_heldSpots_29 rfl (lv_at hl 1 rfl) ?_
    obtain rfl := Option.some.inj hf
    exact zr_iret hx hb hret hlk hP hS zd_Land_heldSpots_30
  · have hf := zu_f c1 hf
    refine lv_aload_n hx hb zd_Land_heldSpots_10 rfl (lv_at hl 0 rfl) ?_
    refine zg_Land_spots B hP hr0 zq_59 zd_Land_heldSpots_11 ?_
    refine lv_iload_n hx hb zd_Land_heldSpots_14 rfl (lv_at hl 2 rfl) ?_
    obtain ⟨hg2, hf⟩ := zu_gd_e hf
    refine zr_iald rfl B hP (zk_Land_spots hr0) (by decide) rfl hg2 zd_Land_heldSpots_15 ?_
    refine lv_iconst (v := -1) hx hb zd_Land_heldSpots_16 (by decide) ?_
    refine lv_icmp_eq (tgt := 23) hx hb zd_Land_heldSpots_17 (by decide) (fun c3 => ?_) (fun c3 => ?_)
    · have hf := zu_t c3 hf
      exact zl_Land_heldSpots_L23 B hret hlk hk4 r0 x1 x2 _ _ _ hP hS (lv_sub hl [0, 1, 2] rfl) hr0 hf
    · have hf := zu_f c3 hf
      obtain ⟨v4, ev4, hf⟩ := zu_nx_e hf
      refine lv_iinc (v := v4) (lv' := [(1, .int v4), (0, .ref (ad r0)), (2, .int x2)]) hx hb zd_Land_heldSpots_20 hl (k := 1) rfl (by rw [ev4]; rfl) (by decide) rfl (fun ls hl => ?_)
      clear ev4
      exact zl_Land_heldSpots_L23 B hret hlk hk4 r0 v4 x2 _ _ _ hP hS (lv_sub hl [1, 0, 2] rfl) hr0 hf
theorem zl_Land_heldSpots_L4 {p : Program} {l : Launch} {e : Env} {s : State} {m : MethodId} {args : Array Value} {below : List Frame} {meth : Method} {c : Code} {D : va_G} {cA : Nat → ClassId} {ad : Nat → Nat} {A : Nat → Prop} (B : zu_B p s m args c zb_Land_heldSpots 3 "StonePost$Land" D cA ad A) (hret : meth.sig.returnType = (some .int)) (hlk : meth.locks = false) {X : IX} {Y : LX} {res : Int32} : ∀ (n : Nat) (r0 : Nat) (x1 : Int32) (x2 : Int32) (H : Heap) (locs : List Loc) (ls : Array Slot), va_P D zu_cl (zu_pic cA ad X Y) H → va_S A s.heap H locs → lv_has ls 3 [(0, .ref (ad r0)), (1, .int x1), (2, .int x2)] → zu_kd r0 = 5 → fn_Land_heldSpots_L4 X n r0 x1 x2 = some res → W p l e zR_Land_heldSpots s m args below meth c H locs 0 0 (MQ below (zu_Qi D cA ad A res X Y) args s 0 0 A) (F0 m 4 ls []) := by
  intro n
  induction n with
  | zero =>
    intro r0 x1 x2 H locs ls hP hS hl hr0 hf
    exact (Option.some_ne_none _ hf.symm).elim
  | succ n ih =>
    intro r0 x1 x2 H locs ls hP hS hl hr0 hf
    exact zl_Land_heldSpots_B4 B hret hlk ih r0 x1 x2 H locs ls hP hS hl hr0 hf
set_option maxHeartbeats 4000000 in
theorem zl_Land_heldSpots {p : Program} {l : Launch} {e : Env} {s : State} {m : MethodId} {args : Array Value} {below : List Frame} {meth : Method} {c : Code} {D : va_G} {cA : Nat → ClassId} {ad : Nat → Nat} {A : Nat → Prop} (B : zu_B p s m args c zb_Land_heldSpots 3 "StonePost$Land" D cA ad A) (hret : meth.sig.returnType = (some .int)) (hlk : meth.locks = false) {X : IX} {Y : LX} {res : Int32} {r0 : Nat} (H : Heap) (locs : List Loc) (ls : Array Slot) (hP : va_P D zu_cl (zu_pic cA ad X Y) H) (hS : va_S A s.heap H locs) (hl : lv_has ls 3 [(0, .ref (ad r0))]) (hr0 : zu_kd r0 = 5) (hf : fn_Land_heldSpots X r0 = some res) : W p l e zR_Land_heldSpots s m args below meth c H locs 0 0 (MQ below (zu_Qi D cA ad A res X Y) args s 0 0 A) (F0 m 0 ls []) := by
  obtain ⟨hx, hb, hml, hown, hts, hST⟩ := id B
  unfold fn_Land_heldSpots at hf
  refine lv_iconst (v := 0) hx hb zd_Land_heldSpots_0 (by decide) ?_
  refine lv_istore_n (lv' := [(1, .int (0 : Int32)), (0, .ref (ad r0))]) hx hb zd_Land_heldSpots_1 rfl hl (by decide) rfl (fun ls hl => ?_)
  refine lv_iconst (v := 0) hx hb zd_Land_heldSpots_2 (by decide) ?_
  refine lv_istore_n (lv' := [(2, .int (0 : Int32)), (1, .int (0 : Int32)), (0, .ref (ad r0))]) hx hb zd_Land_heldSpots_3 rfl hl (by decide) rfl (fun ls hl => ?_)
  exact zl_Land_heldSpots_L4 B hret hlk 400 r0 (0 : Int32) (0 : Int32) _ _ _ hP hS (lv_sub hl [2, 1, 0] rfl) hr0 hf
theorem zC_Land_heldSpots (l : Launch) {D : va_G} {cA : Nat → ClassId} {ad : Nat → Nat} {A : Nat → Prop} {r0 : Nat} {X : IX} {Y : LX} {res : Int32} (hr0 : zu_kd r0 = 5) (hf : fn_Land_heldSpots X r0 = some res) : Met l zm_Land_heldSpots (zu_ws zm_Land_heldSpots zb_Land_heldSpots 3 (some .int)) zR_Land_heldSpots (va_Pc [.ref (ad r0)] (zu_Pre D cA ad A X Y)) (zu_Qi D cA ad A res X Y) 0 0 A := by
  refine Met.ofW (cc := zb_Land_heldSpots) (maxL := 3) (ret := (some .int)) (by decide +kernel) rfl ?_
  intro p e s m args below meth c s₁ B0 hml hv
  obtain ⟨rfl, hP, hST⟩ := hv
  have B : zu_B p s m _ c zb_Land_heldSpots 3 "StonePost$Land" D cA ad A := ⟨B0.exec, B0.bytes, hml, findClass_of_methodNamed B0.named, (fun w hw => atoms_spec (ws := zu_ws zm_Land_heldSpots zb_Land_heldSpots 3 (some .int)) B0.pre w (List.mem_cons_of_mem _ hw)), hST⟩
  have hl := lv_entry ([.ref (ad r0)]) (n := 3) (Nat.le_of_ble_eq_true rfl)
  rw [lg_entry_eq]
  generalize (lg_sl ([.ref (ad r0)]) ++ List.replicate (3 - (lg_sl ([.ref (ad r0)])).length) Slot.unset).toArray = ls at hl ⊢
  exact zl_Land_heldSpots B B0.returns B0.notSynchronized s.heap [] ls hP va_S.rf hl hr0 hf
theorem zw_Land_heldSpots {p : Program} {l : Launch} {e : Env} {R : Room} {s : State} {m : MethodId} {args : Array Value} {below : List Frame} {meth : Method} {c : Code} {H : Heap} {locs : List Loc} {cells slots : Nat} {Q : State → Prop} {cc : ByteArray} {pc nL : Nat} {ls : Array Slot} {rest st0 : List Value} {D : va_G} {cA : Nat → ClassId} {ad : Nat → Nat} {A : Nat → Prop} {X : IX} {Y : LX} {own : String} {index : Nat} {r0 : Nat} {v1 : Int32} (B : zu_B p s m args c cc nL own D cA ad A) (hP : va_P D zu_cl (zu_pic cA ad X Y) H) (hS : va_S A s.heap H locs) (hr0 : zu_kd r0 = 5) (hq : fn_Land_heldSpots X r0 = some v1) (m1 : Cond.methodLink own index zm_Land_heldSpots ∈ zu_TB) (hR1 : 0 + 1 ≤ R.frames) (hR2 : 8 + (3 + 11) + 0 ≤ R.locals) (hsz : ls.size = nL) (hst : st0 = .ref (ad r0) :: rest) (hw : (rest.map fun v => v.category).sum ≤ 8) (hdg : decode cc pc = .ok (.invokevirtual index, 3)) (h00 : cells ≤ R.cells ∧ slots ≤ R.slots) (kk : ∀ (H1 : Heap) (locs1 : List Loc), va_P D zu_cl (zu_pic cA ad X Y) H1 → va_S A s.heap H1 locs1 → W p l e R s m args below meth c H1 locs1 cells slots Q (F0 m (pc + 3) ls (.int v1 :: rest))) : W p l e R s m args below meth c H locs cells slots Q (F0 m pc ls st0) := by
  subst hst
  exact zr_cVi (As := []) (rest := rest) (n := 0) (C := "StonePost$Land") (T := zt_Land) (N := 10) B hP hS (zC_Land_heldSpots l hr0 hq) (K := 5) hr0 (by decide) (by decide) rfl rfl m1 zq_848 zq_849 zq_2 zq_850 (by decide +kernel) ⟨hR1, hR2⟩ rfl rfl rfl hsz rfl hw hdg h00 kk
