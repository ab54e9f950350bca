abbrev zR_Post_copies : Room := { frames := 7, cells := 0, slots := 0, locals := 161 }
theorem zd_Post_copies_0 : decode zb_Post_copies 0 = .ok (.iload_n 1, 1) := by decide +kernel
theorem zd_Post_copies_1 : decode zb_Post_copies 1 = .ok (.invokestatic 47, 3) := by decide +kernel
theorem zd_Post_copies_4 : decode zb_Post_copies 4 = .ok (.ifCond .eq 13, 3) := by decide +kernel
theorem zd_Post_copies_7 : decode zb_Post_copies 7 = .ok (.iload_n 2, 1) := by decide +kernel
theorem zd_Post_copies_8 : decode zb_Post_copies 8 = .ok (.iconst 0, 1) := by decide +kernel
theorem zd_Post_copies_9 : decode zb_Post_copies 9 = .ok (.bipush 7, 2) := by decide +kernel
theorem zd_Post_copies_11 : decode zb_Post_copies 11 = .ok (.invokestatic 51, 3) := by decide +kernel
theorem zd_Post_copies_14 : decode zb_Post_copies 14 = .ok (.ifCond .ne 11, 3) := by decide +kernel
theorem zd_Post_copies_17 : decode zb_Post_copies 17 = .ok (.aload_n 0, 1) := by decide +kernel
theorem zd_Post_copies_18 : decode zb_Post_copies 18 = .ok (.ldc 55, 2) := by decide +kernel
theorem zd_Post_copies_20 : decode zb_Post_copies 20 = .ok (.invokevirtual 56, 3) := by decide +kernel
theorem zd_Post_copies_23 : decode zb_Post_copies 23 = .ok (.i2l, 1) := by decide +kernel
theorem zd_Post_copies_24 : decode zb_Post_copies 24 = .ok (.lreturn, 1) := by decide +kernel
theorem zd_Post_copies_25 : decode zb_Post_copies 25 = .ok (.lconst 1, 1) := by decide +kernel
theorem zd_Post_copies_26 : decode zb_Post_copies 26 = .ok (.lstore_n 3, 1) := by decide +kernel
theorem zd_Post_copies_27 : decode zb_Post_copies 27 = .ok (.iconst 0, 1) := by decide +kernel
theorem zd_Post_copies_28 : decode zb_Post_copies 28 = .ok (.istore 5, 2) := by decide +kernel
theorem zd_Post_copies_30 : decode zb_Post_copies 30 = .ok (.iload 5, 2) := by decide +kernel
theorem zd_Post_copies_32 : decode zb_Post_copies 32 = .ok (.iload_n 2, 1) := by decide +kernel
theorem zd_Post_copies_33 : decode zb_Post_copies 33 = .ok (.if_icmp .ge 15, 3) := by decide +kernel
theorem zd_Post_copies_36 : decode zb_Post_copies 36 = .ok (.lload_n 3, 1) := by decide +kernel
theorem zd_Post_copies_37 : decode zb_Post_copies 37 = .ok (.ldc2_w 204, 3) := by decide +kernel
theorem zd_Post_copies_40 : decode zb_Post_copies 40 = .ok (.lmul, 1) := by decide +kernel
theorem zd_Post_copies_41 : decode zb_Post_copies 41 = .ok (.lstore_n 3, 1) := by decide +kernel
theorem zd_Post_copies_42 : decode zb_Post_copies 42 = .ok (.iinc 5 1, 3) := by decide +kernel
theorem zd_Post_copies_45 : decode zb_Post_copies 45 = .ok (.goto (-15), 3) := by decide +kernel
theorem zd_Post_copies_48 : decode zb_Post_copies 48 = .ok (.lload_n 3, 1) := by decide +kernel
theorem zd_Post_copies_49 : decode zb_Post_copies 49 = .ok (.aload_n 0, 1) := by decide +kernel
theorem zd_Post_copies_50 : decode zb_Post_copies 50 = .ok (.aload_n 0, 1) := by decide +kernel
theorem zd_Post_copies_51 : decode zb_Post_copies 51 = .ok (.getfield 10, 3) := by decide +kernel
theorem zd_Post_copies_54 : decode zb_Post_copies 54 = .ok (.iload_n 1, 1) := by decide +kernel
theorem zd_Post_copies_55 : decode zb_Post_copies 55 = .ok (.iload_n 2, 1) := by decide +kernel
theorem zd_Post_copies_56 : decode zb_Post_copies 56 = .ok (.invokevirtual 200, 3) := by decide +kernel
theorem zd_Post_copies_59 : decode zb_Post_copies 59 = .ok (.lsub, 1) := by decide +kernel
theorem zd_Post_copies_60 : decode zb_Post_copies 60 = .ok (.lstore 5, 2) := by decide +kernel
theorem zd_Post_copies_62 : decode zb_Post_copies 62 = .ok (.lload_n 3, 1) := by decide +kernel
theorem zd_Post_copies_63 : decode zb_Post_copies 63 = .ok (.lload_n 3, 1) := by decide +kernel
theorem zd_Post_copies_64 : decode zb_Post_copies 64 = .ok (.lmul, 1) := by decide +kernel
theorem zd_Post_copies_65 : decode zb_Post_copies 65 = .ok (.lload 5, 2) := by decide +kernel
theorem zd_Post_copies_67 : decode zb_Post_copies 67 = .ok (.lload 5, 2) := by decide +kernel
theorem zd_Post_copies_69 : decode zb_Post_copies 69 = .ok (.lmul, 1) := by decide +kernel
theorem zd_Post_copies_70 : decode zb_Post_copies 70 = .ok (.lsub, 1) := by decide +kernel
theorem zd_Post_copies_71 : decode zb_Post_copies 71 = .ok (.lreturn, 1) := by decide +kernel
set_option maxHeartbeats 4000000 in
theorem zl_Post_copies_B30 {p : Program} {l : Launch} {e : Env} {s : State} {m : MethodId} {args : Array Value} {below : List Frame} {meth : Method} {c : Code} {D : va_G} {cA : Nat → ClassId} {ad : Nat → Nat} {A : Nat → Prop} (B : zu_B p s m args c zb_Post_copies 7 "StonePost" D cA ad A) (hret : meth.sig.returnType = (some .long)) (hlk : meth.locks = false) {res : Int64 × IX × LX} {k30 : Int32 → Int32 → Int64 → Int32 → IX → LX → Option (Int64 × IX × LX)} (hk30 : ∀ (x1 : Int32) (x2 : Int32) (x3 : Int64) (x5 : Int32) (X : IX) (Y : LX) (H : Heap) (locs : List Loc) (ls : Array Slot), va_P D zu_cl (zu_pic cA ad X Y) H → va_S A s.heap H locs → lv_has ls 7 [(0, .ref (ad 0)), (1, .int x1), (2, .int x2), (3, .long x3), (5, .int x5)] → k30 x1 x2 x3 x5 X Y = some res → W p l e zR_Post_copies s m args below meth c H locs 0 0 (MQ below (zu_Ql D cA ad A res.1 res.2.1 res.2.2) args s 0 0 A) (F0 m 30 ls [])) (x1 : Int32) (x2 : Int32) (x3 : Int64) (x5 : Int32) (X : IX) (Y : LX) (H : Heap) (locs : List Loc) (ls : Array Slot) (hP : va_P D zu_cl (zu_pic cA ad X Y) H) (hS : va_S A s.heap H locs) (hl : lv_has ls 7 [(0, .ref (ad 0)), (1, .int x1), (2, .int x2), (3, .long x3), (5, .int x5)]) (hf : fn_Post_copies_B30 k30 x1 x2 x3 x5 X Y = some res) : W p l e zR_Post_copies s m args below meth c H locs 0 0 (MQ below (zu_Ql D cA ad A res.1 res.2.1 res.2.2) args s 0 0 A) (F0 m 30 ls []) := by
  obtain ⟨hx, hb, hml, hown, hts, hST⟩ := id B
  unfold fn_Post_copies_B30 at hf
  refine lv_iload hx hb zd_Post_copies_30 (lv_at hl 4 rfl) ?_
  refine lv_iload_n hx hb zd_Post_copies_32 rfl (lv_at hl 2 rfl) ?_
  refine lv_icmp_ge (tgt := 48) hx hb zd_Post_copies_33 (by decide) (fun c10 => ?_) (fun c10 => ?_)
  · have hf := zu_t c10 hf
    refine lv_lload_n hx hb zd_Post_copies_48 rfl (lv_at hl 3 rfl) ?_
    refine lv_aload_n hx hb zd_Post_copies_49 rfl (lv_at hl 0 rfl) ?_
    refine lv_aload_n hx hb zd_Post_copies_50 rfl (lv_at hl 0 rfl) ?_
    refine zg_Post_land B hP rfl zq_191 zd_Post_copies_51 ?_
    refine lv_iload_n hx hb zd_Post_copies_54 rfl (lv_at hl 1 rfl) ?_
    refine lv_iload_n hx hb zd_Post_copies_55 rfl (lv_at hl 2 rfl) ?_
    obtain ⟨v11, X12, Y13, hq14, hf⟩ := zu_b3_e hf
    refine zw_Post_homeParts (rest := [.long x3]) B hP hS rfl hq14 zq_544 (Nat.le_of_ble_eq_true rfl) (Nat.le_of_ble_eq_true rfl) hl.1 rfl (Nat.le_of_ble_eq_true rfl) zd_Post_copies_56 (by decide) (fun H locs hP hS => ?_)
    clear hq14
    refine lv_lsub hx hb zd_Post_copies_59 ?_
    refine zr_nxl hf (fun v15 hf => ?_)
    refine lv_lstore (lv' := [(5, .long v15), (0, .ref (ad 0)), (1, .int x1), (2, .int x2), (3, .long x3)]) hx hb zd_Post_copies_60 hl (by decide) rfl (fun ls hl => ?_)
    refine lv_lload_n hx hb zd_Post_copies_62 rfl (lv_at hl 4 rfl) ?_
    refine lv_lload_n hx hb zd_Post_copies_63 rfl (lv_at hl 4 rfl) ?_
    refine lv_lmul hx hb zd_Post_copies_64 ?_
    refine lv_lload hx hb zd_Post_copies_65 (lv_at hl 0 rfl) ?_
    refine lv_lload hx hb zd_Post_copies_67 (lv_at hl 0 rfl) ?_
    refine lv_lmul hx hb zd_Post_copies_69 ?_
    refine lv_lsub hx hb zd_Post_copies_70 ?_
    obtain rfl := Option.some.inj hf
    exact zr_lret hx hb hret hlk hP hS zd_Post_copies_71
  · have hf := zu_f c10 hf
    refine lv_lload_n hx hb zd_Post_copies_36 rfl (lv_at hl 3 rfl) ?_
    refine lv_ldc2 (v := 12) hx hb hown (hts _ zq_560) zd_Post_copies_37 ?_
    refine lv_lmul hx hb zd_Post_copies_40 ?_
    refine zr_nxl hf (fun v16 hf => ?_)
    refine lv_lstore_n (lv' := [(3, .long v16), (0, .ref (ad 0)), (1, .int x1), (2, .int x2), (5, .int x5)]) hx hb zd_Post_copies_41 rfl hl (by decide) rfl (fun ls hl => ?_)
    obtain ⟨v17, ev17, hf⟩ := zu_nx_e hf
    refine lv_iinc (v := v17) (lv' := [(5, .int v17), (3, .long v16), (0, .ref (ad 0)), (1, .int x1), (2, .int x2)]) hx hb zd_Post_copies_42 hl (k := 4) rfl (by rw [ev17]; rfl) (by decide) rfl (fun ls hl => ?_)
    clear ev17
    refine lv_goto (tgt := 30) hx hb zd_Post_copies_45 (by decide) ?_
    exact hk30 x1 x2 v16 v17 X Y _ _ _ hP hS (lv_sub hl [2, 3, 4, 1, 0] rfl) hf
theorem zl_Post_copies_L30 {p : Program} {l : Launch} {e : Env} {s : State} {m : MethodId} {args : Array Value} {below : List Frame} {meth : Method} {c : Code} {D : va_G} {cA : Nat → ClassId} {ad : Nat → Nat} {A : Nat → Prop} (B : zu_B p s m args c zb_Post_copies 7 "StonePost" D cA ad A) (hret : meth.sig.returnType = (some .long)) (hlk : meth.locks = false) {res : Int64 × IX × LX} : ∀ (n : Nat) (x1 : Int32) (x2 : Int32) (x3 : Int64) (x5 : Int32) (X : IX) (Y : LX) (H : Heap) (locs : List Loc) (ls : Array Slot), va_P D zu_cl (zu_pic cA ad X Y) H → va_S A s.heap H locs → lv_has ls 7 [(0, .ref (ad 0)), (1, .int x1), (2, .int x2), (3, .long x3), (5, .int x5)] → fn_Post_copies_L30 n x1 x2 x3 x5 X Y = some res → W p l e zR_Post_copies s m args below meth c H locs 0 0 (MQ below (zu_Ql D cA ad A res.1 res.2.1 res.2.2) args s 0 0 A) (F0 m 30 ls []) := by
  intro n
  induction n with
  | zero =>
    intro x1 x2 x3 x5 X Y H locs ls hP hS hl hf
    exact (Option.some_ne_none _ hf.symm).elim
  | succ n ih =>
    intro x1 x2 x3 x5 X Y H locs ls hP hS hl hf
    exact zl_Post_copies_B30 B hret hlk ih x1 x2 x3 x5 X Y H locs ls hP hS hl  hf
set_option maxHeartbeats 4000000 in
theorem zl_Post_copies_L17 {p : Program} {l : Launch} {e : Env} {s : State} {m : MethodId} {args : Array Value} {below : List Frame} {meth : Method} {c : Code} {D : va_G} {cA : Nat → ClassId} {ad : Nat → Nat} {A : Nat → Prop} (B : zu_B p s m args c zb_Post_copies 7 "StonePost" D cA ad A) (hret : meth.sig.returnType = (some .long)) (hlk : meth.locks = false) {res : Int64 × IX × LX} (X : IX) (Y : LX) (H : Heap) (locs : List Loc) (ls : Array Slot) (hP : va_P D zu_cl (zu_pic cA ad X Y) H) (hS : va_S A s.heap H locs) (hl : lv_has ls 7 [(0, .ref (ad 0))]) (hf : fn_Post_copies_L17 X Y = some res) : W p l e zR_Post_copies s m args below meth c H locs 0 0 (MQ below (zu_Ql D cA ad A res.1 res.2.1 res.2.2) args s 0 0 A) (F0 m 17 ls []) := by
  obtain ⟨hx, hb, hml, hown, hts, hST⟩ := id B
  unfold fn_Post_copies_L17 at hf
  refine lv_aload_n hx hb zd_Post_copies_17 rfl (lv_at hl 0 rfl) ?_
  refine lv_ldc (v := -1000001) hx hb hown (hts _ zq_226) zd_Post_copies_18 ?_
  obtain ⟨v7, X8, hq9, hf⟩ := zu_b2_e hf
  refine zw_Post_finding (rest := []) B hP hS hq9 zq_227 (Nat.le_of_ble_eq_true rfl) (Nat.le_of_ble_eq_true rfl) hl.1 rfl (Nat.le_of_ble_eq_true rfl) zd_Post_copies_20 (by decide) (fun H locs hP hS => ?_)
  clear hq9
  refine lv_i2l hx hb zd_Post_copies_23 rfl ?_
  obtain rfl := Option.some.inj hf
  exact zr_lret hx hb hret hlk hP hS zd_Post_copies_24
set_option maxHeartbeats 4000000 in
theorem zl_Post_copies {p : Program} {l : Launch} {e : Env} {s : State} {m : MethodId} {args : Array Value} {below : List Frame} {meth : Method} {c : Code} {D : va_G} {cA : Nat → ClassId} {ad : Nat → Nat} {A : Nat → Prop} (B : zu_B p s m args c zb_Post_copies 7 "StonePost" D cA ad A) (hret : meth.sig.returnType = (some .long)) (hlk : meth.locks = false) {res : Int64 × IX × LX} {a1 : Int32} {a2 : Int32} {X : IX} {Y : LX} (H : Heap) (locs : List Loc) (ls : Array Slot) (hP : va_P D zu_cl (zu_pic cA ad X Y) H) (hS : va_S A s.heap H locs) (hl : lv_has ls 7 [(0, .ref (ad 0)), (1, .int a1), (2, .int a2)]) (hf : fn_Post_copies a1 a2 X Y = some res) : W p l e zR_Post_copies s m args below meth c H locs 0 0 (MQ below (zu_Ql D cA ad A res.1 res.2.1 res.2.2) args s 0 0 A) (F0 m 0 ls []) := by
  obtain ⟨hx, hb, hml, hown, hts, hST⟩ := id B
  unfold fn_Post_copies at hf
  refine lv_iload_n hx hb zd_Post_copies_0 rfl (lv_at hl 1 rfl) ?_
  obtain ⟨v1, hq2, hf⟩ := zu_b1_e hf
  refine zw_Post_isCell (rest := []) B hP hS hq2 zq_220 (Nat.le_of_ble_eq_true rfl) (Nat.le_of_ble_eq_true rfl) hl.1 rfl (Nat.le_of_ble_eq_true rfl) zd_Post_copies_1 (by decide) (fun H locs hP hS => ?_)
  clear hq2
  refine lv_if_eq (tgt := 17) hx hb zd_Post_copies_4 (by decide) (fun c3 => ?_) (fun c3 => ?_)
  · have hf := zu_t c3 hf
    exact zl_Post_copies_L17 B hret hlk X Y _ _ _ hP hS (lv_sub hl [0] rfl) hf
  · have hf := zu_f c3 hf
    refine lv_iload_n hx hb zd_Post_copies_7 rfl (lv_at hl 2 rfl) ?_
    refine lv_iconst (v := 0) hx hb zd_Post_copies_8 (by decide) ?_
    refine lv_bipush (v := 7) hx hb zd_Post_copies_9 (by decide) ?_
    obtain ⟨v4, hq5, hf⟩ := zu_b1_e hf
    refine zw_Post_isWithin (rest := []) B hP hS hq5 zq_223 (Nat.le_of_ble_eq_true rfl) (Nat.le_of_ble_eq_true rfl) hl.1 rfl (Nat.le_of_ble_eq_true rfl) zd_Post_copies_11 (by decide) (fun H locs hP hS => ?_)
    clear hq5
    refine lv_if_ne (tgt := 25) hx hb zd_Post_copies_14 (by decide) (fun c6 => ?_) (fun c6 => ?_)
    · have hf := zu_f c6 hf
      refine lv_lconst (v := 1) hx hb zd_Post_copies_25 (by decide) ?_
      refine lv_lstore_n (lv' := [(3, .long (1 : Int64)), (0, .ref (ad 0)), (1, .int a1), (2, .int a2)]) hx hb zd_Post_copies_26 rfl hl (by decide) rfl (fun ls hl => ?_)
      refine lv_iconst (v := 0) hx hb zd_Post_copies_27 (by decide) ?_
      refine lv_istore (lv' := [(5, .int (0 : Int32)), (3, .long (1 : Int64)), (0, .ref (ad 0)), (1, .int a1), (2, .int a2)]) hx hb zd_Post_copies_28 hl (by decide) rfl (fun ls hl => ?_)
      exact zl_Post_copies_L30 B hret hlk 400 a1 a2 (1 : Int64) (0 : Int32) X Y _ _ _ hP hS (lv_sub hl [2, 3, 4, 1, 0] rfl) hf
    · have hf := zu_t c6 hf
      exact zl_Post_copies_L17 B hret hlk X Y _ _ _ hP hS (lv_sub hl [0] rfl) hf
theorem zC_Post_copies (l : Launch) {D : va_G} {cA : Nat → ClassId} {ad : Nat → Nat} {A : Nat → Prop} {a1 : Int32} {a2 : Int32} {X : IX} {Y : LX} {res : Int64 × IX × LX} (hf : fn_Post_copies a1 a2 X Y = some res) : Met l zm_Post_copies (zu_ws zm_Post_copies zb_Post_copies 7 (some .long)) zR_Post_copies (va_Pc [.ref (ad 0), .int a1, .int a2] (zu_Pre D cA ad A X Y)) (zu_Ql D cA ad A res.1 res.2.1 res.2.2) 0 0 A := by
  refine Met.ofW (cc := zb_Post_copies) (maxL := 7) (ret := (some .long)) (by decide +kernel) rfl ?_
  intro p e s m args below meth c s₁ B0 hml hv
  obtain ⟨rfl, hP, hST⟩ := hv
  have B : zu_B p s m _ c zb_Post_copies 7 "StonePost" D cA ad A := ⟨B0.exec, B0.bytes, hml, findClass_of_methodNamed B0.named, (fun w hw => atoms_spec (ws := zu_ws zm_Post_copies zb_Post_copies 7 (some .long)) B0.pre w (List.mem_cons_of_mem _ hw)), hST⟩
  have hl := lv_entry ([.ref (ad 0), .int a1, .int a2]) (n := 7) (Nat.le_of_ble_eq_true rfl)
  rw [lg_entry_eq]
  generalize (lg_sl ([.ref (ad 0), .int a1, .int a2]) ++ List.replicate (7 - (lg_sl ([.ref (ad 0), .int a1, .int a2])).length) Slot.unset).toArray = ls at hl ⊢
  exact zl_Post_copies B B0.returns B0.notSynchronized s.heap [] ls hP va_S.rf hl  hf
theorem zw_Post_copies {p : Program} {l : Launch} {e : Env} {R : Room} {s : State} {m : MethodId} {args : Array Value} {below : List Frame} {meth : Method} {c : Code} {H : Heap} {locs : List Loc} {cells slots : Nat} {Q : State → Prop} {cc : ByteArray} {pc nL : Nat} {ls : Array Slot} {rest st0 : List Value} {D : va_G} {cA : Nat → ClassId} {ad : Nat → Nat} {A : Nat → Prop} {X : IX} {Y : LX} {own : String} {index : Nat} {a1 : Int32} {a2 : Int32} {v1 : Int64} {X1 : IX} {Y1 : LX} (B : zu_B p s m args c cc nL own D cA ad A) (hP : va_P D zu_cl (zu_pic cA ad X Y) H) (hS : va_S A s.heap H locs) (hq : fn_Post_copies a1 a2 X Y = some (v1, X1, Y1)) (m1 : Cond.methodLink own index zm_Post_copies ∈ zu_TB) (hR1 : 7 + 1 ≤ R.frames) (hR2 : 8 + (7 + 11) + 161 ≤ R.locals) (hsz : ls.size = nL) (hst : st0 = .int a2 :: .int a1 :: .ref (ad 0) :: rest) (hw : (rest.map fun v => v.category).sum ≤ 8) (hdg : decode cc pc = .ok (.invokevirtual index, 3)) (h00 : cells ≤ R.cells ∧ slots ≤ R.slots) (kk : ∀ (H1 : Heap) (locs1 : List Loc), va_P D zu_cl (zu_pic cA ad X1 Y1) H1 → va_S A s.heap H1 locs1 → W p l e R s m args below meth c H1 locs1 cells slots Q (F0 m (pc + 3) ls (.long v1 :: rest))) : W p l e R s m args below meth c H locs cells slots Q (F0 m pc ls st0) := by
  subst hst
  exact zr_cVl (As := [.int a1, .int a2]) (rest := rest) (n := 2) (C := "StonePost") (T := zt_Post) (N := 8) B hP hS (zC_Post_copies l  hq) (K := 1) rfl (by decide) (by decide) rfl rfl m1 zq_557 zq_558 zq_1 zq_559 (by decide +kernel) ⟨hR1, hR2⟩ rfl rfl rfl hsz rfl hw hdg h00 kk
abbrev zR_Thr_canHit : Room := { frames := 3, cells := 0, slots := 0, locals := 65 }
theorem zd_Thr_canHit_0 : decode zb_Thr_canHit 0 = .ok (.iconst 0, 1) := by decide +kernel
theorem zd_Thr_canHit_1 : decode zb_Thr_canHit 1 = .ok (.istore_n 3, 1) := by decide +kernel
theorem zd_Thr_canHit_2 : decode zb_Thr_canHit 2 = .ok (.iload_n 3, 1) := by decide +kernel
theorem zd_Thr_canHit_3 : decode zb_Thr_canHit 3 = .ok (.iconst 1, 1) := by decide +kernel
theorem zd_Thr_canHit_4 : decode zb_Thr_canHit 4 = .ok (.if_icmp .gt 51, 3) := by decide +kernel
theorem zd_Thr_canHit_7 : decode zb_Thr_canHit 7 = .ok (.aload_n 0, 1) := by decide +kernel
theorem zd_Thr_canHit_8 : decode zb_Thr_canHit 8 = .ok (.iload_n 3, 1) := by decide +kernel
theorem zd_Thr_canHit_9 : decode zb_Thr_canHit 9 = .ok (.iload_n 2, 1) := by decide +kernel
theorem zd_Thr_canHit_10 : decode zb_Thr_canHit 10 = .ok (.invokevirtual 58, 3) := by decide +kernel
theorem zd_Thr_canHit_13 : decode zb_Thr_canHit 13 = .ok (.istore 4, 2) := by decide +kernel
theorem zd_Thr_canHit_15 : decode zb_Thr_canHit 15 = .ok (.iload 4, 2) := by decide +kernel
theorem zd_Thr_canHit_17 : decode zb_Thr_canHit 17 = .ok (.ifCond .le 13, 3) := by decide +kernel
theorem zd_Thr_canHit_20 : decode zb_Thr_canHit 20 = .ok (.aload_n 0, 1) := by decide +kernel
theorem zd_Thr_canHit_21 : decode zb_Thr_canHit 21 = .ok (.iload_n 3, 1) := by decide +kernel
theorem zd_Thr_canHit_22 : decode zb_Thr_canHit 22 = .ok (.iload_n 2, 1) := by decide +kernel
theorem zd_Thr_canHit_23 : decode zb_Thr_canHit 23 = .ok (.invokevirtual 61, 3) := by decide +kernel
theorem zd_Thr_canHit_26 : decode zb_Thr_canHit 26 = .ok (.iload_n 1, 1) := by decide +kernel
theorem zd_Thr_canHit_27 : decode zb_Thr_canHit 27 = .ok (.if_icmp .eq 20, 3) := by decide +kernel
theorem zd_Thr_canHit_30 : decode zb_Thr_canHit 30 = .ok (.iload 4, 2) := by decide +kernel
theorem zd_Thr_canHit_32 : decode zb_Thr_canHit 32 = .ok (.bipush 12, 2) := by decide +kernel
theorem zd_Thr_canHit_34 : decode zb_Thr_canHit 34 = .ok (.if_icmp .ge 15, 3) := by decide +kernel
theorem zd_Thr_canHit_37 : decode zb_Thr_canHit 37 = .ok (.aload_n 0, 1) := by decide +kernel
theorem zd_Thr_canHit_38 : decode zb_Thr_canHit 38 = .ok (.iload_n 3, 1) := by decide +kernel
theorem zd_Thr_canHit_39 : decode zb_Thr_canHit 39 = .ok (.iload_n 2, 1) := by decide +kernel
theorem zd_Thr_canHit_40 : decode zb_Thr_canHit 40 = .ok (.invokevirtual 64, 3) := by decide +kernel
theorem zd_Thr_canHit_43 : decode zb_Thr_canHit 43 = .ok (.iload_n 1, 1) := by decide +kernel
theorem zd_Thr_canHit_44 : decode zb_Thr_canHit 44 = .ok (.if_icmp .ne 5, 3) := by decide +kernel
theorem zd_Thr_canHit_47 : decode zb_Thr_canHit 47 = .ok (.iconst 1, 1) := by decide +kernel
theorem zd_Thr_canHit_48 : decode zb_Thr_canHit 48 = .ok (.ireturn, 1) := by decide +kernel
theorem zd_Thr_canHit_49 : decode zb_Thr_canHit 49 = .ok (.iinc 3 1, 3) := by decide +kernel
theorem zd_Thr_canHit_52 : decode zb_Thr_canHit 52 = .ok (.goto (-50), 3) := by decide +kernel
theorem zd_Thr_canHit_55 : decode zb_Thr_canHit 55 = .ok (.iconst 0, 1) := by decide +kernel
theorem zd_Thr_canHit_56 : decode zb_Thr_canHit 56 = .ok (.ireturn, 1) := by decide +kernel
set_option maxHeartbeats 4000000 in
theorem zl_Thr_canHit_L49 {p : Program} {l : Launch} {e : Env} {s : State} {m : MethodId} {args : Array Value} {below : List Frame} {meth : Method} {c : Code} {D : va_G} {cA : Nat → ClassId} {ad : Nat → Nat} {A : Nat → Prop} (B : zu_B p s m args c zb_Thr_canHit 5 "StonePost$Thrower" D cA ad A) (hret : meth.sig.returnType = (some .boolean)) (hlk : meth.locks = false) {X : IX} {Y : LX} {res : Int32} {k2 : Nat → Int32 → Int32 → Int32 → Option Int32} (hk2 : ∀ (r0 : Nat) (x1 : Int32) (x2 : Int32) (x3 : Int32) (H : Heap) (locs : List Loc) (ls : Array Slot), va_P D zu_cl (zu_pic cA ad X Y) H → va_S A s.heap H locs → lv_has ls 5 [(0, .ref (ad r0)), (1, .int x1), (2, .int x2), (3, .int x3)] → zu_kd r0 = 6 → k2 r0 x1 x2 x3 = some res → W p l e zR_Thr_canHit s m args below meth c H locs 0 0 (MQ below (zu_Qi D cA ad A res X Y) args s 0 0 A) (F0 m 2 ls [])) (r0 : Nat) (x1 : Int32) (x2 : Int32) (x3 : Int32) (H : Heap) (locs : List Loc) (ls : Array Slot) (hP : va_P D zu_cl (zu_pic cA ad X Y) H) (hS : va_S A s.heap H locs) (hl : lv_has ls 5 [(0, .ref (ad r0)), (1, .int x1), (2, .int x2), (3, .int x3)]) (hr0 : zu_kd r0 = 6) (hf : fn_Thr_canHit_L49 X k2 r0 x1 x2 x3 = some res) : W p l e zR_Thr_canHit s m args below meth c H locs 0 0 (MQ below (zu_Qi D cA ad A res X Y) args s 0 0 A) (F0 m 49 ls []) := by
  obtain ⟨hx, hb, hml, hown, hts, hST⟩ := id B
  unfold fn_Thr_canHit_L49 at hf
  obtain ⟨v12, ev12, hf⟩ := zu_nx_e hf
  refine lv_iinc (v := v12) (lv' := [(3, .int v12), (0, .ref (ad r0)), (1, .int x1), (2, .int x2)]) hx hb zd_Thr_canHit_49 hl (k := 3) rfl (by rw [ev12]; rfl) (by decide) rfl (fun ls hl => ?_)
  clear ev12
  refine lv_goto (tgt := 2) hx hb zd_Thr_canHit_52 (by decide) ?_
  exact hk2 r0 x1 x2 v12 _ _ _ hP hS (lv_sub hl [1, 2, 3, 0] rfl) hr0 hf
set_option maxHeartbeats 4000000 in
theorem zl_Thr_canHit_L47 {p : Program} {l : Launch} {e : Env} {s : State} {m : MethodId} {args : Array Value} {below : List Frame} {meth : Method} {c : Code} {D : va_G} {cA : Nat → ClassId} {ad : Nat → Nat} {A : Nat → Prop} (B : zu_B p s m args c zb_Thr_canHit 5 "StonePost$Thrower" D cA ad A) (hret : meth.sig.returnType = (some .boolean)) (hlk : meth.locks = false) {X : IX} {Y : LX} {res : Int32} (H : Heap) (locs : List Loc) (ls : Array Slot) (hP : va_P D zu_cl (zu_pic cA ad X Y) H) (hS : va_S A s.heap H locs) (hl : lv_has ls 5 []) (hf : fn_Thr_canHit_L47 X = some res) : W p l e zR_Thr_canHit s m args below meth c H locs 0 0 (MQ below (zu_Qi D cA ad A res X Y) args s 0 0 A) (F0 m 47 ls []) := by
  obtain ⟨hx, hb, hml, hown, hts, hST⟩ := id B
  unfold fn_Thr_canHit_L47 at hf
  refine lv_iconst (v := 1) hx hb zd_Thr_canHit_47 (by decide) ?_
  obtain rfl := Option.some.inj hf
  exact zr_zret hx hb hret hlk hP hS rfl zd_Thr_canHit_48
set_option maxHeartbeats 4000000 in
theorem zl_Thr_canHit_L30 {p : Program} {l : Launch} {e : Env} {s : State} {m : MethodId} {args : Array Value} {below : List Frame} {meth : Method} {c : Code} {D : va_G} {cA : Nat → ClassId} {ad : Nat → Nat} {A : Nat → Prop} (B : zu_B p s m args c zb_Thr_canHit 5 "StonePost$Thrower" D cA ad A) (hret : meth.sig.returnType = (some .boolean)) (hlk : meth.locks = false) {X : IX} {Y : LX} {res : Int32} {k2 : Nat → Int32 → Int32 → Int32 → Option Int32} (hk2 : ∀ (r0 : Nat) (x1 : Int32) (x2 : Int32) (x3 : Int32) (H : Heap) (locs : List Loc) (ls : Array Slot), va_P D zu_cl (zu_pic cA ad X Y) H → va_S A s.heap H locs → lv_has ls 5 [(0, .ref (ad r0)), (1, .int x1), (2, .int x2), (3, .int x3)] → zu_kd r0 = 6 → k2 r0 x1 x2 x3 = some res → W p l e zR_Thr_canHit s m args below meth c H locs 0 0 (MQ below (zu_Qi D cA ad A res X Y) args s 0 0 A) (F0 m 2 ls [])) (r0 : Nat) (x1 : Int32) (x2 : Int32) (x3 : Int32) (x4 : Int32) (H : Heap) (locs : List Loc) (ls : Array Slot) (hP : va_P D zu_cl (zu_pic cA ad X Y) H) (hS : va_S A s.heap H locs) (hl : lv_has ls 5 [(0, .ref (ad r0)), (1, .int x1), (2, .int x2), (3, .int x3), (4, .int x4)]) (hr0 : zu_kd r0 = 6) (hf : fn_Thr_canHit_L30 X k2 r0 x1 x2 x3 x4 = some res) : W p l e zR_Thr_canHit s m args below meth c H locs 0 0 (MQ below (zu_Qi D cA ad A res X Y) args s 0 0 A) (F0 m 30 ls []) := by
  obtain ⟨hx, hb, hml, hown, hts, hST⟩ := id B
  unfold fn_Thr_canHit_L30 at hf
  refine lv_iload hx hb zd_Thr_canHit_30 (lv_at hl 4 rfl) ?_
  refine lv_bipush (v := 12) hx hb zd_Thr_canHit_32 (by decide) ?_
  refine lv_icmp_ge (tgt := 49) hx hb zd_Thr_canHit_34 (by decide) (fun c8 => ?_) (fun c8 => ?_)
  · have hf := zu_t c8 hf
    exact zl_Thr_canHit_L49 B hret hlk hk2 r0 x1 x2 x3 _ _ _ hP hS (lv_sub hl [0, 1, 2, 3] rfl) hr0 hf
  · have hf := zu_f c8 hf
    refine lv_aload_n hx hb zd_Thr_canHit_37 rfl (lv_at hl 0 rfl) ?_
    refine lv_iload_n hx hb zd_Thr_canHit_38 rfl (lv_at hl 3 rfl) ?_
    refine lv_iload_n hx hb zd_Thr_canHit_39 rfl (lv_at hl 2 rfl) ?_
    obtain ⟨v9, ehq10, hf⟩ := zu_nx_e hf
    have hq10 := ehq10.symm
    refine zw_Thr_shortCell (rest := []) B hP hS hr0 hq10 zq_571 (Nat.le_of_ble_eq_true rfl) (Nat.le_of_ble_eq_true rfl) hl.1 rfl (Nat.le_of_ble_eq_true rfl) zd_Thr_canHit_40 (by decide) (fun H locs hP hS => ?_)
    clear hq10 ehq10
    refine lv_iload_n hx hb zd_Thr_canHit_43 rfl (lv_at hl 1 rfl) ?_
    refine lv_icmp_ne (tgt := 49) hx hb zd_Thr_canHit_44 (by decide) (fun c11 => ?_) (fun c11 => ?_)
    · have hf := zu_f c11 hf
      exact zl_Thr_canHit_L49 B hret hlk hk2 r0 x1 x2 x3 _ _ _ hP hS (lv_sub hl [0, 1, 2, 3] rfl) hr0 hf
    · have hf := zu_t c11 hf
      exact zl_Thr_canHit_L47 B hret hlk _ _ _ hP hS (lv_sub hl [] rfl) hf
set_option maxHeartbeats 4000000 in
theorem zl_Thr_canHit_B2 {p : Program} {l : Launch} {e : Env} {s : State} {m : MethodId} {args : Array Value} {below : List Frame} {meth : Method} {c : Code} {D : va_G} {cA : Nat → ClassId} {ad : Nat → Nat} {A : Nat → Prop} (B : zu_B p s m args c zb_Thr_canHit 5 "StonePost$Thrower" D cA ad A) (hret : meth.sig.returnType = (some .boolean)) (hlk : meth.locks = false) {X : IX} {Y : LX} {res : Int32} {k2 : Nat → Int32 → Int32 → Int32 → Option Int32} (hk2 : ∀ (r0 : Nat) (x1 : Int32) (x2 : Int32) (x3 : Int32) (H : Heap) (locs : List Loc) (ls : Array Slot), va_P D zu_cl (zu_pic cA ad X Y) H → va_S A s.heap H locs → lv_has ls 5 [(0, .ref (ad r0)), (1, .int x1), (2, .int x2), (3, .int x3)] → zu_kd r0 = 6 → k2 r0 x1 x2 x3 = some res → W p l e zR_Thr_canHit s m args below meth c H locs 0 0 (MQ below (zu_Qi D cA ad A res X Y) args s 0 0 A) (F0 m 2 ls [])) (r0 : Nat) (x1 : Int32) (x2 : Int32) (x3 : Int32) (H : Heap) (locs : List Loc) (ls : Array Slot) (hP : va_P D zu_cl (zu_pic cA ad X Y) H) (hS : va_S A s.heap H locs) (hl : lv_has ls 5 [(0, .ref (ad r0)), (1, .int x1), (2, .int x2), (3, .int x3)]) (hr0 : zu_kd r0 = 6) (hf : fn_Thr_canHit_B2 X k2 r0 x1 x2 x3 = some res) : W p l e zR_Thr_canHit s m args below meth c H locs 0 0 (MQ below (zu_Qi D cA ad A res X Y) args s 0 0 A) (F0 m 2 ls []) := by
  obtain ⟨hx, hb, hml, hown, hts, hST⟩ := id B
  unfold fn_Thr_canHit_B2 at hf
  refine lv_iload_n hx hb zd_Thr_canHit_2 rfl (lv_at hl 3 rfl) ?_
  refine lv_iconst (v := 1) hx hb zd_Thr_canHit_3 (by decide) ?_
  refine lv_icmp_gt (tgt := 55) hx hb zd_Thr_canHit_4 (by decide) (fun c1 => ?_) (fun c1 => ?_)
  · have hf := zu_t c1 hf
    refine lv_iconst (v := 0) hx hb zd_Thr_canHit_55 (by decide) ?_
    obtain rfl := Option.some.inj hf
    exact zr_zret hx hb hret hlk hP hS rfl zd_Thr_canHit_56
  · have hf := zu_f c1 hf
    refine lv_aload_n hx hb zd_Thr_canHit_7 rfl (lv_at hl 0 rfl) ?_
    refine lv_iload_n hx hb zd_Thr_canHit_8 rfl (lv_at hl 3 rfl) ?_
    refine lv_iload_n hx hb zd_Thr_canHit_9 rfl (lv_at hl 2 rfl) ?_
    obtain ⟨v2, ehq3, hf⟩ := zu_nx_e hf
    have hq3 := ehq3.symm
    refine zw_Thr_sure (rest := []) B hP hS hr0 hq3 zq_569 (Nat.le_of_ble_eq_true rfl) (Nat.le_of_ble_eq_true rfl) hl.1 rfl (Nat.le_of_ble_eq_true rfl) zd_Thr_canHit_10 (by decide) (fun H locs hP hS => ?_)
    clear hq3 ehq3
    refine lv_istore (lv' := [(4, .int v2), (0, .ref (ad r0)), (1, .int x1), (2, .int x2), (3, .int x3)]) hx hb zd_Thr_canHit_13 hl (by decide) rfl (fun ls hl => ?_)
    refine lv_iload hx hb zd_Thr_canHit_15 (lv_at hl 0 rfl) ?_
    refine lv_if_le (tgt := 30) hx hb zd_Thr_canHit_17 (by decide) (fun c4 => ?_) (fun c4 => ?_)
    · have hf := zu_t c4 hf
      exact zl_Thr_canHit_L30 B hret hlk hk2 r0 x1 x2 x3 v2 _ _ _ hP hS (lv_sub hl [1, 2, 3, 4, 0] rfl) hr0 hf
    · have hf := zu_f c4 hf
      refine lv_aload_n hx hb zd_Thr_canHit_20 rfl (lv_at hl 1 rfl) ?_
      refine lv_iload_n hx hb zd_Thr_canHit_21 rfl (lv_at hl 4 rfl) ?_
      refine lv_iload_n hx hb zd_Thr_canHit_22 rfl (lv_at hl 3 rfl) ?_
      obtain ⟨v5, ehq6, hf⟩ := zu_nx_e hf
      have hq6 := ehq6.symm
      refine zw_Thr_toldCell (rest := []) B hP hS hr0 hq6 zq_570 (Nat.le_of_ble_eq_true rfl) (Nat.le_of_ble_eq_true rfl) hl.1 rfl (Nat.le_of_ble_eq_true rfl) zd_Thr_canHit_23 (by decide) (fun H locs hP hS => ?_)
      clear hq6 ehq6
      refine lv_iload_n hx hb zd_Thr_canHit_26 rfl (lv_at hl 2 rfl) ?_
      refine lv_icmp_eq (tgt := 47) hx hb zd_Thr_canHit_27 (by decide) (fun c7 => ?_) (fun c7 => ?_)
      · have hf := zu_t c7 hf
        exact zl_Thr_canHit_L47 B hret hlk _ _ _ hP hS (lv_sub hl [] rfl) hf
      · have hf := zu_f c7 hf
        exact zl_Thr_canHit_L30 B hret hlk hk2 r0 x1 x2 x3 v2 _ _ _ hP hS (lv_sub hl [1, 2, 3, 4, 0] rfl) hr0 hf
theorem zl_Thr_canHit_L2 {p : Program} {l : Launch} {e : Env} {s : State} {m : MethodId} {args : Array Value} {below : List Frame} {meth : Method} {c : Code} {D : va_G} {cA : Nat → ClassId} {ad : Nat → Nat} {A : Nat → Prop} (B : zu_B p s m args c zb_Thr_canHit 5 "StonePost$Thrower" D cA ad A) (hret : meth.sig.returnType = (some .boolean)) (hlk : meth.locks = false) {X : IX} {Y : LX} {res : Int32} : ∀ (n : Nat) (r0 : Nat) (x1 : Int32) (x2 : Int32) (x3 : Int32) (H : Heap) (locs : List Loc) (ls : Array Slot), va_P D zu_cl (zu_pic cA ad X Y) H → va_S A s.heap H locs → lv_has ls 5 [(0, .ref (ad r0)), (1, .int x1), (2, .int x2), (3, .int x3)] → zu_kd r0 = 6 → fn_Thr_canHit_L2 X n r0 x1 x2 x3 = some res → W p l e zR_Thr_canHit s m args below meth c H locs 0 0 (MQ below (zu_Qi D cA ad A res X Y) args s 0 0 A) (F0 m 2 ls []) := by
  intro n
  induction n with
  | zero =>
    intro r0 x1 x2 x3 H locs ls hP hS hl hr0 hf
    exact (Option.some_ne_none _ hf.symm).elim
  | succ n ih =>
    intro r0 x1 x2 x3 H locs ls hP hS hl hr0 hf
    exact zl_Thr_canHit_B2 B hret hlk ih r0 x1 x2 x3 H locs ls hP hS hl hr0 hf
set_option maxHeartbeats 4000000 in
theorem zl_Thr_canHit {p : Program} {l : Launch} {e : Env} {s : State} {m : MethodId} {args : Array Value} {below : List Frame} {meth : Method} {c : Code} {D : va_G} {cA : Nat → ClassId} {ad : Nat → Nat} {A : Nat → Prop} (B : zu_B p s m args c zb_Thr_canHit 5 "StonePost$Thrower" D cA ad A) (hret : meth.sig.returnType = (some .boolean)) (hlk : meth.locks = false) {X : IX} {Y : LX} {res : Int32} {r0 : Nat} {a1 : Int32} {a2 : Int32} (H : Heap) (locs : List Loc) (ls : Array Slot) (hP : va_P D zu_cl (zu_pic cA ad X Y) H) (hS : va_S A s.heap H locs) (hl : lv_has ls 5 [(0, .ref (ad r0)), (1, .int a1), (2, .int a2)]) (hr0 : zu_kd r0 = 6) (hf : fn_Thr_canHit X r0 a1 a2 = some res) : W p l e zR_Thr_canHit s m args below meth c H locs 0 0 (MQ below (zu_Qi D cA ad A res X Y) args s 0 0 A) (F0 m 0 ls []) := by
  obtain ⟨hx, hb, hml, hown, hts, hST⟩ := id B
  unfold fn_Thr_canHit at hf
  refine lv_iconst (v := 0) hx hb zd_Thr_canHit_0 (by decide) ?_
  refine lv_istore_n (lv' := [(3, .int (0 : Int32)), (0, .ref (ad r0)), (1, .int a1), (2, .int a2)]) hx hb zd_Thr_canHit_1 rfl hl (by decide) rfl (fun ls hl => ?_)
  exact zl_Thr_canHit_L2 B hret hlk 400 r0 a1 a2 (0 : Int32) _ _ _ hP hS (lv_sub hl [1, 2, 3, 0] rfl) hr0 hf
theorem zC_Thr_canHit (l : Launch) {D : va_G} {cA : Nat → ClassId} {ad : Nat → Nat} {A : Nat → Prop} {r0 : Nat} {a1 : Int32} {a2 : Int32} {X : IX} {Y : LX} {res : Int32} (hr0 : zu_kd r0 = 6) (hf : fn_Thr_canHit X r0 a1 a2 = some res) : Met l zm_Thr_canHit (zu_ws zm_Thr_canHit zb_Thr_canHit 5 (some .boolean)) zR_Thr_canHit (va_Pc [.ref (ad r0), .int a1, .int a2] (zu_Pre D cA ad A X Y)) (zu_Qi D cA ad A res X Y) 0 0 A := by
  refine Met.ofW (cc := zb_Thr_canHit) (maxL := 5) (ret := (some .boolean)) (by decide +kernel) rfl ?_
  intro p e s m args below meth c s₁ B0 hml hv
  obtain ⟨rfl, hP, hST⟩ := hv
  have B : zu_B p s m _ c zb_Thr_canHit 5 "StonePost$Thrower" D cA ad A := ⟨B0.exec, B0.bytes, hml, findClass_of_methodNamed B0.named, (fun w hw => atoms_spec (ws := zu_ws zm_Thr_canHit zb_Thr_canHit 5 (some .boolean)) B0.pre w (List.mem_cons_of_mem _ hw)), hST⟩
  have hl := lv_entry ([.ref (ad r0), .int a1, .int a2]) (n := 5) (Nat.le_of_ble_eq_true rfl)
  rw [lg_entry_eq]
  generalize (lg_sl ([.ref (ad r0), .int a1, .int a2]) ++ List.replicate (5 - (lg_sl ([.ref (ad r0), .int a1, .int a2])).length) Slot.unset).toArray = ls at hl ⊢
  exact zl_Thr_canHit B B0.returns B0.notSynchronized s.heap [] ls hP va_S.rf hl hr0 hf
theorem zw_Thr_canHit {p : Program} {l : Launch} {e : Env} {R : Room} {s : State} {m : MethodId} {args : Array Value} {below : List Frame} {meth : Method} {c : Code} {H : Heap} {locs : List Loc} {cells slots : Nat} {Q : State → Prop} {cc : ByteArray} {pc nL : Nat} {ls : Array Slot} {rest st0 : List Value} {D : va_G} {cA : Nat → ClassId} {ad : Nat → Nat} {A : Nat → Prop} {X : IX} {Y : LX} {own : String} {index : Nat} {r0 : Nat} {a1 : Int32} {a2 : Int32} {v1 : Int32} (B : zu_B p s m args c cc nL own D cA ad A) (hP : va_P D zu_cl (zu_pic cA ad X Y) H) (hS : va_S A s.heap H locs) (hr0 : zu_kd r0 = 6) (hq : fn_Thr_canHit X r0 a1 a2 = some v1) (m1 : Cond.methodLink own index zm_Thr_canHit ∈ zu_TB) (hR1 : 3 + 1 ≤ R.frames) (hR2 : 8 + (5 + 11) + 65 ≤ R.locals) (hsz : ls.size = nL) (hst : st0 = .int a2 :: .int a1 :: .ref (ad r0) :: rest) (hw : (rest.map fun v => v.category).sum ≤ 8) (hdg : decode cc pc = .ok (.invokevirtual index, 3)) (h00 : cells ≤ R.cells ∧ slots ≤ R.slots) (kk : ∀ (H1 : Heap) (locs1 : List Loc), va_P D zu_cl (zu_pic cA ad X Y) H1 → va_S A s.heap H1 locs1 → W p l e R s m args below meth c H1 locs1 cells slots Q (F0 m (pc + 3) ls (.int v1 :: rest))) : W p l e R s m args below meth c H locs cells slots Q (F0 m pc ls st0) := by
  subst hst
  exact zr_cVi (As := [.int a1, .int a2]) (rest := rest) (n := 2) (C := "StonePost$Thrower") (T := zt_Thr) (N := 1) B hP hS (zC_Thr_canHit l hr0 hq) (K := 6) hr0 (by decide) (by decide) rfl rfl m1 zq_566 zq_567 zq_3 zq_568 (by decide +kernel) ⟨hR1, hR2⟩ rfl rfl rfl hsz rfl hw hdg h00 kk
abbrev zR_Post_whose : Room := { frames := 4, cells := 0, slots := 0, locals := 89 }
theorem zd_Post_whose_0 : decode zb_Post_whose 0 = .ok (.iload_n 1, 1) := by decide +kernel
theorem zd_Post_whose_1 : decode zb_Post_whose 1 = .ok (.invokestatic 47, 3) := by decide +kernel
theorem zd_Post_whose_4 : decode zb_Post_whose 4 = .ok (.ifCond .eq 13, 3) := by decide +kernel
theorem zd_Post_whose_7 : decode zb_Post_whose 7 = .ok (.iload_n 2, 1) := by decide +kernel
theorem zd_Post_whose_8 : decode zb_Post_whose 8 = .ok (.iconst 0, 1) := by decide +kernel
theorem zd_Post_whose_9 : decode zb_Post_whose 9 = .ok (.bipush 23, 2) := by decide +kernel
theorem zd_Post_whose_11 : decode zb_Post_whose 11 = .ok (.invokestatic 51, 3) := by decide +kernel
theorem zd_Post_whose_14 : decode zb_Post_whose 14 = .ok (.ifCond .ne 10, 3) := by decide +kernel
theorem zd_Post_whose_17 : decode zb_Post_whose 17 = .ok (.aload_n 0, 1) := by decide +kernel
theorem zd_Post_whose_18 : decode zb_Post_whose 18 = .ok (.ldc 55, 2) := by decide +kernel
theorem zd_Post_whose_20 : decode zb_Post_whose 20 = .ok (.invokevirtual 56, 3) := by decide +kernel
theorem zd_Post_whose_23 : decode zb_Post_whose 23 = .ok (.ireturn, 1) := by decide +kernel
theorem zd_Post_whose_24 : decode zb_Post_whose 24 = .ok (.iconst 0, 1) := by decide +kernel
theorem zd_Post_whose_25 : decode zb_Post_whose 25 = .ok (.istore_n 3, 1) := by decide +kernel
theorem zd_Post_whose_26 : decode zb_Post_whose 26 = .ok (.iconst 0, 1) := by decide +kernel
theorem zd_Post_whose_27 : decode zb_Post_whose 27 = .ok (.istore 4, 2) := by decide +kernel
theorem zd_Post_whose_29 : decode zb_Post_whose 29 = .ok (.iload 4, 2) := by decide +kernel
theorem zd_Post_whose_31 : decode zb_Post_whose 31 = .ok (.aload_n 0, 1) := by decide +kernel
theorem zd_Post_whose_32 : decode zb_Post_whose 32 = .ok (.getfield 10, 3) := by decide +kernel
theorem zd_Post_whose_35 : decode zb_Post_whose 35 = .ok (.getfield 182, 3) := by decide +kernel
theorem zd_Post_whose_38 : decode zb_Post_whose 38 = .ok (.if_icmp .ge 37, 3) := by decide +kernel
theorem zd_Post_whose_41 : decode zb_Post_whose 41 = .ok (.aload_n 0, 1) := by decide +kernel
theorem zd_Post_whose_42 : decode zb_Post_whose 42 = .ok (.getfield 10, 3) := by decide +kernel
theorem zd_Post_whose_45 : decode zb_Post_whose 45 = .ok (.getfield 87, 3) := by decide +kernel
theorem zd_Post_whose_48 : decode zb_Post_whose 48 = .ok (.iload 4, 2) := by decide +kernel
theorem zd_Post_whose_50 : decode zb_Post_whose 50 = .ok (.aaload, 1) := by decide +kernel
theorem zd_Post_whose_51 : decode zb_Post_whose 51 = .ok (.iload_n 1, 1) := by decide +kernel
theorem zd_Post_whose_52 : decode zb_Post_whose 52 = .ok (.iload_n 2, 1) := by decide +kernel
theorem zd_Post_whose_53 : decode zb_Post_whose 53 = .ok (.invokestatic 101, 3) := by decide +kernel
theorem zd_Post_whose_56 : decode zb_Post_whose 56 = .ok (.invokevirtual 206, 3) := by decide +kernel
theorem zd_Post_whose_59 : decode zb_Post_whose 59 = .ok (.ifCond .eq 10, 3) := by decide +kernel
theorem zd_Post_whose_62 : decode zb_Post_whose 62 = .ok (.iload_n 3, 1) := by decide +kernel
theorem zd_Post_whose_63 : decode zb_Post_whose 63 = .ok (.iconst 1, 1) := by decide +kernel
theorem zd_Post_whose_64 : decode zb_Post_whose 64 = .ok (.iload 4, 2) := by decide +kernel
theorem zd_Post_whose_66 : decode zb_Post_whose 66 = .ok (.ishl, 1) := by decide +kernel
theorem zd_Post_whose_67 : decode zb_Post_whose 67 = .ok (.ior, 1) := by decide +kernel
theorem zd_Post_whose_68 : decode zb_Post_whose 68 = .ok (.istore_n 3, 1) := by decide +kernel
theorem zd_Post_whose_69 : decode zb_Post_whose 69 = .ok (.iinc 4 1, 3) := by decide +kernel
theorem zd_Post_whose_72 : decode zb_Post_whose 72 = .ok (.goto (-43), 3) := by decide +kernel
theorem zd_Post_whose_75 : decode zb_Post_whose 75 = .ok (.iload_n 3, 1) := by decide +kernel
theorem zd_Post_whose_76 : decode zb_Post_whose 76 = .ok (.ireturn, 1) := by decide +kernel
set_option maxHeartbeats 4000000 in
theorem zl_Post_whose_L69 {p : Program} {l : Launch} {e : Env} {s : State} {m : MethodId} {args : Array Value} {below : List Frame} {meth : Method} {c : Code} {D : va_G} {cA : Nat → ClassId} {ad : Nat → Nat} {A : Nat → Prop} (B : zu_B p s m args c zb_Post_whose 5 "StonePost" D cA ad A) (hret : meth.sig.returnType = (some .int)) (hlk : meth.locks = false) {Y : LX} {res : Int32 × IX} {k29 : Int32 → Int32 → Int32 → Int32 → IX → Option (Int32 × IX)} (hk29 : ∀ (x1 : Int32) (x2 : Int32) (x3 : Int32) (x4 : Int32) (X : IX) (H : Heap) (locs : List Loc) (ls : Array Slot), va_P D zu_cl (zu_pic cA ad X Y) H → va_S A s.heap H locs → lv_has ls 5 [(0, .ref (ad 0)), (1, .int x1), (2, .int x2), (3, .int x3), (4, .int x4)] → k29 x1 x2 x3 x4 X = some res → W p l e zR_Post_whose s m args below meth c H locs 0 0 (MQ below (zu_Qi D cA ad A res.1 res.2 Y) args s 0 0 A) (F0 m 29 ls [])) (x1 : Int32) (x2 : Int32) (x3 : Int32) (x4 : Int32) (X : IX) (H : Heap) (locs : List Loc) (ls : Array Slot) (hP : va_P D zu_cl (zu_pic cA ad X Y) H) (hS : va_S A s.heap H locs) (hl : lv_has ls 5 [(0, .ref (ad 0)), (1, .int x1), (2, .int x2), (3, .int x3), (4, .int x4)]) (hf : fn_Post_whose_L69 k29 x1 x2 x3 x4 X = some res) : W p l e zR_Post_whose s m args below meth c H locs 0 0 (MQ below (zu_Qi D cA ad A res.1 res.2 Y) args s 0 0 A) (F0 m 69 ls []) := by
  obtain ⟨hx, hb, hml, hown, hts, hST⟩ := id B
  unfold fn_Post_whose_L69 at hf
  obtain ⟨v18, ev18, hf⟩ := zu_nx_e hf
  refine lv_iinc (v := v18) (lv' := [(4, .int v18), (0, .ref (ad 0)), (1, .int x1), (2, .int x2), (3, .int x3)]) hx hb zd_Post_whose_69 hl (k := 4) rfl (by rw [ev18]; rfl) (by decide) rfl (fun ls hl => ?_)
  clear ev18
  refine lv_goto (tgt := 29) hx hb zd_Post_whose_72 (by decide) ?_
  exact hk29 x1 x2 x3 v18 X _ _ _ hP hS (lv_sub hl [1, 2, 3, 4, 0] rfl) hf
set_option maxHeartbeats 4000000 in
theorem zl_Post_whose_B29 {p : Program} {l : Launch} {e : Env} {s : State} {m : MethodId} {args : Array Value} {below : List Frame} {meth : Method} {c : Code} {D : va_G} {cA : Nat → ClassId} {ad : Nat → Nat} {A : Nat → Prop} (B : zu_B p s m args c zb_Post_whose 5 "StonePost" D cA ad A) (hret : meth.sig.returnType = (some .int)) (hlk : meth.locks = false) {Y : LX} {res : Int32 × IX} {k29 : Int32 → Int32 → Int32 → Int32 → IX → Option (Int32 × IX)} (hk29 : ∀ (x1 : Int32) (x2 : Int32) (x3 : Int32) (x4 : Int32) (X : IX) (H : Heap) (locs : List Loc) (ls : Array Slot), va_P D zu_cl (zu_pic cA ad X Y) H → va_S A s.heap H locs → lv_has ls 5 [(0, .ref (ad 0)), (1, .int x1), (2, .int x2), (3, .int x3), (4, .int x4)] → k29 x1 x2 x3 x4 X = some res → W p l e zR_Post_whose s m args below meth c H locs 0 0 (MQ below (zu_Qi D cA ad A res.1 res.2 Y) args s 0 0 A) (F0 m 29 ls [])) (x1 : Int32) (x2 : Int32) (x3 : Int32) (x4 : Int32) (X : IX) (H : Heap) (locs : List Loc) (ls : Array Slot) (hP : va_P D zu_cl (zu_pic cA ad X Y) H) (hS : va_S A s.heap H locs) (hl : lv_has ls 5 [(0, .ref (ad 0)), (1, .int x1), (2, .int x2), (3, .int x3), (4, .int x4)]) (hf : fn_Post_whose_B29 k29 x1 x2 x3 x4 X = some res) : W p l e zR_Post_whose s m args below meth c H locs 0 0 (MQ below (zu_Qi D cA ad A res.1 res.2 Y) args s 0 0 A) (F0 m 29 ls []) := by
  obtain ⟨hx, hb, hml, hown, hts, hST⟩ := id B
  unfold fn_Post_whose_B29 at hf
  refine lv_iload hx hb zd_Post_whose_29 (lv_at hl 4 rfl) ?_
  refine lv_aload_n hx hb zd_Post_whose_31 rfl (lv_at hl 0 rfl) ?_
  refine zg_Post_land B hP rfl zq_191 zd_Post_whose_32 ?_
  refine zg_Land_throwerCount B hP rfl zq_63 zd_Post_whose_35 ?_
  refine lv_icmp_ge (tgt := 75) hx hb zd_Post_whose_38 (by decide) (fun c10 => ?_) (fun c10 => ?_)
  · have hf := zu_t c10 hf
    refine lv_iload_n hx hb zd_Post_whose_75 rfl (lv_at hl 3 rfl) ?_
    obtain rfl := Option.some.inj hf
    exact zr_iret hx hb hret hlk hP hS zd_Post_whose_76
  · have hf := zu_f c10 hf
    refine lv_aload_n hx hb zd_Post_whose_41 rfl (lv_at hl 0 rfl) ?_
    refine zg_Post_land B hP rfl zq_191 zd_Post_whose_42 ?_
    refine zg_Land_throwers B hP rfl zq_55 zd_Post_whose_45 ?_
    refine lv_iload hx hb zd_Post_whose_48 (lv_at hl 4 rfl) ?_
    obtain ⟨hg11, hf⟩ := zu_gd_e hf
    refine zr_thr rfl B hP (zk_Land_throwers rfl) hg11 zd_Post_whose_50 ?_
    refine lv_iload_n hx hb zd_Post_whose_51 rfl (lv_at hl 1 rfl) ?_
    refine lv_iload_n hx hb zd_Post_whose_52 rfl (lv_at hl 2 rfl) ?_
    obtain ⟨v12, hq13, hf⟩ := zu_b1_e hf
    refine zw_Post_isNight (rest := [.int x1, .ref (ad (zu_th (20 + 6) (x4.toNatClampNeg)))]) B hP hS hq13 zq_292 (Nat.le_of_ble_eq_true rfl) (Nat.le_of_ble_eq_true rfl) hl.1 rfl (Nat.le_of_ble_eq_true rfl) zd_Post_whose_53 (by decide) (fun H locs hP hS => ?_)
    clear hq13
    obtain ⟨v14, hq15, hf⟩ := zu_b1_e hf
    refine zw_Thr_canHit (rest := []) B hP hS (zk_thr (zk_Land_throwers rfl) (zu_ib_lt hg11)) hq15 zq_565 (Nat.le_of_ble_eq_true rfl) (Nat.le_of_ble_eq_true rfl) hl.1 rfl (Nat.le_of_ble_eq_true rfl) zd_Post_whose_56 (by decide) (fun H locs hP hS => ?_)
    clear hq15
    refine lv_if_eq (tgt := 69) hx hb zd_Post_whose_59 (by decide) (fun c16 => ?_) (fun c16 => ?_)
    · have hf := zu_t c16 hf
      exact zl_Post_whose_L69 B hret hlk hk29 x1 x2 x3 x4 X _ _ _ hP hS (lv_sub hl [0, 1, 2, 3, 4] rfl) hf
    · have hf := zu_f c16 hf
      refine lv_iload_n hx hb zd_Post_whose_62 rfl (lv_at hl 3 rfl) ?_
      refine lv_iconst (v := 1) hx hb zd_Post_whose_63 (by decide) ?_
      refine lv_iload hx hb zd_Post_whose_64 (lv_at hl 4 rfl) ?_
      refine lv_ishl hx hb zd_Post_whose_66 ?_
      refine lv_ior hx hb zd_Post_whose_67 ?_
      refine zr_nxi hf (fun v17 hf => ?_)
      refine lv_istore_n (lv' := [(3, .int v17), (0, .ref (ad 0)), (1, .int x1), (2, .int x2), (4, .int x4)]) hx hb zd_Post_whose_68 rfl hl (by decide) rfl (fun ls hl => ?_)
      exact zl_Post_whose_L69 B hret hlk hk29 x1 x2 v17 x4 X _ _ _ hP hS (lv_sub hl [1, 2, 3, 0, 4] rfl) hf
theorem zl_Post_whose_L29 {p : Program} {l : Launch} {e : Env} {s : State} {m : MethodId} {args : Array Value} {below : List Frame} {meth : Method} {c : Code} {D : va_G} {cA : Nat → ClassId} {ad : Nat → Nat} {A : Nat → Prop} (B : zu_B p s m args c zb_Post_whose 5 "StonePost" D cA ad A) (hret : meth.sig.returnType = (some .int)) (hlk : meth.locks = false) {Y : LX} {res : Int32 × IX} : ∀ (n : Nat) (x1 : Int32) (x2 : Int32) (x3 : Int32) (x4 : Int32) (X : IX) (H : Heap) (locs : List Loc) (ls : Array Slot), va_P D zu_cl (zu_pic cA ad X Y) H → va_S A s.heap H locs → lv_has ls 5 [(0, .ref (ad 0)), (1, .int x1), (2, .int x2), (3, .int x3), (4, .int x4)] → fn_Post_whose_L29 n x1 x2 x3 x4 X = some res → W p l e zR_Post_whose s m args below meth c H locs 0 0 (MQ below (zu_Qi D cA ad A res.1 res.2 Y) args s 0 0 A) (F0 m 29 ls []) := by
  intro n
  induction n with
  | zero =>
    intro x1 x2 x3 x4 X H locs ls hP hS hl hf
    exact (Option.some_ne_none _ hf.symm).elim
  | succ n ih =>
    intro x1 x2 x3 x4 X H locs ls hP hS hl hf
    exact zl_Post_whose_B29 B hret hlk ih x1 x2 x3 x4 X H locs ls hP hS hl  hf
set_option maxHeartbeats 4000000 in
theorem zl_Post_whose_L17 {p : Program} {l : Launch} {e : Env} {s : State} {m : MethodId} {args : Array Value} {below : List Frame} {meth : Method} {c : Code} {D : va_G} {cA : Nat → ClassId} {ad : Nat → Nat} {A : Nat → Prop} (B : zu_B p s m args c zb_Post_whose 5 "StonePost" D cA ad A) (hret : meth.sig.returnType = (some .int)) (hlk : meth.locks = false) {Y : LX} {res : Int32 × IX} (X : IX) (H : Heap) (locs : List Loc) (ls : Array Slot) (hP : va_P D zu_cl (zu_pic cA ad X Y) H) (hS : va_S A s.heap H locs) (hl : lv_has ls 5 [(0, .ref (ad 0))]) (hf : fn_Post_whose_L17 X = some res) : W p l e zR_Post_whose s m args below meth c H locs 0 0 (MQ below (zu_Qi D cA ad A res.1 res.2 Y) args s 0 0 A) (F0 m 17 ls []) := by
  obtain ⟨hx, hb, hml, hown, hts, hST⟩ := id B
  unfold fn_Post_whose_L17 at hf
  refine lv_aload_n hx hb zd_Post_whose_17 rfl (lv_at hl 0 rfl) ?_
  refine lv_ldc (v := -1000001) hx hb hown (hts _ zq_226) zd_Post_whose_18 ?_
  obtain ⟨v7, X8, hq9, hf⟩ := zu_b2_e hf
  refine zw_Post_finding (rest := []) B hP hS hq9 zq_227 (Nat.le_of_ble_eq_true rfl) (Nat.le_of_ble_eq_true rfl) hl.1 rfl (Nat.le_of_ble_eq_true rfl) zd_Post_whose_20 (by decide) (fun H locs hP hS => ?_)
  clear hq9
  obtain rfl := Option.some.inj hf
  exact zr_iret hx hb hret hlk hP hS zd_Post_whose_23
set_option maxHeartbeats 4000000 in
theorem zl_Post_whose {p : Program} {l : Launch} {e : Env} {s : State} {m : MethodId} {args : Array Value} {below : List Frame} {meth : Method} {c : Code} {D : va_G} {cA : Nat → ClassId} {ad : Nat → Nat} {A : Nat → Prop} (B : zu_B p s m args c zb_Post_whose 5 "StonePost" D cA ad A) (hret : meth.sig.returnType = (some .int)) (hlk : meth.locks = false) {Y : LX} {res : Int32 × IX} {a1 : Int32} {a2 : Int32} {X : IX} (H : Heap) (locs : List Loc) (ls : Array Slot) (hP : va_P D zu_cl (zu_pic cA ad X Y) H) (hS : va_S A s.heap H locs) (hl : lv_has ls 5 [(0, .ref (ad 0)), (1, .int a1), (2, .int a2)]) (hf : fn_Post_whose a1 a2 X = some res) : W p l e zR_Post_whose s m args below meth c H locs 0 0 (MQ below (zu_Qi D cA ad A res.1 res.2 Y) args s 0 0 A) (F0 m 0 ls []) := by
  obtain ⟨hx, hb, hml, hown, hts, hST⟩ := id B
  unfold fn_Post_whose at hf
  refine lv_iload_n hx hb zd_Post_whose_0 rfl (lv_at hl 1 rfl) ?_
  obtain ⟨v1, hq2, hf⟩ := zu_b1_e hf
  refine zw_Post_isCell (rest := []) B hP hS hq2 zq_220 (Nat.le_of_ble_eq_true rfl) (Nat.le_of_ble_eq_true rfl) hl.1 rfl (Nat.le_of_ble_eq_true rfl) zd_Post_whose_1 (by decide) (fun H locs hP hS => ?_)
  clear hq2
  refine lv_if_eq (tgt := 17) hx hb zd_Post_whose_4 (by decide) (fun c3 => ?_) (fun c3 => ?_)
  · have hf := zu_t c3 hf
    exact zl_Post_whose_L17 B hret hlk X _ _ _ hP hS (lv_sub hl [0] rfl) hf
  · have hf := zu_f c3 hf
    refine lv_iload_n hx hb zd_Post_whose_7 rfl (lv_at hl 2 rfl) ?_
    refine lv_iconst (v := 0) hx hb zd_Post_whose_8 (by decide) ?_
    refine lv_bipush (v := 23) hx hb zd_Post_whose_9 (by decide) ?_
    obtain ⟨v4, hq5, hf⟩ := zu_b1_e hf
    refine zw_Post_isWithin (rest := []) B hP hS hq5 zq_223 (Nat.le_of_ble_eq_true rfl) (Nat.le_of_ble_eq_true rfl) hl.1 rfl (Nat.le_of_ble_eq_true rfl) zd_Post_whose_11 (by decide) (fun H locs hP hS => ?_)
    clear hq5
    refine lv_if_ne (tgt := 24) hx hb zd_Post_whose_14 (by decide) (fun c6 => ?_) (fun c6 => ?_)
    · have hf := zu_f c6 hf
      refine lv_iconst (v := 0) hx hb zd_Post_whose_24 (by decide) ?_
      refine lv_istore_n (lv' := [(3, .int (0 : Int32)), (0, .ref (ad 0)), (1, .int a1), (2, .int a2)]) hx hb zd_Post_whose_25 rfl hl (by decide) rfl (fun ls hl => ?_)
      refine lv_iconst (v := 0) hx hb zd_Post_whose_26 (by decide) ?_
      refine lv_istore (lv' := [(4, .int (0 : Int32)), (3, .int (0 : Int32)), (0, .ref (ad 0)), (1, .int a1), (2, .int a2)]) hx hb zd_Post_whose_27 hl (by decide) rfl (fun ls hl => ?_)
      exact zl_Post_whose_L29 B hret hlk 400 a1 a2 (0 : Int32) (0 : Int32) X _ _ _ hP hS (lv_sub hl [2, 3, 4, 1, 0] rfl) hf
    · have hf := zu_t c6 hf
      exact zl_Post_whose_L17 B hret hlk X _ _ _ hP hS (lv_sub hl [0] rfl) hf
theorem zC_Post_whose (l : Launch) {D : va_G} {cA : Nat → ClassId} {ad : Nat → Nat} {A : Nat → Prop} {a1 : Int32} {a2 : Int32} {X : IX} {Y : LX} {res : Int32 × IX} (hf : fn_Post_whose a1 a2 X = some res) : Met l zm_Post_whose (zu_ws zm_Post_whose zb_Post_whose 5 (some .int)) zR_Post_whose (va_Pc [.ref (ad 0), .int a1, .int a2] (zu_Pre D cA ad A X Y)) (zu_Qi D cA ad A res.1 res.2 Y) 0 0 A := by
  refine Met.ofW (cc := zb_Post_whose) (maxL := 5) (ret := (some .int)) (by decide +kernel) rfl ?_
  intro p e s m args below meth c s₁ B0 hml hv
  obtain ⟨rfl, hP, hST⟩ := hv
  have B : zu_B p s m _ c zb_Post_whose 5 "StonePost" D cA ad A := ⟨B0.exec, B0.bytes, hml, findClass_of_methodNamed B0.named, (fun w hw => atoms_spec (ws := zu_ws zm_Post_whose zb_Post_whose 5 (some .int)) B0.pre w (List.mem_cons_of_mem _ hw)), hST⟩
  have hl := lv_entry ([.ref (ad 0), .int a1, .int a2]) (n := 5) (Nat.le_of_ble_eq_true rfl)
  rw [lg_entry_eq]
  generalize (lg_sl ([.ref (ad 0), .int a1, .int a2]) ++ List.replicate (5 - (lg_sl ([.ref (ad 0), .int a1, .int a2])).length) Slot.unset).toArray = ls at hl ⊢
  exact zl_Post_whose B B0.returns B0.notSynchronized s.heap [] ls hP va_S.rf hl  hf
theorem zw_Post_whose {p : Program} {l : Launch} {e : Env} {R : Room} {s : State} {m : MethodId} {args : Array Value} {below : List Frame} {meth : Method} {c : Code} {H : Heap} {locs : List Loc} {cells slots : Nat} {Q : State → Prop} {cc : ByteArray} {pc nL : Nat} {ls : Array Slot} {rest st0 : List Value} {D : va_G} {cA : Nat → ClassId} {ad : Nat → Nat} {A : Nat → Prop} {X : IX} {Y : LX} {own : String} {index : Nat} {a1 : Int32} {a2 : Int32} {v1 : Int32} {X1 : IX} (B : zu_B p s m args c cc nL own D cA ad A) (hP : va_P D zu_cl (zu_pic cA ad X Y) H) (hS : va_S A s.heap H locs) (hq : fn_Post_whose a1 a2 X = some (v1, X1)) (m1 : Cond.methodLink own index zm_Post_whose ∈ zu_TB) (hR1 : 4 + 1 ≤ R.frames) (hR2 : 8 + (5 + 11) + 89 ≤ R.locals) (hsz : ls.size = nL) (hst : st0 = .int a2 :: .int a1 :: .ref (ad 0) :: rest) (hw : (rest.map fun v => v.category).sum ≤ 8) (hdg : decode cc pc = .ok (.invokevirtual index, 3)) (h00 : cells ≤ R.cells ∧ slots ≤ R.slots) (kk : ∀ (H1 : Heap) (locs1 : List Loc), va_P D zu_cl (zu_pic cA ad X1 Y) H1 → va_S A s.heap H1 locs1 → W p l e R s m args below meth c H1 locs1 cells slots Q (F0 m (pc + 3) ls (.int v1 :: rest))) : W p l e R s m args below meth c H locs cells slots Q (F0 m pc ls st0) := by
  subst hst
  exact zr_cVi (As := [.int a1, .int a2]) (rest := rest) (n := 2) (C := "StonePost") (T := zt_Post) (N := 8) B hP hS (zC_Post_whose l  hq) (K := 1) rfl (by decide) (by decide) rfl rfl m1 zq_562 zq_563 zq_1 zq_564 (by decide +kernel) ⟨hR1, hR2⟩ rfl rfl rfl hsz rfl hw hdg h00 kk
abbrev zR_Chart_ahead : Room := { frames := 3, cells := 0, slots := 0, locals := 68 }
theorem zd_Chart_ahead_0 : decode zb_Chart_ahead 0 = .ok (.iconst 0, 1) := by decide +kernel
theorem zd_Chart_ahead_1 : decode zb_Chart_ahead 1 = .ok (.istore_n 3, 1) := by decide +kernel
theorem zd_Chart_ahead_2 : decode zb_Chart_ahead 2 = .ok (.iconst 0, 1) := by decide +kernel
theorem zd_Chart_ahead_3 : decode zb_Chart_ahead 3 = .ok (.istore 4, 2) := by decide +kernel
theorem zd_Chart_ahead_5 : decode zb_Chart_ahead 5 = .ok (.iload 4, 2) := by decide +kernel
theorem zd_Chart_ahead_7 : decode zb_Chart_ahead 7 = .ok (.bipush 24, 2) := by decide +kernel
theorem zd_Chart_ahead_9 : decode zb_Chart_ahead 9 = .ok (.if_icmp .ge 36, 3) := by decide +kernel
theorem zd_Chart_ahead_12 : decode zb_Chart_ahead 12 = .ok (.aload_n 0, 1) := by decide +kernel
theorem zd_Chart_ahead_13 : decode zb_Chart_ahead 13 = .ok (.aload_n 0, 1) := by decide +kernel
theorem zd_Chart_ahead_14 : decode zb_Chart_ahead 14 = .ok (.iload 4, 2) := by decide +kernel
theorem zd_Chart_ahead_16 : decode zb_Chart_ahead 16 = .ok (.iload_n 2, 1) := by decide +kernel
theorem zd_Chart_ahead_17 : decode zb_Chart_ahead 17 = .ok (.aload_n 0, 1) := by decide +kernel
theorem zd_Chart_ahead_18 : decode zb_Chart_ahead 18 = .ok (.getfield 37, 3) := by decide +kernel
theorem zd_Chart_ahead_21 : decode zb_Chart_ahead 21 = .ok (.invokevirtual 105, 3) := by decide +kernel
theorem zd_Chart_ahead_24 : decode zb_Chart_ahead 24 = .ok (.invokevirtual 108, 3) := by decide +kernel
theorem zd_Chart_ahead_27 : decode zb_Chart_ahead 27 = .ok (.iload_n 1, 1) := by decide +kernel
theorem zd_Chart_ahead_28 : decode zb_Chart_ahead 28 = .ok (.iand, 1) := by decide +kernel
theorem zd_Chart_ahead_29 : decode zb_Chart_ahead 29 = .ok (.ifCond .eq 10, 3) := by decide +kernel
theorem zd_Chart_ahead_32 : decode zb_Chart_ahead 32 = .ok (.iload_n 3, 1) := by decide +kernel
theorem zd_Chart_ahead_33 : decode zb_Chart_ahead 33 = .ok (.iconst 1, 1) := by decide +kernel
theorem zd_Chart_ahead_34 : decode zb_Chart_ahead 34 = .ok (.iload 4, 2) := by decide +kernel
theorem zd_Chart_ahead_36 : decode zb_Chart_ahead 36 = .ok (.ishl, 1) := by decide +kernel
theorem zd_Chart_ahead_37 : decode zb_Chart_ahead 37 = .ok (.ior, 1) := by decide +kernel
theorem zd_Chart_ahead_38 : decode zb_Chart_ahead 38 = .ok (.istore_n 3, 1) := by decide +kernel
theorem zd_Chart_ahead_39 : decode zb_Chart_ahead 39 = .ok (.iinc 4 1, 3) := by decide +kernel
theorem zd_Chart_ahead_42 : decode zb_Chart_ahead 42 = .ok (.goto (-37), 3) := by decide +kernel
theorem zd_Chart_ahead_45 : decode zb_Chart_ahead 45 = .ok (.iload_n 3, 1) := by decide +kernel
theorem zd_Chart_ahead_46 : decode zb_Chart_ahead 46 = .ok (.ireturn, 1) := by decide +kernel
set_option maxHeartbeats 4000000 in
theorem zl_Chart_ahead_L39 {p : Program} {l : Launch} {e : Env} {s : State} {m : MethodId} {args : Array Value} {below : List Frame} {meth : Method} {c : Code} {D : va_G} {cA : Nat → ClassId} {ad : Nat → Nat} {A : Nat → Prop} (B : zu_B p s m args c zb_Chart_ahead 5 "StonePost$Chart" D cA ad A) (hret : meth.sig.returnType = (some .int)) (hlk : meth.locks = false) {X : IX} {Y : LX} {res : Int32} {k5 : Int32 → Int32 → Int32 → Int32 → Option Int32} (hk5 : ∀ (x1 : Int32) (x2 : Int32) (x3 : Int32) (x4 : Int32) (H : Heap) (locs : List Loc) (ls : Array Slot), va_P D zu_cl (zu_pic cA ad X Y) H → va_S A s.heap H locs → lv_has ls 5 [(0, .ref (ad 1)), (1, .int x1), (2, .int x2), (3, .int x3), (4, .int x4)] → k5 x1 x2 x3 x4 = some res → W p l e zR_Chart_ahead s m args below meth c H locs 0 0 (MQ below (zu_Qi D cA ad A res X Y) args s 0 0 A) (F0 m 5 ls [])) (x1 : Int32) (x2 : Int32) (x3 : Int32) (x4 : Int32) (H : Heap) (locs : List Loc) (ls : Array Slot) (hP : va_P D zu_cl (zu_pic cA ad X Y) H) (hS : va_S A s.heap H locs) (hl : lv_has ls 5 [(0, .ref (ad 1)), (1, .int x1), (2, .int x2), (3, .int x3), (4, .int x4)]) (hf : fn_Chart_ahead_L39 X k5 x1 x2 x3 x4 = some res) : W p l e zR_Chart_ahead s m args below meth c H locs 0 0 (MQ below (zu_Qi D cA ad A res X Y) args s 0 0 A) (F0 m 39 ls []) := by
  obtain ⟨hx, hb, hml, hown, hts, hST⟩ := id B
  unfold fn_Chart_ahead_L39 at hf
  obtain ⟨v8, ev8, hf⟩ := zu_nx_e hf
  refine lv_iinc (v := v8) (lv' := [(4, .int v8), (0, .ref (ad 1)), (1, .int x1), (2, .int x2), (3, .int x3)]) hx hb zd_Chart_ahead_39 hl (k := 4) rfl (by rw [ev8]; rfl) (by decide) rfl (fun ls hl => ?_)
  clear ev8
  refine lv_goto (tgt := 5) hx hb zd_Chart_ahead_42 (by decide) ?_
  exact hk5 x1 x2 x3 v8 _ _ _ hP hS (lv_sub hl [1, 2, 3, 4, 0] rfl) hf
set_option maxHeartbeats 4000000 in
theorem zl_Chart_ahead_B5 {p : Program} {l : Launch} {e : Env} {s : State} {m : MethodId} {args : Array Value} {below : List Frame} {meth : Method} {c : Code} {D : va_G} {cA : Nat → ClassId} {ad : Nat → Nat} {A : Nat → Prop} (B : zu_B p s m args c zb_Chart_ahead 5 "StonePost$Chart" D cA ad A) (hret : meth.sig.returnType = (some .int)) (hlk : meth.locks = false) {X : IX} {Y : LX} {res : Int32} {k5 : Int32 → Int32 → Int32 → Int32 → Option Int32} (hk5 : ∀ (x1 : Int32) (x2 : Int32) (x3 : Int32) (x4 : Int32) (H : Heap) (locs : List Loc) (ls : Array Slot), va_P D zu_cl (zu_pic cA ad X Y) H → va_S A s.heap H locs → lv_has ls 5 [(0, .ref (ad 1)), (1, .int x1), (2, .int x2), (3, .int x3), (4, .int x4)] → k5 x1 x2 x3 x4 = some res → W p l e zR_Chart_ahead s m args below meth c H locs 0 0 (MQ below (zu_Qi D cA ad A res X Y) args s 0 0 A) (F0 m 5 ls [])) (x1 : Int32) (x2 : Int32) (x3 : Int32) (x4 : Int32) (H : Heap) (locs : List Loc) (ls : Array Slot) (hP : va_P D zu_cl (zu_pic cA ad X Y) H) (hS : va_S A s.heap H locs) (hl : lv_has ls 5 [(0, .ref (ad 1)), (1, .int x1), (2, .int x2), (3, .int x3), (4, .int x4)]) (hf : fn_Chart_ahead_B5 X k5 x1 x2 x3 x4 = some res) : W p l e zR_Chart_ahead s m args below meth c H locs 0 0 (MQ below (zu_Qi D cA ad A res X Y) args s 0 0 A) (F0 m 5 ls []) := by
  obtain ⟨hx, hb, hml, hown, hts, hST⟩ := id B
  unfold fn_Chart_ahead_B5 at hf
  refine lv_iload hx hb zd_Chart_ahead_5 (lv_at hl 4 rfl) ?_
  refine lv_bipush (v := 24) hx hb zd_Chart_ahead_7 (by decide) ?_
  refine lv_icmp_ge (tgt := 45) hx hb zd_Chart_ahead_9 (by decide) (fun c1 => ?_) (fun c1 => ?_)
  · have hf := zu_t c1 hf
    refine lv_iload_n hx hb zd_Chart_ahead_45 rfl (lv_at hl 3 rfl) ?_
    obtain rfl := Option.some.inj hf
    exact zr_iret hx hb hret hlk hP hS zd_Chart_ahead_46
  · have hf := zu_f c1 hf
    refine lv_aload_n hx hb zd_Chart_ahead_12 rfl (lv_at hl 0 rfl) ?_
    refine lv_aload_n hx hb zd_Chart_ahead_13 rfl (lv_at hl 0 rfl) ?_
    refine lv_iload hx hb zd_Chart_ahead_14 (lv_at hl 4 rfl) ?_
    refine lv_iload_n hx hb zd_Chart_ahead_16 rfl (lv_at hl 2 rfl) ?_
    refine lv_aload_n hx hb zd_Chart_ahead_17 rfl (lv_at hl 0 rfl) ?_
    refine zg_Chart_choices B hP rfl zq_117 zd_Chart_ahead_18 ?_
    obtain ⟨v2, hq3, hf⟩ := zu_b1_e hf
    refine zw_Chart_chosenRow (rest := [.ref (ad 1)]) B hP hS hq3 zq_457 (Nat.le_of_ble_eq_true rfl) (Nat.le_of_ble_eq_true rfl) hl.1 rfl (Nat.le_of_ble_eq_true rfl) zd_Chart_ahead_21 (by decide) (fun H locs hP hS => ?_)
    clear hq3
    obtain ⟨v4, hq5, hf⟩ := zu_b1_e hf
    refine zw_Chart_cellsOf (rest := []) B hP hS hq5 zq_479 (Nat.le_of_ble_eq_true rfl) (Nat.le_of_ble_eq_true rfl) hl.1 rfl (Nat.le_of_ble_eq_true rfl) zd_Chart_ahead_24 (by decide) (fun H locs hP hS => ?_)
    clear hq5
    refine lv_iload_n hx hb zd_Chart_ahead_27 rfl (lv_at hl 1 rfl) ?_
    refine lv_iand hx hb zd_Chart_ahead_28 ?_
    refine lv_if_eq (tgt := 39) hx hb zd_Chart_ahead_29 (by decide) (fun c6 => ?_) (fun c6 => ?_)
    · have hf := zu_t c6 hf
      exact zl_Chart_ahead_L39 B hret hlk hk5 x1 x2 x3 x4 _ _ _ hP hS (lv_sub hl [0, 1, 2, 3, 4] rfl) hf
    · have hf := zu_f c6 hf
      refine lv_iload_n hx hb zd_Chart_ahead_32 rfl (lv_at hl 3 rfl) ?_
      refine lv_iconst (v := 1) hx hb zd_Chart_ahead_33 (by decide) ?_
      refine lv_iload hx hb zd_Chart_ahead_34 (lv_at hl 4 rfl) ?_
      refine lv_ishl hx hb zd_Chart_ahead_36 ?_
      refine lv_ior hx hb zd_Chart_ahead_37 ?_
      refine zr_nxi hf (fun v7 hf => ?_)
      refine lv_istore_n (lv' := [(3, .int v7), (0, .ref (ad 1)), (1, .int x1), (2, .int x2), (4, .int x4)]) hx hb zd_Chart_ahead_38 rfl hl (by decide) rfl (fun ls hl => ?_)
      exact zl_Chart_ahead_L39 B hret hlk hk5 x1 x2 v7 x4 _ _ _ hP hS (lv_sub hl [1, 2, 3, 0, 4] rfl) hf
theorem zl_Chart_ahead_L5 {p : Program} {l : Launch} {e : Env} {s : State} {m : MethodId} {args : Array Value} {below : List Frame} {meth : Method} {c : Code} {D : va_G} {cA : Nat → ClassId} {ad : Nat → Nat} {A : Nat → Prop} (B : zu_B p s m args c zb_Chart_ahead 5 "StonePost$Chart" D cA ad A) (hret : meth.sig.returnType = (some .int)) (hlk : meth.locks = false) {X : IX} {Y : LX} {res : Int32} : ∀ (n : Nat) (x1 : Int32) (x2 : Int32) (x3 : Int32) (x4 : Int32) (H : Heap) (locs : List Loc) (ls : Array Slot), va_P D zu_cl (zu_pic cA ad X Y) H → va_S A s.heap H locs → lv_has ls 5 [(0, .ref (ad 1)), (1, .int x1), (2, .int x2), (3, .int x3), (4, .int x4)] → fn_Chart_ahead_L5 X n x1 x2 x3 x4 = some res → W p l e zR_Chart_ahead s m args below meth c H locs 0 0 (MQ below (zu_Qi D cA ad A res X Y) args s 0 0 A) (F0 m 5 ls []) := by
  intro n
  induction n with
  | zero =>
    intro x1 x2 x3 x4 H locs ls hP hS hl hf
    exact (Option.some_ne_none _ hf.symm).elim
  | succ n ih =>
    intro x1 x2 x3 x4 H locs ls hP hS hl hf
    exact zl_Chart_ahead_B5 B hret hlk ih x1 x2 x3 x4 H locs ls hP hS hl  hf
set_option maxHeartbeats 4000000 in
theorem zl_Chart_ahead {p : Program} {l : Launch} {e : Env} {s : State} {m : MethodId} {args : Array Value} {below : List Frame} {meth : Method} {c : Code} {D : va_G} {cA : Nat → ClassId} {ad : Nat → Nat} {A : Nat → Prop} (B : zu_B p s m args c zb_Chart_ahead 5 "StonePost$Chart" D cA ad A) (hret : meth.sig.returnType = (some .int)) (hlk : meth.locks = false) {X : IX} {Y : LX} {res : Int32} {a1 : Int32} {a2 : Int32} (H : Heap) (locs : List Loc) (ls : Array Slot) (hP : va_P D zu_cl (zu_pic cA ad X Y) H) (hS : va_S A s.heap H locs) (hl : lv_has ls 5 [(0, .ref (ad 1)), (1, .int a1), (2, .int a2)]) (hf : fn_Chart_ahead X a1 a2 = some res) : W p l e zR_Chart_ahead s m args below meth c H locs 0 0 (MQ below (zu_Qi D cA ad A res X Y) args s 0 0 A) (F0 m 0 ls []) := by
  obtain ⟨hx, hb, hml, hown, hts, hST⟩ := id B
  unfold fn_Chart_ahead at hf
  refine lv_iconst (v := 0) hx hb zd_Chart_ahead_0 (by decide) ?_
  refine lv_istore_n (lv' := [(3, .int (0 : Int32)), (0, .ref (ad 1)), (1, .int a1), (2, .int a2)]) hx hb zd_Chart_ahead_1 rfl hl (by decide) rfl (fun ls hl => ?_)
  refine lv_iconst (v := 0) hx hb zd_Chart_ahead_2 (by decide) ?_
  refine lv_istore (lv' := [(4, .int (0 : Int32)), (3, .int (0 : Int32)), (0, .ref (ad 1)), (1, .int a1), (2, .int a2)]) hx hb zd_Chart_ahead_3 hl (by decide) rfl (fun ls hl => ?_)
  exact zl_Chart_ahead_L5 B hret hlk 400 a1 a2 (0 : Int32) (0 : Int32) _ _ _ hP hS (lv_sub hl [2, 3, 4, 1, 0] rfl) hf
theorem zC_Chart_ahead (l : Launch) {D : va_G} {cA : Nat → ClassId} {ad : Nat → Nat} {A : Nat → Prop} {a1 : Int32} {a2 : Int32} {X : IX} {Y : LX} {res : Int32} (hf : fn_Chart_ahead X a1 a2 = some res) : Met l zm_Chart_ahead (zu_ws zm_Chart_ahead zb_Chart_ahead 5 (some .int)) zR_Chart_ahead (va_Pc [.ref (ad 1), .int a1, .int a2] (zu_Pre D cA ad A X Y)) (zu_Qi D cA ad A res X Y) 0 0 A := by
  refine Met.ofW (cc := zb_Chart_ahead) (maxL := 5) (ret := (some .int)) (by decide +kernel) rfl ?_
  intro p e s m args below meth c s₁ B0 hml hv
  obtain ⟨rfl, hP, hST⟩ := hv
  have B : zu_B p s m _ c zb_Chart_ahead 5 "StonePost$Chart" D cA ad A := ⟨B0.exec, B0.bytes, hml, findClass_of_methodNamed B0.named, (fun w hw => atoms_spec (ws := zu_ws zm_Chart_ahead zb_Chart_ahead 5 (some .int)) B0.pre w (List.mem_cons_of_mem _ hw)), hST⟩
  have hl := lv_entry ([.ref (ad 1), .int a1, .int a2]) (n := 5) (Nat.le_of_ble_eq_true rfl)
  rw [lg_entry_eq]
  generalize (lg_sl ([.ref (ad 1), .int a1, .int a2]) ++ List.replicate (5 - (lg_sl ([.ref (ad 1), .int a1, .int a2])).length) Slot.unset).toArray = ls at hl ⊢
  exact zl_Chart_ahead B B0.returns B0.notSynchronized s.heap [] ls hP va_S.rf hl  hf
theorem zw_Chart_ahead {p : Program} {l : Launch} {e : Env} {R : Room} {s : State} {m : MethodId} {args : Array Value} {below : List Frame} {meth : Method} {c : Code} {H : Heap} {locs : List Loc} {cells slots : Nat} {Q : State → Prop} {cc : ByteArray} {pc nL : Nat} {ls : Array Slot} {rest st0 : List Value} {D : va_G} {cA : Nat → ClassId} {ad : Nat → Nat} {A : Nat → Prop} {X : IX} {Y : LX} {own : String} {index : Nat} {a1 : Int32} {a2 : Int32} {v1 : Int32} (B : zu_B p s m args c cc nL own D cA ad A) (hP : va_P D zu_cl (zu_pic cA ad X Y) H) (hS : va_S A s.heap H locs) (hq : fn_Chart_ahead X a1 a2 = some v1) (m1 : Cond.methodLink own index zm_Chart_ahead ∈ zu_TB) (hR1 : 3 + 1 ≤ R.frames) (hR2 : 8 + (5 + 11) + 68 ≤ R.locals) (hsz : ls.size = nL) (hst : st0 = .int a2 :: .int a1 :: .ref (ad 1) :: rest) (hw : (rest.map fun v => v.category).sum ≤ 8) (hdg : decode cc pc = .ok (.invokevirtual index, 3)) (h00 : cells ≤ R.cells ∧ slots ≤ R.slots) (kk : ∀ (H1 : Heap) (locs1 : List Loc), va_P D zu_cl (zu_pic cA ad X Y) H1 → va_S A s.heap H1 locs1 → W p l e R s m args below meth c H1 locs1 cells slots Q (F0 m (pc + 3) ls (.int v1 :: rest))) : W p l e R s m args below meth c H locs cells slots Q (F0 m pc ls st0) := by
  subst hst
  exact zr_cVi (As := [.int a1, .int a2]) (rest := rest) (n := 2) (C := "StonePost$Chart") (T := zt_Chart) (N := 9) B hP hS (zC_Chart_ahead l  hq) (K := 2) rfl (by decide) (by decide) rfl rfl m1 zq_577 zq_578 zq_5 zq_579 (by decide +kernel) ⟨hR1, hR2⟩ rfl rfl rfl hsz rfl hw hdg h00 kk
abbrev zR_Post_from : Room := { frames := 6, cells := 0, slots := 0, locals := 138 }
theorem zd_Post_from_0 : decode zb_Post_from 0 = .ok (.iload_n 1, 1) := by decide +kernel
theorem zd_Post_from_1 : decode zb_Post_from 1 = .ok (.invokestatic 47, 3) := by decide +kernel
theorem zd_Post_from_4 : decode zb_Post_from 4 = .ok (.ifCond .eq 13, 3) := by decide +kernel
theorem zd_Post_from_7 : decode zb_Post_from 7 = .ok (.iload_n 2, 1) := by decide +kernel
theorem zd_Post_from_8 : decode zb_Post_from 8 = .ok (.iconst 0, 1) := by decide +kernel
theorem zd_Post_from_9 : decode zb_Post_from 9 = .ok (.bipush 20, 2) := by decide +kernel
theorem zd_Post_from_11 : decode zb_Post_from 11 = .ok (.invokestatic 51, 3) := by decide +kernel
theorem zd_Post_from_14 : decode zb_Post_from 14 = .ok (.ifCond .ne 10, 3) := by decide +kernel
theorem zd_Post_from_17 : decode zb_Post_from 17 = .ok (.aload_n 0, 1) := by decide +kernel
theorem zd_Post_from_18 : decode zb_Post_from 18 = .ok (.ldc 55, 2) := by decide +kernel
theorem zd_Post_from_20 : decode zb_Post_from 20 = .ok (.invokevirtual 56, 3) := by decide +kernel
theorem zd_Post_from_23 : decode zb_Post_from 23 = .ok (.ireturn, 1) := by decide +kernel
theorem zd_Post_from_24 : decode zb_Post_from 24 = .ok (.aload_n 0, 1) := by decide +kernel
theorem zd_Post_from_25 : decode zb_Post_from 25 = .ok (.getfield 25, 3) := by decide +kernel
theorem zd_Post_from_28 : decode zb_Post_from 28 = .ok (.aload_n 0, 1) := by decide +kernel
theorem zd_Post_from_29 : decode zb_Post_from 29 = .ok (.getfield 10, 3) := by decide +kernel
theorem zd_Post_from_32 : decode zb_Post_from 32 = .ok (.invokevirtual 136, 3) := by decide +kernel
theorem zd_Post_from_35 : decode zb_Post_from 35 = .ok (.iconst 1, 1) := by decide +kernel
theorem zd_Post_from_36 : decode zb_Post_from 36 = .ok (.iload_n 1, 1) := by decide +kernel
theorem zd_Post_from_37 : decode zb_Post_from 37 = .ok (.ishl, 1) := by decide +kernel
theorem zd_Post_from_38 : decode zb_Post_from 38 = .ok (.istore_n 3, 1) := by decide +kernel
theorem zd_Post_from_39 : decode zb_Post_from 39 = .ok (.iload_n 2, 1) := by decide +kernel
theorem zd_Post_from_40 : decode zb_Post_from 40 = .ok (.iconst 1, 1) := by decide +kernel
theorem zd_Post_from_41 : decode zb_Post_from 41 = .ok (.isub, 1) := by decide +kernel
theorem zd_Post_from_42 : decode zb_Post_from 42 = .ok (.istore 4, 2) := by decide +kernel
theorem zd_Post_from_44 : decode zb_Post_from 44 = .ok (.iload 4, 2) := by decide +kernel
theorem zd_Post_from_46 : decode zb_Post_from 46 = .ok (.ifCond .lt 20, 3) := by decide +kernel
theorem zd_Post_from_49 : decode zb_Post_from 49 = .ok (.aload_n 0, 1) := by decide +kernel
theorem zd_Post_from_50 : decode zb_Post_from 50 = .ok (.getfield 25, 3) := by decide +kernel
theorem zd_Post_from_53 : decode zb_Post_from 53 = .ok (.iload_n 3, 1) := by decide +kernel
theorem zd_Post_from_54 : decode zb_Post_from 54 = .ok (.iload 4, 2) := by decide +kernel
theorem zd_Post_from_56 : decode zb_Post_from 56 = .ok (.invokevirtual 210, 3) := by decide +kernel
theorem zd_Post_from_59 : decode zb_Post_from 59 = .ok (.istore_n 3, 1) := by decide +kernel
theorem zd_Post_from_60 : decode zb_Post_from 60 = .ok (.iinc 4 (-1), 3) := by decide +kernel
theorem zd_Post_from_63 : decode zb_Post_from 63 = .ok (.goto (-19), 3) := by decide +kernel
theorem zd_Post_from_66 : decode zb_Post_from 66 = .ok (.iload_n 3, 1) := by decide +kernel
theorem zd_Post_from_67 : decode zb_Post_from 67 = .ok (.ireturn, 1) := by decide +kernel
set_option maxHeartbeats 4000000 in
theorem zl_Post_from_B44 {p : Program} {l : Launch} {e : Env} {s : State} {m : MethodId} {args : Array Value} {below : List Frame} {meth : Method} {c : Code} {D : va_G} {cA : Nat → ClassId} {ad : Nat → Nat} {A : Nat → Prop} (B : zu_B p s m args c zb_Post_from 5 "StonePost" D cA ad A) (hret : meth.sig.returnType = (some .int)) (hlk : meth.locks = false) {Y : LX} {res : Int32 × IX} {k44 : Int32 → Int32 → IX → Option (Int32 × IX)} (hk44 : ∀ (x3 : Int32) (x4 : Int32) (X : IX) (H : Heap) (locs : List Loc) (ls : Array Slot), va_P D zu_cl (zu_pic cA ad X Y) H → va_S A s.heap H locs → lv_has ls 5 [(0, .ref (ad 0)), (3, .int x3), (4, .int x4)] → k44 x3 x4 X = some res → W p l e zR_Post_from s m args below meth c H locs 0 0 (MQ below (zu_Qi D cA ad A res.1 res.2 Y) args s 0 0 A) (F0 m 44 ls [])) (x3 : Int32) (x4 : Int32) (X : IX) (H : Heap) (locs : List Loc) (ls : Array Slot) (hP : va_P D zu_cl (zu_pic cA ad X Y) H) (hS : va_S A s.heap H locs) (hl : lv_has ls 5 [(0, .ref (ad 0)), (3, .int x3), (4, .int x4)]) (hf : fn_Post_from_B44 k44 x3 x4 X = some res) : W p l e zR_Post_from s m args below meth c H locs 0 0 (MQ below (zu_Qi D cA ad A res.1 res.2 Y) args s 0 0 A) (F0 m 44 ls []) := by
  obtain ⟨hx, hb, hml, hown, hts, hST⟩ := id B
  unfold fn_Post_from_B44 at hf
  refine lv_iload hx hb zd_Post_from_44 (lv_at hl 2 rfl) ?_
  refine lv_if_lt (tgt := 66) hx hb zd_Post_from_46 (by decide) (fun c14 => ?_) (fun c14 => ?_)
  · have hf := zu_t c14 hf
    refine lv_iload_n hx hb zd_Post_from_66 rfl (lv_at hl 1 rfl) ?_
    obtain rfl := Option.some.inj hf
    exact zr_iret hx hb hret hlk hP hS zd_Post_from_67
  · have hf := zu_f c14 hf
    refine lv_aload_n hx hb zd_Post_from_49 rfl (lv_at hl 0 rfl) ?_
    refine zg_Post_chart B hP rfl zq_194 zd_Post_from_50 ?_
    refine lv_iload_n hx hb zd_Post_from_53 rfl (lv_at hl 1 rfl) ?_
    refine lv_iload hx hb zd_Post_from_54 (lv_at hl 2 rfl) ?_
    obtain ⟨v15, hq16, hf⟩ := zu_b1_e hf
    refine zw_Chart_ahead (rest := []) B hP hS hq16 zq_576 (Nat.le_of_ble_eq_true rfl) (Nat.le_of_ble_eq_true rfl) hl.1 rfl (Nat.le_of_ble_eq_true rfl) zd_Post_from_56 (by decide) (fun H locs hP hS => ?_)
    clear hq16
    refine lv_istore_n (lv' := [(3, .int v15), (0, .ref (ad 0)), (4, .int x4)]) hx hb zd_Post_from_59 rfl hl (by decide) rfl (fun ls hl => ?_)
    obtain ⟨v17, ev17, hf⟩ := zu_nx_e hf
    refine lv_iinc (v := v17) (lv' := [(4, .int v17), (3, .int v15), (0, .ref (ad 0))]) hx hb zd_Post_from_60 hl (k := 2) rfl (by rw [ev17]; rfl) (by decide) rfl (fun ls hl => ?_)
    clear ev17
    refine lv_goto (tgt := 44) hx hb zd_Post_from_63 (by decide) ?_
    exact hk44 v15 v17 X _ _ _ hP hS (lv_sub hl [2, 1, 0] rfl) hf
theorem zl_Post_from_L44 {p : Program} {l : Launch} {e : Env} {s : State} {m : MethodId} {args : Array Value} {below : List Frame} {meth : Method} {c : Code} {D : va_G} {cA : Nat → ClassId} {ad : Nat → Nat} {A : Nat → Prop} (B : zu_B p s m args c zb_Post_from 5 "StonePost" D cA ad A) (hret : meth.sig.returnType = (some .int)) (hlk : meth.locks = false) {Y : LX} {res : Int32 × IX} : ∀ (n : Nat) (x3 : Int32) (x4 : Int32) (X : IX) (H : Heap) (locs : List Loc) (ls : Array Slot), va_P D zu_cl (zu_pic cA ad X Y) H → va_S A s.heap H locs → lv_has ls 5 [(0, .ref (ad 0)), (3, .int x3), (4, .int x4)] → fn_Post_from_L44 n x3 x4 X = some res → W p l e zR_Post_from s m args below meth c H locs 0 0 (MQ below (zu_Qi D cA ad A res.1 res.2 Y) args s 0 0 A) (F0 m 44 ls []) := by
  intro n
  induction n with
  | zero =>
    intro x3 x4 X H locs ls hP hS hl hf
    exact (Option.some_ne_none _ hf.symm).elim
  | succ n ih =>
    intro x3 x4 X H locs ls hP hS hl hf
    exact zl_Post_from_B44 B hret hlk ih x3 x4 X H locs ls hP hS hl  hf
set_option maxHeartbeats 4000000 in
theorem zl_Post_from_L17 {p : Program} {l : Launch} {e : Env} {s : State} {m : MethodId} {args : Array Value} {below : List Frame} {meth : Method} {c : Code} {D : va_G} {cA : Nat → ClassId} {ad : Nat → Nat} {A : Nat → Prop} (B : zu_B p s m args c zb_Post_from 5 "StonePost" D cA ad A) (hret : meth.sig.returnType = (some .int)) (hlk : meth.locks = false) {Y : LX} {res : Int32 × IX} (X : IX) (H : Heap) (locs : List Loc) (ls : Array Slot) (hP : va_P D zu_cl (zu_pic cA ad X Y) H) (hS : va_S A s.heap H locs) (hl : lv_has ls 5 [(0, .ref (ad 0))]) (hf : fn_Post_from_L17 X = some res) : W p l e zR_Post_from s m args below meth c H locs 0 0 (MQ below (zu_Qi D cA ad A res.1 res.2 Y) args s 0 0 A) (F0 m 17 ls []) := by
  obtain ⟨hx, hb, hml, hown, hts, hST⟩ := id B
  unfold fn_Post_from_L17 at hf
  refine lv_aload_n hx hb zd_Post_from_17 rfl (lv_at hl 0 rfl) ?_
  refine lv_ldc (v := -1000001) hx hb hown (hts _ zq_226) zd_Post_from_18 ?_
  obtain ⟨v11, X12, hq13, hf⟩ := zu_b2_e hf
  refine zw_Post_finding (rest := []) B hP hS hq13 zq_227 (Nat.le_of_ble_eq_true rfl) (Nat.le_of_ble_eq_true rfl) hl.1 rfl (Nat.le_of_ble_eq_true rfl) zd_Post_from_20 (by decide) (fun H locs hP hS => ?_)
  clear hq13
  obtain rfl := Option.some.inj hf
  exact zr_iret hx hb hret hlk hP hS zd_Post_from_23
set_option maxHeartbeats 4000000 in
theorem zl_Post_from {p : Program} {l : Launch} {e : Env} {s : State} {m : MethodId} {args : Array Value} {below : List Frame} {meth : Method} {c : Code} {D : va_G} {cA : Nat → ClassId} {ad : Nat → Nat} {A : Nat → Prop} (B : zu_B p s m args c zb_Post_from 5 "StonePost" D cA ad A) (hret : meth.sig.returnType = (some .int)) (hlk : meth.locks = false) {Y : LX} {res : Int32 × IX} {a1 : Int32} {a2 : Int32} {X : IX} (H : Heap) (locs : List Loc) (ls : Array Slot) (hP : va_P D zu_cl (zu_pic cA ad X Y) H) (hS : va_S A s.heap H locs) (hl : lv_has ls 5 [(0, .ref (ad 0)), (1, .int a1), (2, .int a2)]) (hf : fn_Post_from a1 a2 X = some res) : W p l e zR_Post_from s m args below meth c H locs 0 0 (MQ below (zu_Qi D cA ad A res.1 res.2 Y) args s 0 0 A) (F0 m 0 ls []) := by
  obtain ⟨hx, hb, hml, hown, hts, hST⟩ := id B
  unfold fn_Post_from at hf
  refine lv_iload_n hx hb zd_Post_from_0 rfl (lv_at hl 1 rfl) ?_
  obtain ⟨v1, hq2, hf⟩ := zu_b1_e hf
  refine zw_Post_isCell (rest := []) B hP hS hq2 zq_220 (Nat.le_of_ble_eq_true rfl) (Nat.le_of_ble_eq_true rfl) hl.1 rfl (Nat.le_of_ble_eq_true rfl) zd_Post_from_1 (by decide) (fun H locs hP hS => ?_)
  clear hq2
  refine lv_if_eq (tgt := 17) hx hb zd_Post_from_4 (by decide) (fun c3 => ?_) (fun c3 => ?_)
  · have hf := zu_t c3 hf
    exact zl_Post_from_L17 B hret hlk X _ _ _ hP hS (lv_sub hl [0] rfl) hf
  · have hf := zu_f c3 hf
    refine lv_iload_n hx hb zd_Post_from_7 rfl (lv_at hl 2 rfl) ?_
    refine lv_iconst (v := 0) hx hb zd_Post_from_8 (by decide) ?_
    refine lv_bipush (v := 20) hx hb zd_Post_from_9 (by decide) ?_
    obtain ⟨v4, hq5, hf⟩ := zu_b1_e hf
    refine zw_Post_isWithin (rest := []) B hP hS hq5 zq_223 (Nat.le_of_ble_eq_true rfl) (Nat.le_of_ble_eq_true rfl) hl.1 rfl (Nat.le_of_ble_eq_true rfl) zd_Post_from_11 (by decide) (fun H locs hP hS => ?_)
    clear hq5
    refine lv_if_ne (tgt := 24) hx hb zd_Post_from_14 (by decide) (fun c6 => ?_) (fun c6 => ?_)
    · have hf := zu_f c6 hf
      refine lv_aload_n hx hb zd_Post_from_24 rfl (lv_at hl 0 rfl) ?_
      refine zg_Post_chart B hP rfl zq_194 zd_Post_from_25 ?_
      refine lv_aload_n hx hb zd_Post_from_28 rfl (lv_at hl 0 rfl) ?_
      refine zg_Post_land B hP rfl zq_191 zd_Post_from_29 ?_
      obtain ⟨X7, hq8, hf⟩ := zu_b1_e hf
      refine zw_Chart_lay (rest := []) B hP hS rfl hq8 zq_382 (Nat.le_of_ble_eq_true rfl) (Nat.le_of_ble_eq_true rfl) hl.1 rfl (Nat.le_of_ble_eq_true rfl) zd_Post_from_32 (by decide) (fun H locs hP hS => ?_)
      clear hq8
      refine lv_iconst (v := 1) hx hb zd_Post_from_35 (by decide) ?_
      refine lv_iload_n hx hb zd_Post_from_36 rfl (lv_at hl 1 rfl) ?_
      refine lv_ishl hx hb zd_Post_from_37 ?_
      refine zr_nxi hf (fun v9 hf => ?_)
      refine lv_istore_n (lv' := [(3, .int v9), (0, .ref (ad 0)), (1, .int a1), (2, .int a2)]) hx hb zd_Post_from_38 rfl hl (by decide) rfl (fun ls hl => ?_)
      refine lv_iload_n hx hb zd_Post_from_39 rfl (lv_at hl 3 rfl) ?_
      refine lv_iconst (v := 1) hx hb zd_Post_from_40 (by decide) ?_
      refine lv_isub hx hb zd_Post_from_41 ?_
      refine zr_nxi hf (fun v10 hf => ?_)
      refine lv_istore (lv' := [(4, .int v10), (3, .int v9), (0, .ref (ad 0)), (1, .int a1), (2, .int a2)]) hx hb zd_Post_from_42 hl (by decide) rfl (fun ls hl => ?_)
      exact zl_Post_from_L44 B hret hlk 400 v9 v10 X7 _ _ _ hP hS (lv_sub hl [2, 1, 0] rfl) hf
    · have hf := zu_t c6 hf
      exact zl_Post_from_L17 B hret hlk X _ _ _ hP hS (lv_sub hl [0] rfl) hf
theorem zC_Post_from (l : Launch) {D : va_G} {cA : Nat → ClassId} {ad : Nat → Nat} {A : Nat → Prop} {a1 : Int32} {a2 : Int32} {X : IX} {Y : LX} {res : Int32 × IX} (hf : fn_Post_from a1 a2 X = some res) : Met l zm_Post_from (zu_ws zm_Post_from zb_Post_from 5 (some .int)) zR_Post_from (va_Pc [.ref (ad 0), .int a1, .int a2] (zu_Pre D cA ad A X Y)) (zu_Qi D cA ad A res.1 res.2 Y) 0 0 A := by
  refine Met.ofW (cc := zb_Post_from) (maxL := 5) (ret := (some .int)) (by decide +kernel) rfl ?_
  intro p e s m args below meth c s₁ B0 hml hv
  obtain ⟨rfl, hP, hST⟩ := hv
  have B : zu_B p s m _ c zb_Post_from 5 "StonePost" D cA ad A := ⟨B0.exec, B0.bytes, hml, findClass_of_methodNamed B0.named, (fun w hw => atoms_spec (ws := zu_ws zm_Post_from zb_Post_from 5 (some .int)) B0.pre w (List.mem_cons_of_mem _ hw)), hST⟩
  have hl := lv_entry ([.ref (ad 0), .int a1, .int a2]) (n := 5) (Nat.le_of_ble_eq_true rfl)
  rw [lg_entry_eq]
  generalize (lg_sl ([.ref (ad 0), .int a1, .int a2]) ++ List.replicate (5 - (lg_sl ([.ref (ad 0), .int a1, .int a2])).length) Slot.unset).toArray = ls at hl ⊢
  exact zl_Post_from B B0.returns B0.notSynchronized s.heap [] ls hP va_S.rf hl  hf
theorem zw_Post_from {p : Program} {l : Launch} {e : Env} {R : Room} {s : State} {m : MethodId} {args : Array Value} {below : List Frame} {meth : Method} {c : Code} {H : Heap} {locs : List Loc} {cells slots : Nat} {Q : State → Prop} {cc : ByteArray} {pc nL : Nat} {ls : Array Slot} {rest st0 : List Value} {D : va_G} {cA : Nat → ClassId} {ad : Nat → Nat} {A : Nat → Prop} {X : IX} {Y : LX} {own : String} {index : Nat} {a1 : Int32} {a2 : Int32} {v1 : Int32} {X1 : IX} (B : zu_B p s m args c cc nL own D cA ad A) (hP : va_P D zu_cl (zu_pic cA ad X Y) H) (hS : va_S A s.heap H locs) (hq : fn_Post_from a1 a2 X = some (v1, X1)) (m1 : Cond.methodLink own index zm_Post_from ∈ zu_TB) (hR1 : 6 + 1 ≤ R.frames) (hR2 : 8 + (5 + 11) + 138 ≤ R.locals) (hsz : ls.size = nL) (hst : st0 = .int a2 :: .int a1 :: .ref (ad 0) :: rest) (hw : (rest.map fun v => v.category).sum ≤ 8) (hdg : decode cc pc = .ok (.invokevirtual index, 3)) (h00 : cells ≤ R.cells ∧ slots ≤ R.slots) (kk : ∀ (H1 : Heap) (locs1 : List Loc), va_P D zu_cl (zu_pic cA ad X1 Y) H1 → va_S A s.heap H1 locs1 → W p l e R s m args below meth c H1 locs1 cells slots Q (F0 m (pc + 3) ls (.int v1 :: rest))) : W p l e R s m args below meth c H locs cells slots Q (F0 m pc ls st0) := by
  subst hst
  exact zr_cVi (As := [.int a1, .int a2]) (rest := rest) (n := 2) (C := "StonePost") (T := zt_Post) (N := 8) B hP hS (zC_Post_from l  hq) (K := 1) rfl (by decide) (by decide) rfl rfl m1 zq_573 zq_574 zq_1 zq_575 (by decide +kernel) ⟨hR1, hR2⟩ rfl rfl rfl hsz rfl hw hdg h00 kk
abbrev zR_Post_isCutOff : Room := { frames := 4, cells := 0, slots := 0, locals := 92 }
theorem zd_Post_isCutOff_0 : decode zb_Post_isCutOff 0 = .ok (.iconst 1, 1) := by decide +kernel
theorem zd_Post_isCutOff_1 : decode zb_Post_isCutOff 1 = .ok (.iload_n 1, 1) := by decide +kernel
theorem zd_Post_isCutOff_2 : decode zb_Post_isCutOff 2 = .ok (.ishl, 1) := by decide +kernel
theorem zd_Post_isCutOff_3 : decode zb_Post_isCutOff 3 = .ok (.istore 4, 2) := by decide +kernel
theorem zd_Post_isCutOff_5 : decode zb_Post_isCutOff 5 = .ok (.iconst 0, 1) := by decide +kernel
theorem zd_Post_isCutOff_6 : decode zb_Post_isCutOff 6 = .ok (.istore 5, 2) := by decide +kernel
theorem zd_Post_isCutOff_8 : decode zb_Post_isCutOff 8 = .ok (.iload 5, 2) := by decide +kernel
theorem zd_Post_isCutOff_10 : decode zb_Post_isCutOff 10 = .ok (.iload_n 2, 1) := by decide +kernel
theorem zd_Post_isCutOff_11 : decode zb_Post_isCutOff 11 = .ok (.if_icmp .ge 28, 3) := by decide +kernel
theorem zd_Post_isCutOff_14 : decode zb_Post_isCutOff 14 = .ok (.aload_n 0, 1) := by decide +kernel
theorem zd_Post_isCutOff_15 : decode zb_Post_isCutOff 15 = .ok (.getfield 25, 3) := by decide +kernel
theorem zd_Post_isCutOff_18 : decode zb_Post_isCutOff 18 = .ok (.iload 4, 2) := by decide +kernel
theorem zd_Post_isCutOff_20 : decode zb_Post_isCutOff 20 = .ok (.iload 5, 2) := by decide +kernel
theorem zd_Post_isCutOff_22 : decode zb_Post_isCutOff 22 = .ok (.invokevirtual 160, 3) := by decide +kernel
theorem zd_Post_isCutOff_25 : decode zb_Post_isCutOff 25 = .ok (.iconst 1, 1) := by decide +kernel
theorem zd_Post_isCutOff_26 : decode zb_Post_isCutOff 26 = .ok (.iload_n 3, 1) := by decide +kernel
theorem zd_Post_isCutOff_27 : decode zb_Post_isCutOff 27 = .ok (.ishl, 1) := by decide +kernel
theorem zd_Post_isCutOff_28 : decode zb_Post_isCutOff 28 = .ok (.iconst (-1), 1) := by decide +kernel
theorem zd_Post_isCutOff_29 : decode zb_Post_isCutOff 29 = .ok (.ixor, 1) := by decide +kernel
theorem zd_Post_isCutOff_30 : decode zb_Post_isCutOff 30 = .ok (.iand, 1) := by decide +kernel
theorem zd_Post_isCutOff_31 : decode zb_Post_isCutOff 31 = .ok (.istore 4, 2) := by decide +kernel
theorem zd_Post_isCutOff_33 : decode zb_Post_isCutOff 33 = .ok (.iinc 5 1, 3) := by decide +kernel
theorem zd_Post_isCutOff_36 : decode zb_Post_isCutOff 36 = .ok (.goto (-28), 3) := by decide +kernel
theorem zd_Post_isCutOff_39 : decode zb_Post_isCutOff 39 = .ok (.iload 4, 2) := by decide +kernel
theorem zd_Post_isCutOff_41 : decode zb_Post_isCutOff 41 = .ok (.aload_n 0, 1) := by decide +kernel
theorem zd_Post_isCutOff_42 : decode zb_Post_isCutOff 42 = .ok (.getfield 10, 3) := by decide +kernel
theorem zd_Post_isCutOff_45 : decode zb_Post_isCutOff 45 = .ok (.getfield 63, 3) := by decide +kernel
theorem zd_Post_isCutOff_48 : decode zb_Post_isCutOff 48 = .ok (.ishr, 1) := by decide +kernel
theorem zd_Post_isCutOff_49 : decode zb_Post_isCutOff 49 = .ok (.iconst 1, 1) := by decide +kernel
theorem zd_Post_isCutOff_50 : decode zb_Post_isCutOff 50 = .ok (.iand, 1) := by decide +kernel
theorem zd_Post_isCutOff_51 : decode zb_Post_isCutOff 51 = .ok (.ifCond .ne 7, 3) := by decide +kernel
theorem zd_Post_isCutOff_54 : decode zb_Post_isCutOff 54 = .ok (.iconst 1, 1) := by decide +kernel
theorem zd_Post_isCutOff_55 : decode zb_Post_isCutOff 55 = .ok (.goto 4, 3) := by decide +kernel
theorem zd_Post_isCutOff_58 : decode zb_Post_isCutOff 58 = .ok (.iconst 0, 1) := by decide +kernel
theorem zd_Post_isCutOff_59 : decode zb_Post_isCutOff 59 = .ok (.ireturn, 1) := by decide +kernel
set_option maxHeartbeats 4000000 in
theorem zl_Post_isCutOff_L59 {p : Program} {l : Launch} {e : Env} {s : State} {m : MethodId} {args : Array Value} {below : List Frame} {meth : Method} {c : Code} {D : va_G} {cA : Nat → ClassId} {ad : Nat → Nat} {A : Nat → Prop} (B : zu_B p s m args c zb_Post_isCutOff 6 "StonePost" D cA ad A) (hret : meth.sig.returnType = (some .boolean)) (hlk : meth.locks = false) {X : IX} {Y : LX} {res : Int32} (y0 : Int32) (H : Heap) (locs : List Loc) (ls : Array Slot) (hP : va_P D zu_cl (zu_pic cA ad X Y) H) (hS : va_S A s.heap H locs) (hl : lv_has ls 6 []) (hf : fn_Post_isCutOff_L59 X y0 = some res) : W p l e zR_Post_isCutOff s m args below meth c H locs 0 0 (MQ below (zu_Qi D cA ad A res X Y) args s 0 0 A) (F0 m 59 ls [.int y0]) := by
  obtain ⟨hx, hb, hml, hown, hts, hST⟩ := id B
  unfold fn_Post_isCutOff_L59 at hf
  obtain ⟨hg8, hf⟩ := zu_gd_e hf
  obtain rfl := Option.some.inj hf
  exact zr_zret hx hb hret hlk hP hS hg8 zd_Post_isCutOff_59
set_option maxHeartbeats 4000000 in
theorem zl_Post_isCutOff_B8 {p : Program} {l : Launch} {e : Env} {s : State} {m : MethodId} {args : Array Value} {below : List Frame} {meth : Method} {c : Code} {D : va_G} {cA : Nat → ClassId} {ad : Nat → Nat} {A : Nat → Prop} (B : zu_B p s m args c zb_Post_isCutOff 6 "StonePost" D cA ad A) (hret : meth.sig.returnType = (some .boolean)) (hlk : meth.locks = false) {X : IX} {Y : LX} {res : Int32} {k8 : Int32 → Int32 → Int32 → Int32 → Option Int32} (hk8 : ∀ (x2 : Int32) (x3 : Int32) (x4 : Int32) (x5 : Int32) (H : Heap) (locs : List Loc) (ls : Array Slot), va_P D zu_cl (zu_pic cA ad X Y) H → va_S A s.heap H locs → lv_has ls 6 [(0, .ref (ad 0)), (2, .int x2), (3, .int x3), (4, .int x4), (5, .int x5)] → k8 x2 x3 x4 x5 = some res → W p l e zR_Post_isCutOff s m args below meth c H locs 0 0 (MQ below (zu_Qi D cA ad A res X Y) args s 0 0 A) (F0 m 8 ls [])) (x2 : Int32) (x3 : Int32) (x4 : Int32) (x5 : Int32) (H : Heap) (locs : List Loc) (ls : Array Slot) (hP : va_P D zu_cl (zu_pic cA ad X Y) H) (hS : va_S A s.heap H locs) (hl : lv_has ls 6 [(0, .ref (ad 0)), (2, .int x2), (3, .int x3), (4, .int x4), (5, .int x5)]) (hf : fn_Post_isCutOff_B8 X k8 x2 x3 x4 x5 = some res) : W p l e zR_Post_isCutOff s m args below meth c H locs 0 0 (MQ below (zu_Qi D cA ad A res X Y) args s 0 0 A) (F0 m 8 ls []) := by
  obtain ⟨hx, hb, hml, hown, hts, hST⟩ := id B
  unfold fn_Post_isCutOff_B8 at hf
  refine lv_iload hx hb zd_Post_isCutOff_8 (lv_at hl 4 rfl) ?_
  refine lv_iload_n hx hb zd_Post_isCutOff_10 rfl (lv_at hl 1 rfl) ?_
  refine lv_icmp_ge (tgt := 39) hx hb zd_Post_isCutOff_11 (by decide) (fun c2 => ?_) (fun c2 => ?_)
  · have hf := zu_t c2 hf
    refine lv_iload hx hb zd_Post_isCutOff_39 (lv_at hl 3 rfl) ?_
    refine lv_aload_n hx hb zd_Post_isCutOff_41 rfl (lv_at hl 0 rfl) ?_
    refine zg_Post_land B hP rfl zq_191 zd_Post_isCutOff_42 ?_
    refine zg_Land_home B hP rfl zq_69 zd_Post_isCutOff_45 ?_
    refine lv_ishr hx hb zd_Post_isCutOff_48 ?_
    refine lv_iconst (v := 1) hx hb zd_Post_isCutOff_49 (by decide) ?_
    refine lv_iand hx hb zd_Post_isCutOff_50 ?_
    refine lv_if_ne (tgt := 58) hx hb zd_Post_isCutOff_51 (by decide) (fun c3 => ?_) (fun c3 => ?_)
    · have hf := zu_f c3 hf
      refine lv_iconst (v := 0) hx hb zd_Post_isCutOff_58 (by decide) ?_
      exact zl_Post_isCutOff_L59 B hret hlk (0 : Int32) _ _ _ hP hS (lv_sub hl [] rfl) hf
    · have hf := zu_t c3 hf
      refine lv_iconst (v := 1) hx hb zd_Post_isCutOff_54 (by decide) ?_
      refine lv_goto (tgt := 59) hx hb zd_Post_isCutOff_55 (by decide) ?_
      exact zl_Post_isCutOff_L59 B hret hlk (1 : Int32) _ _ _ hP hS (lv_sub hl [] rfl) hf
  · have hf := zu_f c2 hf
    refine lv_aload_n hx hb zd_Post_isCutOff_14 rfl (lv_at hl 0 rfl) ?_
    refine zg_Post_chart B hP rfl zq_194 zd_Post_isCutOff_15 ?_
    refine lv_iload hx hb zd_Post_isCutOff_18 (lv_at hl 3 rfl) ?_
    refine lv_iload hx hb zd_Post_isCutOff_20 (lv_at hl 4 rfl) ?_
    obtain ⟨v4, hq5, hf⟩ := zu_b1_e hf
    refine zw_Chart_after (rest := []) B hP hS hq5 zq_483 (Nat.le_of_ble_eq_true rfl) (Nat.le_of_ble_eq_true rfl) hl.1 rfl (Nat.le_of_ble_eq_true rfl) zd_Post_isCutOff_22 (by decide) (fun H locs hP hS => ?_)
    clear hq5
    refine lv_iconst (v := 1) hx hb zd_Post_isCutOff_25 (by decide) ?_
    refine lv_iload_n hx hb zd_Post_isCutOff_26 rfl (lv_at hl 2 rfl) ?_
    refine lv_ishl hx hb zd_Post_isCutOff_27 ?_
    refine lv_iconst (v := -1) hx hb zd_Post_isCutOff_28 (by decide) ?_
    refine lv_ixor hx hb zd_Post_isCutOff_29 ?_
    refine lv_iand hx hb zd_Post_isCutOff_30 ?_
    refine zr_nxi hf (fun v6 hf => ?_)
    refine lv_istore (lv' := [(4, .int v6), (0, .ref (ad 0)), (2, .int x2), (3, .int x3), (5, .int x5)]) hx hb zd_Post_isCutOff_31 hl (by decide) rfl (fun ls hl => ?_)
    obtain ⟨v7, ev7, hf⟩ := zu_nx_e hf
    refine lv_iinc (v := v7) (lv' := [(5, .int v7), (4, .int v6), (0, .ref (ad 0)), (2, .int x2), (3, .int x3)]) hx hb zd_Post_isCutOff_33 hl (k := 4) rfl (by rw [ev7]; rfl) (by decide) rfl (fun ls hl => ?_)
    clear ev7
    refine lv_goto (tgt := 8) hx hb zd_Post_isCutOff_36 (by decide) ?_
    exact hk8 x2 x3 v6 v7 _ _ _ hP hS (lv_sub hl [2, 3, 4, 1, 0] rfl) hf
theorem zl_Post_isCutOff_L8 {p : Program} {l : Launch} {e : Env} {s : State} {m : MethodId} {args : Array Value} {below : List Frame} {meth : Method} {c : Code} {D : va_G} {cA : Nat → ClassId} {ad : Nat → Nat} {A : Nat → Prop} (B : zu_B p s m args c zb_Post_isCutOff 6 "StonePost" D cA ad A) (hret : meth.sig.returnType = (some .boolean)) (hlk : meth.locks = false) {X : IX} {Y : LX} {res : Int32} : ∀ (n : Nat) (x2 : Int32) (x3 : Int32) (x4 : Int32) (x5 : Int32) (H : Heap) (locs : List Loc) (ls : Array Slot), va_P D zu_cl (zu_pic cA ad X Y) H → va_S A s.heap H locs → lv_has ls 6 [(0, .ref (ad 0)), (2, .int x2), (3, .int x3), (4, .int x4), (5, .int x5)] → fn_Post_isCutOff_L8 X n x2 x3 x4 x5 = some res → W p l e zR_Post_isCutOff s m args below meth c H locs 0 0 (MQ below (zu_Qi D cA ad A res X Y) args s 0 0 A) (F0 m 8 ls []) := by
  intro n
  induction n with
  | zero =>
    intro x2 x3 x4 x5 H locs ls hP hS hl hf
    exact (Option.some_ne_none _ hf.symm).elim
  | succ n ih =>
    intro x2 x3 x4 x5 H locs ls hP hS hl hf
    exact zl_Post_isCutOff_B8 B hret hlk ih x2 x3 x4 x5 H locs ls hP hS hl  hf
set_option maxHeartbeats 4000000 in
theorem zl_Post_isCutOff {p : Program} {l : Launch} {e : Env} {s : State} {m : MethodId} {args : Array Value} {below : List Frame} {meth : Method} {c : Code} {D : va_G} {cA : Nat → ClassId} {ad : Nat → Nat} {A : Nat → Prop} (B : zu_B p s m args c zb_Post_isCutOff 6 "StonePost" D cA ad A) (hret : meth.sig.returnType = (some .boolean)) (hlk : meth.locks = false) {X : IX} {Y : LX} {res : Int32} {a1 : Int32} {a2 : Int32} {a3 : Int32} (H : Heap) (locs : List Loc) (ls : Array Slot) (hP : va_P D zu_cl (zu_pic cA ad X Y) H) (hS : va_S A s.heap H locs) (hl : lv_has ls 6 [(0, .ref (ad 0)), (1, .int a1), (2, .int a2), (3, .int a3)]) (hf : fn_Post_isCutOff X a1 a2 a3 = some res) : W p l e zR_Post_isCutOff s m args below meth c H locs 0 0 (MQ below (zu_Qi D cA ad A res X Y) args s 0 0 A) (F0 m 0 ls []) := by
  obtain ⟨hx, hb, hml, hown, hts, hST⟩ := id B
  unfold fn_Post_isCutOff at hf
  refine lv_iconst (v := 1) hx hb zd_Post_isCutOff_0 (by decide) ?_
  refine lv_iload_n hx hb zd_Post_isCutOff_1 rfl (lv_at hl 1 rfl) ?_
  refine lv_ishl hx hb zd_Post_isCutOff_2 ?_
  refine zr_nxi hf (fun v1 hf => ?_)
  refine lv_istore (lv' := [(4, .int v1), (0, .ref (ad 0)), (1, .int a1), (2, .int a2), (3, .int a3)]) hx hb zd_Post_isCutOff_3 hl (by decide) rfl (fun ls hl => ?_)
  refine lv_iconst (v := 0) hx hb zd_Post_isCutOff_5 (by decide) ?_
  refine lv_istore (lv' := [(5, .int (0 : Int32)), (4, .int v1), (0, .ref (ad 0)), (1, .int a1), (2, .int a2), (3, .int a3)]) hx hb zd_Post_isCutOff_6 hl (by decide) rfl (fun ls hl => ?_)
  exact zl_Post_isCutOff_L8 B hret hlk 400 a2 a3 v1 (0 : Int32) _ _ _ hP hS (lv_sub hl [2, 4, 5, 1, 0] rfl) hf
theorem zC_Post_isCutOff (l : Launch) {D : va_G} {cA : Nat → ClassId} {ad : Nat → Nat} {A : Nat → Prop} {a1 : Int32} {a2 : Int32} {a3 : Int32} {X : IX} {Y : LX} {res : Int32} (hf : fn_Post_isCutOff X a1 a2 a3 = some res) : Met l zm_Post_isCutOff (zu_ws zm_Post_isCutOff zb_Post_isCutOff 6 (some .boolean)) zR_Post_isCutOff (va_Pc [.ref (ad 0), .int a1, .int a2, .int a3] (zu_Pre D cA ad A X Y)) (zu_Qi D cA ad A res X Y) 0 0 A := by
  refine Met.ofW (cc := zb_Post_isCutOff) (maxL := 6) (ret := (some .boolean)) (by decide +kernel) rfl ?_
  intro p e s m args below meth c s₁ B0 hml hv
  obtain ⟨rfl, hP, hST⟩ := hv
  have B : zu_B p s m _ c zb_Post_isCutOff 6 "StonePost" D cA ad A := ⟨B0.exec, B0.bytes, hml, findClass_of_methodNamed B0.named, (fun w hw => atoms_spec (ws := zu_ws zm_Post_isCutOff zb_Post_isCutOff 6 (some .boolean)) B0.pre w (List.mem_cons_of_mem _ hw)), hST⟩
  have hl := lv_entry ([.ref (ad 0), .int a1, .int a2, .int a3]) (n := 6) (Nat.le_of_ble_eq_true rfl)
  rw [lg_entry_eq]
  generalize (lg_sl ([.ref (ad 0), .int a1, .int a2, .int a3]) ++ List.replicate (6 - (lg_sl ([.ref (ad 0), .int a1, .int a2, .int a3])).length) Slot.unset).toArray = ls at hl ⊢
  exact zl_Post_isCutOff B B0.returns B0.notSynchronized s.heap [] ls hP va_S.rf hl  hf
theorem zw_Post_isCutOff {p : Program} {l : Launch} {e : Env} {R : Room} {s : State} {m : MethodId} {args : Array Value} {below : List Frame} {meth : Method} {c : Code} {H : Heap} {locs : List Loc} {cells slots : Nat} {Q : State → Prop} {cc : ByteArray} {pc nL : Nat} {ls : Array Slot} {rest st0 : List Value} {D : va_G} {cA : Nat → ClassId} {ad : Nat → Nat} {A : Nat → Prop} {X : IX} {Y : LX} {own : String} {index : Nat} {a1 : Int32} {a2 : Int32} {a3 : Int32} {v1 : Int32} (B : zu_B p s m args c cc nL own D cA ad A) (hP : va_P D zu_cl (zu_pic cA ad X Y) H) (hS : va_S A s.heap H locs) (hq : fn_Post_isCutOff X a1 a2 a3 = some v1) (m1 : Cond.methodLink own index zm_Post_isCutOff ∈ zu_TB) (hR1 : 4 + 1 ≤ R.frames) (hR2 : 8 + (6 + 11) + 92 ≤ R.locals) (hsz : ls.size = nL) (hst : st0 = .int a3 :: .int a2 :: .int a1 :: .ref (ad 0) :: rest) (hw : (rest.map fun v => v.category).sum ≤ 8) (hdg : decode cc pc = .ok (.invokevirtual index, 3)) (h00 : cells ≤ R.cells ∧ slots ≤ R.slots) (kk : ∀ (H1 : Heap) (locs1 : List Loc), va_P D zu_cl (zu_pic cA ad X Y) H1 → va_S A s.heap H1 locs1 → W p l e R s m args below meth c H1 locs1 cells slots Q (F0 m (pc + 3) ls (.int v1 :: rest))) : W p l e R s m args below meth c H locs cells slots Q (F0 m pc ls st0) := by
  subst hst
  exact zr_cVi (As := [.int a1, .int a2, .int a3]) (rest := rest) (n := 3) (C := "StonePost") (T := zt_Post) (N := 8) B hP hS (zC_Post_isCutOff l  hq) (K := 1) rfl (by decide) (by decide) rfl rfl m1 zq_586 zqP_15 zq_1 zq_587 (by decide +kernel) ⟨hR1, hR2⟩ rfl rfl rfl hsz rfl hw hdg h00 kk
abbrev zR_Post_thief : Room := { frames := 6, cells := 0, slots := 0, locals := 138 }
theorem zd_Post_thief_0 : decode zb_Post_thief 0 = .ok (.iload_n 1, 1) := by decide +kernel
theorem zd_Post_thief_1 : decode zb_Post_thief 1 = .ok (.invokestatic 47, 3) := by decide +kernel
theorem zd_Post_thief_4 : decode zb_Post_thief 4 = .ok (.ifCond .eq 13, 3) := by decide +kernel
theorem zd_Post_thief_7 : decode zb_Post_thief 7 = .ok (.iload_n 2, 1) := by decide +kernel
theorem zd_Post_thief_8 : decode zb_Post_thief 8 = .ok (.iconst 1, 1) := by decide +kernel
theorem zd_Post_thief_9 : decode zb_Post_thief 9 = .ok (.bipush 20, 2) := by decide +kernel
theorem zd_Post_thief_11 : decode zb_Post_thief 11 = .ok (.invokestatic 51, 3) := by decide +kernel
theorem zd_Post_thief_14 : decode zb_Post_thief 14 = .ok (.ifCond .ne 10, 3) := by decide +kernel
theorem zd_Post_thief_17 : decode zb_Post_thief 17 = .ok (.aload_n 0, 1) := by decide +kernel
theorem zd_Post_thief_18 : decode zb_Post_thief 18 = .ok (.ldc 55, 2) := by decide +kernel
theorem zd_Post_thief_20 : decode zb_Post_thief 20 = .ok (.invokevirtual 56, 3) := by decide +kernel
theorem zd_Post_thief_23 : decode zb_Post_thief 23 = .ok (.ireturn, 1) := by decide +kernel
theorem zd_Post_thief_24 : decode zb_Post_thief 24 = .ok (.aload_n 0, 1) := by decide +kernel
theorem zd_Post_thief_25 : decode zb_Post_thief 25 = .ok (.getfield 25, 3) := by decide +kernel
theorem zd_Post_thief_28 : decode zb_Post_thief 28 = .ok (.aload_n 0, 1) := by decide +kernel
theorem zd_Post_thief_29 : decode zb_Post_thief 29 = .ok (.getfield 10, 3) := by decide +kernel
theorem zd_Post_thief_32 : decode zb_Post_thief 32 = .ok (.invokevirtual 136, 3) := by decide +kernel
theorem zd_Post_thief_35 : decode zb_Post_thief 35 = .ok (.iconst 0, 1) := by decide +kernel
theorem zd_Post_thief_36 : decode zb_Post_thief 36 = .ok (.istore_n 3, 1) := by decide +kernel
theorem zd_Post_thief_37 : decode zb_Post_thief 37 = .ok (.iconst 0, 1) := by decide +kernel
theorem zd_Post_thief_38 : decode zb_Post_thief 38 = .ok (.istore 4, 2) := by decide +kernel
theorem zd_Post_thief_40 : decode zb_Post_thief 40 = .ok (.iload 4, 2) := by decide +kernel
theorem zd_Post_thief_42 : decode zb_Post_thief 42 = .ok (.bipush 24, 2) := by decide +kernel
theorem zd_Post_thief_44 : decode zb_Post_thief 44 = .ok (.if_icmp .ge 45, 3) := by decide +kernel
theorem zd_Post_thief_47 : decode zb_Post_thief 47 = .ok (.iload 4, 2) := by decide +kernel
theorem zd_Post_thief_49 : decode zb_Post_thief 49 = .ok (.aload_n 0, 1) := by decide +kernel
theorem zd_Post_thief_50 : decode zb_Post_thief 50 = .ok (.getfield 10, 3) := by decide +kernel
theorem zd_Post_thief_53 : decode zb_Post_thief 53 = .ok (.getfield 63, 3) := by decide +kernel
theorem zd_Post_thief_56 : decode zb_Post_thief 56 = .ok (.if_icmp .eq 27, 3) := by decide +kernel
theorem zd_Post_thief_59 : decode zb_Post_thief 59 = .ok (.iload 4, 2) := by decide +kernel
theorem zd_Post_thief_61 : decode zb_Post_thief 61 = .ok (.iload_n 1, 1) := by decide +kernel
theorem zd_Post_thief_62 : decode zb_Post_thief 62 = .ok (.if_icmp .eq 21, 3) := by decide +kernel
theorem zd_Post_thief_65 : decode zb_Post_thief 65 = .ok (.aload_n 0, 1) := by decide +kernel
theorem zd_Post_thief_66 : decode zb_Post_thief 66 = .ok (.iload_n 1, 1) := by decide +kernel
theorem zd_Post_thief_67 : decode zb_Post_thief 67 = .ok (.iload_n 2, 1) := by decide +kernel
theorem zd_Post_thief_68 : decode zb_Post_thief 68 = .ok (.iload 4, 2) := by decide +kernel
theorem zd_Post_thief_70 : decode zb_Post_thief 70 = .ok (.invokevirtual 213, 3) := by decide +kernel
theorem zd_Post_thief_73 : decode zb_Post_thief 73 = .ok (.ifCond .eq 10, 3) := by decide +kernel
theorem zd_Post_thief_76 : decode zb_Post_thief 76 = .ok (.iload_n 3, 1) := by decide +kernel
theorem zd_Post_thief_77 : decode zb_Post_thief 77 = .ok (.iconst 1, 1) := by decide +kernel
theorem zd_Post_thief_78 : decode zb_Post_thief 78 = .ok (.iload 4, 2) := by decide +kernel
theorem zd_Post_thief_80 : decode zb_Post_thief 80 = .ok (.ishl, 1) := by decide +kernel
theorem zd_Post_thief_81 : decode zb_Post_thief 81 = .ok (.ior, 1) := by decide +kernel
theorem zd_Post_thief_82 : decode zb_Post_thief 82 = .ok (.istore_n 3, 1) := by decide +kernel
theorem zd_Post_thief_83 : decode zb_Post_thief 83 = .ok (.iinc 4 1, 3) := by decide +kernel
theorem zd_Post_thief_86 : decode zb_Post_thief 86 = .ok (.goto (-46), 3) := by decide +kernel
theorem zd_Post_thief_89 : decode zb_Post_thief 89 = .ok (.iload_n 3, 1) := by decide +kernel
theorem zd_Post_thief_90 : decode zb_Post_thief 90 = .ok (.ireturn, 1) := by decide +kernel
set_option maxHeartbeats 4000000 in
theorem zl_Post_thief_L83 {p : Program} {l : Launch} {e : Env} {s : State} {m : MethodId} {args : Array Value} {below : List Frame} {meth : Method} {c : Code} {D : va_G} {cA : Nat → ClassId} {ad : Nat → Nat} {A : Nat → Prop} (B : zu_B p s m args c zb_Post_thief 5 "StonePost" D cA ad A) (hret : meth.sig.returnType = (some .int)) (hlk : meth.locks = false) {Y : LX} {res : Int32 × IX} {k40 : Int32 → Int32 → Int32 → Int32 → IX → Option (Int32 × IX)} (hk40 : ∀ (x1 : Int32) (x2 : Int32) (x3 : Int32) (x4 : Int32) (X : IX) (H : Heap) (locs : List Loc) (ls : Array Slot), va_P D zu_cl (zu_pic cA ad X Y) H → va_S A s.heap H locs → lv_has ls 5 [(0, .ref (ad 0)), (1, .int x1), (2, .int x2), (3, .int x3), (4, .int x4)] → k40 x1 x2 x3 x4 X = some res → W p l e zR_Post_thief s m args below meth c H locs 0 0 (MQ below (zu_Qi D cA ad A res.1 res.2 Y) args s 0 0 A) (F0 m 40 ls [])) (x1 : Int32) (x2 : Int32) (x3 : Int32) (x4 : Int32) (X : IX) (H : Heap) (locs : List Loc) (ls : Array Slot) (hP : va_P D zu_cl (zu_pic cA ad X Y) H) (hS : va_S A s.heap H locs) (hl : lv_has ls 5 [(0, .ref (ad 0)), (1, .int x1), (2, .int x2), (3, .int x3), (4, .int x4)]) (hf : fn_Post_thief_L83 k40 x1 x2 x3 x4 X = some res) : W p l e zR_Post_thief s m args below meth c H locs 0 0 (MQ below (zu_Qi D cA ad A res.1 res.2 Y) args s 0 0 A) (F0 m 83 ls []) := by
  obtain ⟨hx, hb, hml, hown, hts, hST⟩ := id B
  unfold fn_Post_thief_L83 at hf
  obtain ⟨v19, ev19, hf⟩ := zu_nx_e hf
  refine lv_iinc (v := v19) (lv' := [(4, .int v19), (0, .ref (ad 0)), (1, .int x1), (2, .int x2), (3, .int x3)]) hx hb zd_Post_thief_83 hl (k := 4) rfl (by rw [ev19]; rfl) (by decide) rfl (fun ls hl => ?_)
  clear ev19
  refine lv_goto (tgt := 40) hx hb zd_Post_thief_86 (by decide) ?_
  exact hk40 x1 x2 x3 v19 X _ _ _ hP hS (lv_sub hl [1, 2, 3, 4, 0] rfl) hf
set_option maxHeartbeats 4000000 in
theorem zl_Post_thief_B40 {p : Program} {l : Launch} {e : Env} {s : State} {m : MethodId} {args : Array Value} {below : List Frame} {meth : Method} {c : Code} {D : va_G} {cA : Nat → ClassId} {ad : Nat → Nat} {A : Nat → Prop} (B : zu_B p s m args c zb_Post_thief 5 "StonePost" D cA ad A) (hret : meth.sig.returnType = (some .int)) (hlk : meth.locks = false) {Y : LX} {res : Int32 × IX} {k40 : Int32 → Int32 → Int32 → Int32 → IX → Option (Int32 × IX)} (hk40 : ∀ (x1 : Int32) (x2 : Int32) (x3 : Int32) (x4 : Int32) (X : IX) (H : Heap) (locs : List Loc) (ls : Array Slot), va_P D zu_cl (zu_pic cA ad X Y) H → va_S A s.heap H locs → lv_has ls 5 [(0, .ref (ad 0)), (1, .int x1), (2, .int x2), (3, .int x3), (4, .int x4)] → k40 x1 x2 x3 x4 X = some res → W p l e zR_Post_thief s m args below meth c H locs 0 0 (MQ below (zu_Qi D cA ad A res.1 res.2 Y) args s 0 0 A) (F0 m 40 ls [])) (x1 : Int32) (x2 : Int32) (x3 : Int32) (x4 : Int32) (X : IX) (H : Heap) (locs : List Loc) (ls : Array Slot) (hP : va_P D zu_cl (zu_pic cA ad X Y) H) (hS : va_S A s.heap H locs) (hl : lv_has ls 5 [(0, .ref (ad 0)), (1, .int x1), (2, .int x2), (3, .int x3), (4, .int x4)]) (hf : fn_Post_thief_B40 k40 x1 x2 x3 x4 X = some res) : W p l e zR_Post_thief s m args below meth c H locs 0 0 (MQ below (zu_Qi D cA ad A res.1 res.2 Y) args s 0 0 A) (F0 m 40 ls []) := by
  obtain ⟨hx, hb, hml, hown, hts, hST⟩ := id B
  unfold fn_Post_thief_B40 at hf
  refine lv_iload hx hb zd_Post_thief_40 (lv_at hl 4 rfl) ?_
  refine lv_bipush (v := 24) hx hb zd_Post_thief_42 (by decide) ?_
  refine lv_icmp_ge (tgt := 89) hx hb zd_Post_thief_44 (by decide) (fun c12 => ?_) (fun c12 => ?_)
  · have hf := zu_t c12 hf
    refine lv_iload_n hx hb zd_Post_thief_89 rfl (lv_at hl 3 rfl) ?_
    obtain rfl := Option.some.inj hf
    exact zr_iret hx hb hret hlk hP hS zd_Post_thief_90
  · have hf := zu_f c12 hf
    refine lv_iload hx hb zd_Post_thief_47 (lv_at hl 4 rfl) ?_
    refine lv_aload_n hx hb zd_Post_thief_49 rfl (lv_at hl 0 rfl) ?_
    refine zg_Post_land B hP rfl zq_191 zd_Post_thief_50 ?_
    refine zg_Land_home B hP rfl zq_69 zd_Post_thief_53 ?_
    refine lv_icmp_eq (tgt := 83) hx hb zd_Post_thief_56 (by decide) (fun c13 => ?_) (fun c13 => ?_)
    · have hf := zu_t c13 hf
      exact zl_Post_thief_L83 B hret hlk hk40 x1 x2 x3 x4 X _ _ _ hP hS (lv_sub hl [0, 1, 2, 3, 4] rfl) hf
    · have hf := zu_f c13 hf
      refine lv_iload hx hb zd_Post_thief_59 (lv_at hl 4 rfl) ?_
      refine lv_iload_n hx hb zd_Post_thief_61 rfl (lv_at hl 1 rfl) ?_
      refine lv_icmp_eq (tgt := 83) hx hb zd_Post_thief_62 (by decide) (fun c14 => ?_) (fun c14 => ?_)
      · have hf := zu_t c14 hf
        exact zl_Post_thief_L83 B hret hlk hk40 x1 x2 x3 x4 X _ _ _ hP hS (lv_sub hl [0, 1, 2, 3, 4] rfl) hf
      · have hf := zu_f c14 hf
        refine lv_aload_n hx hb zd_Post_thief_65 rfl (lv_at hl 0 rfl) ?_
        refine lv_iload_n hx hb zd_Post_thief_66 rfl (lv_at hl 1 rfl) ?_
        refine lv_iload_n hx hb zd_Post_thief_67 rfl (lv_at hl 2 rfl) ?_
        refine lv_iload hx hb zd_Post_thief_68 (lv_at hl 4 rfl) ?_
        obtain ⟨v15, hq16, hf⟩ := zu_b1_e hf
        refine zw_Post_isCutOff (rest := []) B hP hS hq16 zq_584 (Nat.le_of_ble_eq_true rfl) (Nat.le_of_ble_eq_true rfl) hl.1 rfl (Nat.le_of_ble_eq_true rfl) zd_Post_thief_70 (by decide) (fun H locs hP hS => ?_)
        clear hq16
        refine lv_if_eq (tgt := 83) hx hb zd_Post_thief_73 (by decide) (fun c17 => ?_) (fun c17 => ?_)
        · have hf := zu_t c17 hf
          exact zl_Post_thief_L83 B hret hlk hk40 x1 x2 x3 x4 X _ _ _ hP hS (lv_sub hl [0, 1, 2, 3, 4] rfl) hf
        · have hf := zu_f c17 hf
          refine lv_iload_n hx hb zd_Post_thief_76 rfl (lv_at hl 3 rfl) ?_
          refine lv_iconst (v := 1) hx hb zd_Post_thief_77 (by decide) ?_
          refine lv_iload hx hb zd_Post_thief_78 (lv_at hl 4 rfl) ?_
          refine lv_ishl hx hb zd_Post_thief_80 ?_
          refine lv_ior hx hb zd_Post_thief_81 ?_
          refine zr_nxi hf (fun v18 hf => ?_)
          refine lv_istore_n (lv' := [(3, .int v18), (0, .ref (ad 0)), (1, .int x1), (2, .int x2), (4, .int x4)]) hx hb zd_Post_thief_82 rfl hl (by decide) rfl (fun ls hl => ?_)
          exact zl_Post_thief_L83 B hret hlk hk40 x1 x2 v18 x4 X _ _ _ hP hS (lv_sub hl [1, 2, 3, 0, 4] rfl) hf
theorem zl_Post_thief_L40 {p : Program} {l : Launch} {e : Env} {s : State} {m : MethodId} {args : Array Value} {below : List Frame} {meth : Method} {c : Code} {D : va_G} {cA : Nat → ClassId} {ad : Nat → Nat} {A : Nat → Prop} (B : zu_B p s m args c zb_Post_thief 5 "StonePost" D cA ad A) (hret : meth.sig.returnType = (some .int)) (hlk : meth.locks = false) {Y : LX} {res : Int32 × IX} : ∀ (n : Nat) (x1 : Int32) (x2 : Int32) (x3 : Int32) (x4 : Int32) (X : IX) (H : Heap) (locs : List Loc) (ls : Array Slot), va_P D zu_cl (zu_pic cA ad X Y) H → va_S A s.heap H locs → lv_has ls 5 [(0, .ref (ad 0)), (1, .int x1), (2, .int x2), (3, .int x3), (4, .int x4)] → fn_Post_thief_L40 n x1 x2 x3 x4 X = some res → W p l e zR_Post_thief s m args below meth c H locs 0 0 (MQ below (zu_Qi D cA ad A res.1 res.2 Y) args s 0 0 A) (F0 m 40 ls []) := by
  intro n
  induction n with
  | zero =>
    intro x1 x2 x3 x4 X H locs ls hP hS hl hf
    exact (Option.some_ne_none _ hf.symm).elim
  | succ n ih =>
    intro x1 x2 x3 x4 X H locs ls hP hS hl hf
    exact zl_Post_thief_B40 B hret hlk ih x1 x2 x3 x4 X H locs ls hP hS hl  hf
set_option maxHeartbeats 4000000 in
theorem zl_Post_thief_L17 {p : Program} {l : Launch} {e : Env} {s : State} {m : MethodId} {args : Array Value} {below : List Frame} {meth : Method} {c : Code} {D : va_G} {cA : Nat → ClassId} {ad : Nat → Nat} {A : Nat → Prop} (B : zu_B p s m args c zb_Post_thief 5 "StonePost" D cA ad A) (hret : meth.sig.returnType = (some .int)) (hlk : meth.locks = false) {Y : LX} {res : Int32 × IX} (X : IX) (H : Heap) (locs : List Loc) (ls : Array Slot) (hP : va_P D zu_cl (zu_pic cA ad X Y) H) (hS : va_S A s.heap H locs) (hl : lv_has ls 5 [(0, .ref (ad 0))]) (hf : fn_Post_thief_L17 X = some res) : W p l e zR_Post_thief s m args below meth c H locs 0 0 (MQ below (zu_Qi D cA ad A res.1 res.2 Y) args s 0 0 A) (F0 m 17 ls []) := by
  obtain ⟨hx, hb, hml, hown, hts, hST⟩ := id B
  unfold fn_Post_thief_L17 at hf
  refine lv_aload_n hx hb zd_Post_thief_17 rfl (lv_at hl 0 rfl) ?_
  refine lv_ldc (v := -1000001) hx hb hown (hts _ zq_226) zd_Post_thief_18 ?_
  obtain ⟨v9, X10, hq11, hf⟩ := zu_b2_e hf
  refine zw_Post_finding (rest := []) B hP hS hq11 zq_227 (Nat.le_of_ble_eq_true rfl) (Nat.le_of_ble_eq_true rfl) hl.1 rfl (Nat.le_of_ble_eq_true rfl) zd_Post_thief_20 (by decide) (fun H locs hP hS => ?_)
  clear hq11
  obtain rfl := Option.some.inj hf
  exact zr_iret hx hb hret hlk hP hS zd_Post_thief_23
set_option maxHeartbeats 4000000 in
theorem zl_Post_thief {p : Program} {l : Launch} {e : Env} {s : State} {m : MethodId} {args : Array Value} {below : List Frame} {meth : Method} {c : Code} {D : va_G} {cA : Nat → ClassId} {ad : Nat → Nat} {A : Nat → Prop} (B : zu_B p s m args c zb_Post_thief 5 "StonePost" D cA ad A) (hret : meth.sig.returnType = (some .int)) (hlk : meth.locks = false) {Y : LX} {res : Int32 × IX} {a1 : Int32} {a2 : Int32} {X : IX} (H : Heap) (locs : List Loc) (ls : Array Slot) (hP : va_P D zu_cl (zu_pic cA ad X Y) H) (hS : va_S A s.heap H locs) (hl : lv_has ls 5 [(0, .ref (ad 0)), (1, .int a1), (2, .int a2)]) (hf : fn_Post_thief a1 a2 X = some res) : W p l e zR_Post_thief s m args below meth c H locs 0 0 (MQ below (zu_Qi D cA ad A res.1 res.2 Y) args s 0 0 A) (F0 m 0 ls []) := by
  obtain ⟨hx, hb, hml, hown, hts, hST⟩ := id B
  unfold fn_Post_thief at hf
  refine lv_iload_n hx hb zd_Post_thief_0 rfl (lv_at hl 1 rfl) ?_
  obtain ⟨v1, hq2, hf⟩ := zu_b1_e hf
  refine zw_Post_isCell (rest := []) B hP hS hq2 zq_220 (Nat.le_of_ble_eq_true rfl) (Nat.le_of_ble_eq_true rfl) hl.1 rfl (Nat.le_of_ble_eq_true rfl) zd_Post_thief_1 (by decide) (fun H locs hP hS => ?_)
  clear hq2
  refine lv_if_eq (tgt := 17) hx hb zd_Post_thief_4 (by decide) (fun c3 => ?_) (fun c3 => ?_)
  · have hf := zu_t c3 hf
    exact zl_Post_thief_L17 B hret hlk X _ _ _ hP hS (lv_sub hl [0] rfl) hf
  · have hf := zu_f c3 hf
    refine lv_iload_n hx hb zd_Post_thief_7 rfl (lv_at hl 2 rfl) ?_
    refine lv_iconst (v := 1) hx hb zd_Post_thief_8 (by decide) ?_
    refine lv_bipush (v := 20) hx hb zd_Post_thief_9 (by decide) ?_
    obtain ⟨v4, hq5, hf⟩ := zu_b1_e hf
    refine zw_Post_isWithin (rest := []) B hP hS hq5 zq_223 (Nat.le_of_ble_eq_true rfl) (Nat.le_of_ble_eq_true rfl) hl.1 rfl (Nat.le_of_ble_eq_true rfl) zd_Post_thief_11 (by decide) (fun H locs hP hS => ?_)
    clear hq5
    refine lv_if_ne (tgt := 24) hx hb zd_Post_thief_14 (by decide) (fun c6 => ?_) (fun c6 => ?_)
    · have hf := zu_f c6 hf
      refine lv_aload_n hx hb zd_Post_thief_24 rfl (lv_at hl 0 rfl) ?_
      refine zg_Post_chart B hP rfl zq_194 zd_Post_thief_25 ?_
      refine lv_aload_n hx hb zd_Post_thief_28 rfl (lv_at hl 0 rfl) ?_
      refine zg_Post_land B hP rfl zq_191 zd_Post_thief_29 ?_
      obtain ⟨X7, hq8, hf⟩ := zu_b1_e hf
      refine zw_Chart_lay (rest := []) B hP hS rfl hq8 zq_382 (Nat.le_of_ble_eq_true rfl) (Nat.le_of_ble_eq_true rfl) hl.1 rfl (Nat.le_of_ble_eq_true rfl) zd_Post_thief_32 (by decide) (fun H locs hP hS => ?_)
      clear hq8
      refine lv_iconst (v := 0) hx hb zd_Post_thief_35 (by decide) ?_
      refine lv_istore_n (lv' := [(3, .int (0 : Int32)), (0, .ref (ad 0)), (1, .int a1), (2, .int a2)]) hx hb zd_Post_thief_36 rfl hl (by decide) rfl (fun ls hl => ?_)
      refine lv_iconst (v := 0) hx hb zd_Post_thief_37 (by decide) ?_
      refine lv_istore (lv' := [(4, .int (0 : Int32)), (3, .int (0 : Int32)), (0, .ref (ad 0)), (1, .int a1), (2, .int a2)]) hx hb zd_Post_thief_38 hl (by decide) rfl (fun ls hl => ?_)
      exact zl_Post_thief_L40 B hret hlk 400 a1 a2 (0 : Int32) (0 : Int32) X7 _ _ _ hP hS (lv_sub hl [2, 3, 4, 1, 0] rfl) hf
    · have hf := zu_t c6 hf
      exact zl_Post_thief_L17 B hret hlk X _ _ _ hP hS (lv_sub hl [0] rfl) hf
theorem zC_Post_thief (l : Launch) {D : va_G} {cA : Nat → ClassId} {ad : Nat → Nat} {A : Nat → Prop} {a1 : Int32} {a2 : Int32} {X : IX} {Y : LX} {res : Int32 × IX} (hf : fn_Post_thief a1 a2 X = some res) : Met l zm_Post_thief (zu_ws zm_Post_thief zb_Post_thief 5 (some .int)) zR_Post_thief (va_Pc [.ref (ad 0), .int a1, .int a2] (zu_Pre D cA ad A X Y)) (zu_Qi D cA ad A res.1 res.2 Y) 0 0 A := by
  refine Met.ofW (cc := zb_Post_thief) (maxL := 5) (ret := (some .int)) (by decide +kernel) rfl ?_
  intro p e s m args below meth c s₁ B0 hml hv
  obtain ⟨rfl, hP, hST⟩ := hv
  have B : zu_B p s m _ c zb_Post_thief 5 "StonePost" D cA ad A := ⟨B0.exec, B0.bytes, hml, findClass_of_methodNamed B0.named, (fun w hw => atoms_spec (ws := zu_ws zm_Post_thief zb_Post_thief 5 (some .int)) B0.pre w (List.mem_cons_of_mem _ hw)), hST⟩
  have hl := lv_entry ([.ref (ad 0), .int a1, .int a2]) (n := 5) (Nat.le_of_ble_eq_true rfl)
  rw [lg_entry_eq]
  generalize (lg_sl ([.ref (ad 0), .int a1, .int a2]) ++ List.replicate (5 - (lg_sl ([.ref (ad 0), .int a1, .int a2])).length) Slot.unset).toArray = ls at hl ⊢
  exact zl_Post_thief B B0.returns B0.notSynchronized s.heap [] ls hP va_S.rf hl  hf
theorem zw_Post_thief {p : Program} {l : Launch} {e : Env} {R : Room} {s : State} {m : MethodId} {args : Array Value} {below : List Frame} {meth : Method} {c : Code} {H : Heap} {locs : List Loc} {cells slots : Nat} {Q : State → Prop} {cc : ByteArray} {pc nL : Nat} {ls : Array Slot} {rest st0 : List Value} {D : va_G} {cA : Nat → ClassId} {ad : Nat → Nat} {A : Nat → Prop} {X : IX} {Y : LX} {own : String} {index : Nat} {a1 : Int32} {a2 : Int32} {v1 : Int32} {X1 : IX} (B : zu_B p s m args c cc nL own D cA ad A) (hP : va_P D zu_cl (zu_pic cA ad X Y) H) (hS : va_S A s.heap H locs) (hq : fn_Post_thief a1 a2 X = some (v1, X1)) (m1 : Cond.methodLink own index zm_Post_thief ∈ zu_TB) (hR1 : 6 + 1 ≤ R.frames) (hR2 : 8 + (5 + 11) + 138 ≤ R.locals) (hsz : ls.size = nL) (hst : st0 = .int a2 :: .int a1 :: .ref (ad 0) :: rest) (hw : (rest.map fun v => v.category).sum ≤ 8) (hdg : decode cc pc = .ok (.invokevirtual index, 3)) (h00 : cells ≤ R.cells ∧ slots ≤ R.slots) (kk : ∀ (H1 : Heap) (locs1 : List Loc), va_P D zu_cl (zu_pic cA ad X1 Y) H1 → va_S A s.heap H1 locs1 → W p l e R s m args below meth c H1 locs1 cells slots Q (F0 m (pc + 3) ls (.int v1 :: rest))) : W p l e R s m args below meth c H locs cells slots Q (F0 m pc ls st0) := by
  subst hst
  exact zr_cVi (As := [.int a1, .int a2]) (rest := rest) (n := 2) (C := "StonePost") (T := zt_Post) (N := 8) B hP hS (zC_Post_thief l  hq) (K := 1) rfl (by decide) (by decide) rfl rfl m1 zq_581 zq_582 zq_1 zq_583 (by decide +kernel) ⟨hR1, hR2⟩ rfl rfl rfl hsz rfl hw hdg h00 kk
abbrev zR_Land_sumOf : Room := { frames := 0, cells := 0, slots := 0, locals := 0 }
theorem zd_Land_sumOf_0 : decode zb_Land_sumOf 0 = .ok (.iconst 0, 1) := by decide +kernel
theorem zd_Land_sumOf_1 : decode zb_Land_sumOf 1 = .ok (.istore_n 2, 1) := by decide +kernel
theorem zd_Land_sumOf_2 : decode zb_Land_sumOf 2 = .ok (.iconst 0, 1) := by decide +kernel
theorem zd_Land_sumOf_3 : decode zb_Land_sumOf 3 = .ok (.istore_n 3, 1) := by decide +kernel
theorem zd_Land_sumOf_4 : decode zb_Land_sumOf 4 = .ok (.iload_n 3, 1) := by decide +kernel
theorem zd_Land_sumOf_5 : decode zb_Land_sumOf 5 = .ok (.aload_n 0, 1) := by decide +kernel
theorem zd_Land_sumOf_6 : decode zb_Land_sumOf 6 = .ok (.getfield 53, 3) := by decide +kernel
theorem zd_Land_sumOf_9 : decode zb_Land_sumOf 9 = .ok (.if_icmp .ge 23, 3) := by decide +kernel
theorem zd_Land_sumOf_12 : decode zb_Land_sumOf 12 = .ok (.iload_n 2, 1) := by decide +kernel
theorem zd_Land_sumOf_13 : decode zb_Land_sumOf 13 = .ok (.aload_n 0, 1) := by decide +kernel
theorem zd_Land_sumOf_14 : decode zb_Land_sumOf 14 = .ok (.getfield 17, 3) := by decide +kernel
theorem zd_Land_sumOf_17 : decode zb_Land_sumOf 17 = .ok (.iload_n 3, 1) := by decide +kernel
theorem zd_Land_sumOf_18 : decode zb_Land_sumOf 18 = .ok (.aaload, 1) := by decide +kernel
theorem zd_Land_sumOf_19 : decode zb_Land_sumOf 19 = .ok (.getfield 50, 3) := by decide +kernel
theorem zd_Land_sumOf_22 : decode zb_Land_sumOf 22 = .ok (.iload_n 1, 1) := by decide +kernel
theorem zd_Land_sumOf_23 : decode zb_Land_sumOf 23 = .ok (.iaload, 1) := by decide +kernel
theorem zd_Land_sumOf_24 : decode zb_Land_sumOf 24 = .ok (.iadd, 1) := by decide +kernel
theorem zd_Land_sumOf_25 : decode zb_Land_sumOf 25 = .ok (.istore_n 2, 1) := by decide +kernel
theorem zd_Land_sumOf_26 : decode zb_Land_sumOf 26 = .ok (.iinc 3 1, 3) := by decide +kernel
theorem zd_Land_sumOf_29 : decode zb_Land_sumOf 29 = .ok (.goto (-25), 3) := by decide +kernel
theorem zd_Land_sumOf_32 : decode zb_Land_sumOf 32 = .ok (.iload_n 2, 1) := by decide +kernel
theorem zd_Land_sumOf_33 : decode zb_Land_sumOf 33 = .ok (.ireturn, 1) := by decide +kernel
set_option maxHeartbeats 4000000 in
theorem zl_Land_sumOf_B4 {p : Program} {l : Launch} {e : Env} {s : State} {m : MethodId} {args : Array Value} {below : List Frame} {meth : Method} {c : Code} {D : va_G} {cA : Nat → ClassId} {ad : Nat → Nat} {A : Nat → Prop} (B : zu_B p s m args c zb_Land_sumOf 4 "StonePost$Land" D cA ad A) (hret : meth.sig.returnType = (some .int)) (hlk : meth.locks = false) {X : IX} {Y : LX} {res : Int32} {k4 : Nat → Int32 → Int32 → Int32 → Option Int32} (hk4 : ∀ (r0 : Nat) (x1 : Int32) (x2 : Int32) (x3 : Int32) (H : Heap) (locs : List Loc) (ls : Array Slot), va_P D zu_cl (zu_pic cA ad X Y) H → va_S A s.heap H locs → lv_has ls 4 [(0, .ref (ad r0)), (1, .int x1), (2, .int x2), (3, .int x3)] → zu_kd r0 = 5 → k4 r0 x1 x2 x3 = some res → W p l e zR_Land_sumOf s m args below meth c H locs 0 0 (MQ below (zu_Qi D cA ad A res X Y) args s 0 0 A) (F0 m 4 ls [])) (r0 : Nat) (x1 : Int32) (x2 : Int32) (x3 : Int32) (H : Heap) (locs : List Loc) (ls : Array Slot) (hP : va_P D zu_cl (zu_pic cA ad X Y) H) (hS : va_S A s.heap H locs) (hl : lv_has ls 4 [(0, .ref (ad r0)), (1, .int x1), (2, .int x2), (3, .int x3)]) (hr0 : zu_kd r0 = 5) (hf : fn_Land_sumOf_B4 X k4 r0 x1 x2 x3 = some res) : W p l e zR_Land_sumOf s m args below meth c H locs 0 0 (MQ below (zu_Qi D cA ad A res X Y) args s 0 0 A) (F0 m 4 ls []) := by
  obtain ⟨hx, hb, hml, hown, hts, hST⟩ := id B
  unfold fn_Land_sumOf_B4 at hf
  refine lv_iload_n hx hb zd_Land_sumOf_4 rfl (lv_at hl 3 rfl) ?_
  refine lv_aload_n hx hb zd_Land_sumOf_5 rfl (lv_at hl 0 rfl) ?_
  refine zg_Land_throwerCount B hP hr0 zq_61 zd_Land_sumOf_6 ?_
  refine lv_icmp_ge (tgt := 32) hx hb zd_Land_sumOf_9 (by decide) (fun c1 => ?_) (fun c1 => ?_)
  · have hf := zu_t c1 hf
    refine lv_iload_n hx hb zd_Land_sumOf_32 rfl (lv_at hl 2 rfl) ?_
    obtain rfl := Option.some.inj hf
    exact zr_iret hx hb hret hlk hP hS zd_Land_sumOf_33
  · have hf := zu_f c1 hf
    refine lv_iload_n hx hb zd_Land_sumOf_12 rfl (lv_at hl 2 rfl) ?_
    refine lv_aload_n hx hb zd_Land_sumOf_13 rfl (lv_at hl 0 rfl) ?_
    refine zg_Land_throwers B hP hr0 zq_53 zd_Land_sumOf_14 ?_
    refine lv_iload_n hx hb zd_Land_sumOf_17 rfl (lv_at hl 3 rfl) ?_
    obtain ⟨hg2, hf⟩ := zu_gd_e hf
    refine zr_thr rfl B hP (zk_Land_throwers hr0) hg2 zd_Land_sumOf_18 ?_
    refine zg_Thr_facts B hP (zk_thr (zk_Land_throwers hr0) (zu_ib_lt hg2)) zq_39 zd_Land_sumOf_19 ?_
    refine lv_iload_n hx hb zd_Land_sumOf_22 rfl (lv_at hl 1 rfl) ?_
    obtain ⟨hg3, hf⟩ := zu_gd_e hf
    refine zr_iald rfl B hP (zk_Thr_facts (zk_thr (zk_Land_throwers hr0) (zu_ib_lt hg2))) (by decide) rfl hg3 zd_Land_sumOf_23 ?_
    refine lv_iadd hx hb zd_Land_sumOf_24 ?_
    refine zr_nxi hf (fun v4 hf => ?_)
    refine lv_istore_n (lv' := [(2, .int v4), (0, .ref (ad r0)), (1, .int x1), (3, .int x3)]) hx hb zd_Land_sumOf_25 rfl hl (by decide) rfl (fun ls hl => ?_)
    obtain ⟨v5, ev5, hf⟩ := zu_nx_e hf
    refine lv_iinc (v := v5) (lv' := [(3, .int v5), (2, .int v4), (0, .ref (ad r0)), (1, .int x1)]) hx hb zd_Land_sumOf_26 hl (k := 3) rfl (by rw [ev5]; rfl) (by decide) rfl (fun ls hl => ?_)
    clear ev5
    refine lv_goto (tgt := 4) hx hb zd_Land_sumOf_29 (by decide) ?_
    exact hk4 r0 x1 v4 v5 _ _ _ hP hS (lv_sub hl [2, 3, 1, 0] rfl) hr0 hf
theorem zl_Land_sumOf_L4 {p : Program} {l : Launch} {e : Env} {s : State} {m : MethodId} {args : Array Value} {below : List Frame} {meth : Method} {c : Code} {D : va_G} {cA : Nat → ClassId} {ad : Nat → Nat} {A : Nat → Prop} (B : zu_B p s m args c zb_Land_sumOf 4 "StonePost$Land" D cA ad A) (hret : meth.sig.returnType = (some .int)) (hlk : meth.locks = false) {X : IX} {Y : LX} {res : Int32} : ∀ (n : Nat) (r0 : Nat) (x1 : Int32) (x2 : Int32) (x3 : Int32) (H : Heap) (locs : List Loc) (ls : Array Slot), va_P D zu_cl (zu_pic cA ad X Y) H → va_S A s.heap H locs → lv_has ls 4 [(0, .ref (ad r0)), (1, .int x1), (2, .int x2), (3, .int x3)] → zu_kd r0 = 5 → fn_Land_sumOf_L4 X n r0 x1 x2 x3 = some res → W p l e zR_Land_sumOf s m args below meth c H locs 0 0 (MQ below (zu_Qi D cA ad A res X Y) args s 0 0 A) (F0 m 4 ls []) := by
  intro n
  induction n with
  | zero =>
    intro r0 x1 x2 x3 H locs ls hP hS hl hr0 hf
    exact (Option.some_ne_none _ hf.symm).elim
  | succ n ih =>
    intro r0 x1 x2 x3 H locs ls hP hS hl hr0 hf
    exact zl_Land_sumOf_B4 B hret hlk ih r0 x1 x2 x3 H locs ls hP hS hl hr0 hf
set_option maxHeartbeats 4000000 in
theorem zl_Land_sumOf {p : Program} {l : Launch} {e : Env} {s : State} {m : MethodId} {args : Array Value} {below : List Frame} {meth : Method} {c : Code} {D : va_G} {cA : Nat → ClassId} {ad : Nat → Nat} {A : Nat → Prop} (B : zu_B p s m args c zb_Land_sumOf 4 "StonePost$Land" D cA ad A) (hret : meth.sig.returnType = (some .int)) (hlk : meth.locks = false) {X : IX} {Y : LX} {res : Int32} {r0 : Nat} {a1 : Int32} (H : Heap) (locs : List Loc) (ls : Array Slot) (hP : va_P D zu_cl (zu_pic cA ad X Y) H) (hS : va_S A s.heap H locs) (hl : lv_has ls 4 [(0, .ref (ad r0)), (1, .int a1)]) (hr0 : zu_kd r0 = 5) (hf : fn_Land_sumOf X r0 a1 = some res) : W p l e zR_Land_sumOf s m args below meth c H locs 0 0 (MQ below (zu_Qi D cA ad A res X Y) args s 0 0 A) (F0 m 0 ls []) := by
  obtain ⟨hx, hb, hml, hown, hts, hST⟩ := id B
  unfold fn_Land_sumOf at hf
  refine lv_iconst (v := 0) hx hb zd_Land_sumOf_0 (by decide) ?_
  refine lv_istore_n (lv' := [(2, .int (0 : Int32)), (0, .ref (ad r0)), (1, .int a1)]) hx hb zd_Land_sumOf_1 rfl hl (by decide) rfl (fun ls hl => ?_)
  refine lv_iconst (v := 0) hx hb zd_Land_sumOf_2 (by decide) ?_
  refine lv_istore_n (lv' := [(3, .int (0 : Int32)), (2, .int (0 : Int32)), (0, .ref (ad r0)), (1, .int a1)]) hx hb zd_Land_sumOf_3 rfl hl (by decide) rfl (fun ls hl => ?_)
  exact zl_Land_sumOf_L4 B hret hlk 400 r0 a1 (0 : Int32) (0 : Int32) _ _ _ hP hS (lv_sub hl [2, 3, 1, 0] rfl) hr0 hf
theorem zC_Land_sumOf (l : Launch) {D : va_G} {cA : Nat → ClassId} {ad : Nat → Nat} {A : Nat → Prop} {r0 : Nat} {a1 : Int32} {X : IX} {Y : LX} {res : Int32} (hr0 : zu_kd r0 = 5) (hf : fn_Land_sumOf X r0 a1 = some res) : Met l zm_Land_sumOf (zu_ws zm_Land_sumOf zb_Land_sumOf 4 (some .int)) zR_Land_sumOf (va_Pc [.ref (ad r0), .int a1] (zu_Pre D cA ad A X Y)) (zu_Qi D cA ad A res X Y) 0 0 A := by
  refine Met.ofW (cc := zb_Land_sumOf) (maxL := 4) (ret := (some .int)) (by decide +kernel) rfl ?_
  intro p e s m args below meth c s₁ B0 hml hv
  obtain ⟨rfl, hP, hST⟩ := hv
  have B : zu_B p s m _ c zb_Land_sumOf 4 "StonePost$Land" D cA ad A := ⟨B0.exec, B0.bytes, hml, findClass_of_methodNamed B0.named, (fun w hw => atoms_spec (ws := zu_ws zm_Land_sumOf zb_Land_sumOf 4 (some .int)) B0.pre w (List.mem_cons_of_mem _ hw)), hST⟩
  have hl := lv_entry ([.ref (ad r0), .int a1]) (n := 4) (Nat.le_of_ble_eq_true rfl)
  rw [lg_entry_eq]
  generalize (lg_sl ([.ref (ad r0), .int a1]) ++ List.replicate (4 - (lg_sl ([.ref (ad r0), .int a1])).length) Slot.unset).toArray = ls at hl ⊢
  exact zl_Land_sumOf B B0.returns B0.notSynchronized s.heap [] ls hP va_S.rf hl hr0 hf
theorem zw_Land_sumOf {p : Program} {l : Launch} {e : Env} {R : Room} {s : State} {m : MethodId} {args : Array Value} {below : List Frame} {meth : Method} {c : Code} {H : Heap} {locs : List Loc} {cells slots : Nat} {Q : State → Prop} {cc : ByteArray} {pc nL : Nat} {ls : Array Slot} {rest st0 : List Value} {D : va_G} {cA : Nat → ClassId} {ad : Nat → Nat} {A : Nat → Prop} {X : IX} {Y : LX} {own : String} {index : Nat} {r0 : Nat} {a1 : Int32} {v1 : Int32} (B : zu_B p s m args c cc nL own D cA ad A) (hP : va_P D zu_cl (zu_pic cA ad X Y) H) (hS : va_S A s.heap H locs) (hr0 : zu_kd r0 = 5) (hq : fn_Land_sumOf X r0 a1 = some v1) (m1 : Cond.methodLink own index zm_Land_sumOf ∈ zu_TB) (hR1 : 0 + 1 ≤ R.frames) (hR2 : 8 + (4 + 11) + 0 ≤ R.locals) (hsz : ls.size = nL) (hst : st0 = .int a1 :: .ref (ad r0) :: rest) (hw : (rest.map fun v => v.category).sum ≤ 8) (hdg : decode cc pc = .ok (.invokevirtual index, 3)) (h00 : cells ≤ R.cells ∧ slots ≤ R.slots) (kk : ∀ (H1 : Heap) (locs1 : List Loc), va_P D zu_cl (zu_pic cA ad X Y) H1 → va_S A s.heap H1 locs1 → W p l e R s m args below meth c H1 locs1 cells slots Q (F0 m (pc + 3) ls (.int v1 :: rest))) : W p l e R s m args below meth c H locs cells slots Q (F0 m pc ls st0) := by
  subst hst
  exact zr_cVi (As := [.int a1]) (rest := rest) (n := 1) (C := "StonePost$Land") (T := zt_Land) (N := 10) B hP hS (zC_Land_sumOf l hr0 hq) (K := 5) hr0 (by decide) (by decide) rfl rfl m1 zq_598 zqP_16 zq_2 zq_599 (by decide +kernel) ⟨hR1, hR2⟩ rfl rfl rfl hsz rfl hw hdg h00 kk
abbrev zR_Land_thanksOfAll : Room := { frames := 1, cells := 0, slots := 0, locals := 23 }
theorem zd_Land_thanksOfAll_0 : decode zb_Land_thanksOfAll 0 = .ok (.aload_n 0, 1) := by decide +kernel
theorem zd_Land_thanksOfAll_1 : decode zb_Land_thanksOfAll 1 = .ok (.bipush 8, 2) := by decide +kernel
theorem zd_Land_thanksOfAll_3 : decode zb_Land_thanksOfAll 3 = .ok (.invokevirtual 92, 3) := by decide +kernel
theorem zd_Land_thanksOfAll_6 : decode zb_Land_thanksOfAll 6 = .ok (.ireturn, 1) := by decide +kernel
set_option maxHeartbeats 4000000 in
theorem zl_Land_thanksOfAll {p : Program} {l : Launch} {e : Env} {s : State} {m : MethodId} {args : Array Value} {below : List Frame} {meth : Method} {c : Code} {D : va_G} {cA : Nat → ClassId} {ad : Nat → Nat} {A : Nat → Prop} (B : zu_B p s m args c zb_Land_thanksOfAll 1 "StonePost$Land" D cA ad A) (hret : meth.sig.returnType = (some .int)) (hlk : meth.locks = false) {X : IX} {Y : LX} {res : Int32} {r0 : Nat} (H : Heap) (locs : List Loc) (ls : Array Slot) (hP : va_P D zu_cl (zu_pic cA ad X Y) H) (hS : va_S A s.heap H locs) (hl : lv_has ls 1 [(0, .ref (ad r0))]) (hr0 : zu_kd r0 = 5) (hf : fn_Land_thanksOfAll X r0 = some res) : W p l e zR_Land_thanksOfAll s m args below meth c H locs 0 0 (MQ below (zu_Qi D cA ad A res X Y) args s 0 0 A) (F0 m 0 ls []) := by
  obtain ⟨hx, hb, hml, hown, hts, hST⟩ := id B
  unfold fn_Land_thanksOfAll at hf
  refine lv_aload_n hx hb zd_Land_thanksOfAll_0 rfl (lv_at hl 0 rfl) ?_
  refine lv_bipush (v := 8) hx hb zd_Land_thanksOfAll_1 (by decide) ?_
  obtain ⟨v1, hq2, hf⟩ := zu_b1_e hf
  refine zw_Land_sumOf (rest := []) B hP hS hr0 hq2 zq_596 (Nat.le_of_ble_eq_true rfl) (Nat.le_of_ble_eq_true rfl) hl.1 rfl (Nat.le_of_ble_eq_true rfl) zd_Land_thanksOfAll_3 (by decide) (fun H locs hP hS => ?_)
  clear hq2
  obtain rfl := Option.some.inj hf
  exact zr_iret hx hb hret hlk hP hS zd_Land_thanksOfAll_6
theorem zC_Land_thanksOfAll (l : Launch) {D : va_G} {cA : Nat → ClassId} {ad : Nat → Nat} {A : Nat → Prop} {r0 : Nat} {X : IX} {Y : LX} {res : Int32} (hr0 : zu_kd r0 = 5) (hf : fn_Land_thanksOfAll X r0 = some res) : Met l zm_Land_thanksOfAll (zu_ws zm_Land_thanksOfAll zb_Land_thanksOfAll 1 (some .int)) zR_Land_thanksOfAll (va_Pc [.ref (ad r0)] (zu_Pre D cA ad A X Y)) (zu_Qi D cA ad A res X Y) 0 0 A := by
  refine Met.ofW (cc := zb_Land_thanksOfAll) (maxL := 1) (ret := (some .int)) (by decide +kernel) rfl ?_
  intro p e s m args below meth c s₁ B0 hml hv
  obtain ⟨rfl, hP, hST⟩ := hv
  have B : zu_B p s m _ c zb_Land_thanksOfAll 1 "StonePost$Land" D cA ad A := ⟨B0.exec, B0.bytes, hml, findClass_of_methodNamed B0.named, (fun w hw => atoms_spec (ws := zu_ws zm_Land_thanksOfAll zb_Land_thanksOfAll 1 (some .int)) B0.pre w (List.mem_cons_of_mem _ hw)), hST⟩
  have hl := lv_entry ([.ref (ad r0)]) (n := 1) (Nat.le_of_ble_eq_true rfl)
  rw [lg_entry_eq]
  generalize (lg_sl ([.ref (ad r0)]) ++ List.replicate (1 - (lg_sl ([.ref (ad r0)])).length) Slot.unset).toArray = ls at hl ⊢
  exact zl_Land_thanksOfAll B B0.returns B0.notSynchronized s.heap [] ls hP va_S.rf hl hr0 hf
theorem zw_Land_thanksOfAll {p : Program} {l : Launch} {e : Env} {R : Room} {s : State} {m : MethodId} {args : Array Value} {below : List Frame} {meth : Method} {c : Code} {H : Heap} {locs : List Loc} {cells slots : Nat} {Q : State → Prop} {cc : ByteArray} {pc nL : Nat} {ls : Array Slot} {rest st0 : List Value} {D : va_G} {cA : Nat → ClassId} {ad : Nat → Nat} {A : Nat → Prop} {X : IX} {Y : LX} {own : String} {index : Nat} {r0 : Nat} {v1 : Int32} (B : zu_B p s m args c cc nL own D cA ad A) (hP : va_P D zu_cl (zu_pic cA ad X Y) H) (hS : va_S A s.heap H locs) (hr0 : zu_kd r0 = 5) (hq : fn_Land_thanksOfAll X r0 = some v1) (m1 : Cond.methodLink own index zm_Land_thanksOfAll ∈ zu_TB) (hR1 : 1 + 1 ≤ R.frames) (hR2 : 8 + (1 + 11) + 23 ≤ R.locals) (hsz : ls.size = nL) (hst : st0 = .ref (ad r0) :: rest) (hw : (rest.map fun v => v.category).sum ≤ 8) (hdg : decode cc pc = .ok (.invokevirtual index, 3)) (h00 : cells ≤ R.cells ∧ slots ≤ R.slots) (kk : ∀ (H1 : Heap) (locs1 : List Loc), va_P D zu_cl (zu_pic cA ad X Y) H1 → va_S A s.heap H1 locs1 → W p l e R s m args below meth c H1 locs1 cells slots Q (F0 m (pc + 3) ls (.int v1 :: rest))) : W p l e R s m args below meth c H locs cells slots Q (F0 m pc ls st0) := by
  subst hst
  exact zr_cVi (As := []) (rest := rest) (n := 0) (C := "StonePost$Land") (T := zt_Land) (N := 10) B hP hS (zC_Land_thanksOfAll l hr0 hq) (K := 5) hr0 (by decide) (by decide) rfl rfl m1 zq_593 zq_594 zq_2 zq_595 (by decide +kernel) ⟨hR1, hR2⟩ rfl rfl rfl hsz rfl hw hdg h00 kk
abbrev zR_Land_withMostThanks : Room := { frames := 0, cells := 0, slots := 0, locals := 0 }
theorem zd_Land_withMostThanks_0 : decode zb_Land_withMostThanks 0 = .ok (.aload_n 0, 1) := by decide +kernel
theorem zd_Land_withMostThanks_1 : decode zb_Land_withMostThanks 1 = .ok (.getfield 17, 3) := by decide +kernel
theorem zd_Land_withMostThanks_4 : decode zb_Land_withMostThanks 4 = .ok (.iconst 0, 1) := by decide +kernel
theorem zd_Land_withMostThanks_5 : decode zb_Land_withMostThanks 5 = .ok (.aaload, 1) := by decide +kernel
theorem zd_Land_withMostThanks_6 : decode zb_Land_withMostThanks 6 = .ok (.astore_n 1, 1) := by decide +kernel
theorem zd_Land_withMostThanks_7 : decode zb_Land_withMostThanks 7 = .ok (.iconst 1, 1) := by decide +kernel
theorem zd_Land_withMostThanks_8 : decode zb_Land_withMostThanks 8 = .ok (.istore_n 2, 1) := by decide +kernel
theorem zd_Land_withMostThanks_9 : decode zb_Land_withMostThanks 9 = .ok (.iload_n 2, 1) := by decide +kernel
theorem zd_Land_withMostThanks_10 : decode zb_Land_withMostThanks 10 = .ok (.aload_n 0, 1) := by decide +kernel
theorem zd_Land_withMostThanks_11 : decode zb_Land_withMostThanks 11 = .ok (.getfield 53, 3) := by decide +kernel
theorem zd_Land_withMostThanks_14 : decode zb_Land_withMostThanks 14 = .ok (.if_icmp .ge 38, 3) := by decide +kernel
theorem zd_Land_withMostThanks_17 : decode zb_Land_withMostThanks 17 = .ok (.aload_n 0, 1) := by decide +kernel
theorem zd_Land_withMostThanks_18 : decode zb_Land_withMostThanks 18 = .ok (.getfield 17, 3) := by decide +kernel
theorem zd_Land_withMostThanks_21 : decode zb_Land_withMostThanks 21 = .ok (.iload_n 2, 1) := by decide +kernel
theorem zd_Land_withMostThanks_22 : decode zb_Land_withMostThanks 22 = .ok (.aaload, 1) := by decide +kernel
theorem zd_Land_withMostThanks_23 : decode zb_Land_withMostThanks 23 = .ok (.getfield 50, 3) := by decide +kernel
theorem zd_Land_withMostThanks_26 : decode zb_Land_withMostThanks 26 = .ok (.bipush 8, 2) := by decide +kernel
theorem zd_Land_withMostThanks_28 : decode zb_Land_withMostThanks 28 = .ok (.iaload, 1) := by decide +kernel
theorem zd_Land_withMostThanks_29 : decode zb_Land_withMostThanks 29 = .ok (.aload_n 1, 1) := by decide +kernel
theorem zd_Land_withMostThanks_30 : decode zb_Land_withMostThanks 30 = .ok (.getfield 50, 3) := by decide +kernel
theorem zd_Land_withMostThanks_33 : decode zb_Land_withMostThanks 33 = .ok (.bipush 8, 2) := by decide +kernel
theorem zd_Land_withMostThanks_35 : decode zb_Land_withMostThanks 35 = .ok (.iaload, 1) := by decide +kernel
theorem zd_Land_withMostThanks_36 : decode zb_Land_withMostThanks 36 = .ok (.if_icmp .le 10, 3) := by decide +kernel
theorem zd_Land_withMostThanks_39 : decode zb_Land_withMostThanks 39 = .ok (.aload_n 0, 1) := by decide +kernel
theorem zd_Land_withMostThanks_40 : decode zb_Land_withMostThanks 40 = .ok (.getfield 17, 3) := by decide +kernel
theorem zd_Land_withMostThanks_43 : decode zb_Land_withMostThanks 43 = .ok (.iload_n 2, 1) := by decide +kernel
theorem zd_Land_withMostThanks_44 : decode zb_Land_withMostThanks 44 = .ok (.aaload, 1) := by decide +kernel
theorem zd_Land_withMostThanks_45 : decode zb_Land_withMostThanks 45 = .ok (.astore_n 1, 1) := by decide +kernel
theorem zd_Land_withMostThanks_46 : decode zb_Land_withMostThanks 46 = .ok (.iinc 2 1, 3) := by decide +kernel
theorem zd_Land_withMostThanks_49 : decode zb_Land_withMostThanks 49 = .ok (.goto (-40), 3) := by decide +kernel
theorem zd_Land_withMostThanks_52 : decode zb_Land_withMostThanks 52 = .ok (.aload_n 1, 1) := by decide +kernel
theorem zd_Land_withMostThanks_53 : decode zb_Land_withMostThanks 53 = .ok (.areturn, 1) := by decide +kernel
set_option maxHeartbeats 4000000 in
theorem zl_Land_withMostThanks_L46 {p : Program} {l : Launch} {e : Env} {s : State} {m : MethodId} {args : Array Value} {below : List Frame} {meth : Method} {c : Code} {D : va_G} {cA : Nat → ClassId} {ad : Nat → Nat} {A : Nat → Prop} (B : zu_B p s m args c zb_Land_withMostThanks 3 "StonePost$Land" D cA ad A) (hret : meth.sig.returnType = (some (.object "StonePost$Thrower"))) (hlk : meth.locks = false) {X : IX} {Y : LX} {res : Nat} {k9 : Nat → Nat → Int32 → Option Nat} (hk9 : ∀ (r0 : Nat) (r1 : Nat) (x2 : Int32) (H : Heap) (locs : List Loc) (ls : Array Slot), va_P D zu_cl (zu_pic cA ad X Y) H → va_S A s.heap H locs → lv_has ls 3 [(0, .ref (ad r0)), (1, .ref (ad r1)), (2, .int x2)] → zu_kd r0 = 5 → zu_kd r1 = 6 → k9 r0 r1 x2 = some res → W p l e zR_Land_withMostThanks s m args below meth c H locs 0 0 (MQ below (zu_Qr D cA ad A res X Y) args s 0 0 A) (F0 m 9 ls [])) (r0 : Nat) (r1 : Nat) (x2 : Int32) (H : Heap) (locs : List Loc) (ls : Array Slot) (hP : va_P D zu_cl (zu_pic cA ad X Y) H) (hS : va_S A s.heap H locs) (hl : lv_has ls 3 [(0, .ref (ad r0)), (1, .ref (ad r1)), (2, .int x2)]) (hr0 : zu_kd r0 = 5) (hr1 : zu_kd r1 = 6) (hf : fn_Land_withMostThanks_L46 X k9 r0 r1 x2 = some res) : W p l e zR_Land_withMostThanks s m args below meth c H locs 0 0 (MQ below (zu_Qr D cA ad A res X Y) args s 0 0 A) (F0 m 46 ls []) := by
  obtain ⟨hx, hb, hml, hown, hts, hST⟩ := id B
  unfold fn_Land_withMostThanks_L46 at hf
  obtain ⟨v5, ev5, hf⟩ := zu_nx_e hf
  refine lv_iinc (v := v5) (lv' := [(2, .int v5), (0, .ref (ad r0)), (1, .ref (ad r1))]) hx hb zd_Land_withMostThanks_46 hl (k := 2) rfl (by rw [ev5]; rfl) (by decide) rfl (fun ls hl => ?_)
  clear ev5
  refine lv_goto (tgt := 9) hx hb zd_Land_withMostThanks_49 (by decide) ?_
  exact hk9 r0 r1 v5 _ _ _ hP hS (lv_sub hl [1, 2, 0] rfl) hr0 hr1 hf
set_option maxHeartbeats 4000000 in
theorem zl_Land_withMostThanks_B9 {p : Program} {l : Launch} {e : Env} {s : State} {m : MethodId} {args : Array Value} {below : List Frame} {meth : Method} {c : Code} {D : va_G} {cA : Nat → ClassId} {ad : Nat → Nat} {A : Nat → Prop} (B : zu_B p s m args c zb_Land_withMostThanks 3 "StonePost$Land" D cA ad A) (hret : meth.sig.returnType = (some (.object "StonePost$Thrower"))) (hlk : meth.locks = false) {X : IX} {Y : LX} {res : Nat} {k9 : Nat → Nat → Int32 → Option Nat} (hk9 : ∀ (r0 : Nat) (r1 : Nat) (x2 : Int32) (H : Heap) (locs : List Loc) (ls : Array Slot), va_P D zu_cl (zu_pic cA ad X Y) H → va_S A s.heap H locs → lv_has ls 3 [(0, .ref (ad r0)), (1, .ref (ad r1)), (2, .int x2)] → zu_kd r0 = 5 → zu_kd r1 = 6 → k9 r0 r1 x2 = some res → W p l e zR_Land_withMostThanks s m args below meth c H locs 0 0 (MQ below (zu_Qr D cA ad A res X Y) args s 0 0 A) (F0 m 9 ls [])) (r0 : Nat) (r1 : Nat) (x2 : Int32) (H : Heap) (locs : List Loc) (ls : Array Slot) (hP : va_P D zu_cl (zu_pic cA ad X Y) H) (hS : va_S A s.heap H locs) (hl : lv_has ls 3 [(0, .ref (ad r0)), (1, .ref (ad r1)), (2, .int x2)]) (hr0 : zu_kd r0 = 5) (hr1 : zu_kd r1 = 6) (hf : fn_Land_withMostThanks_B9 X k9 r0 r1 x2 = some res) : W p l e zR_Land_withMostThanks s m args below meth c H locs 0 0 (MQ below (zu_Qr D cA ad A res X Y) args s 0 0 A) (F0 m 9 ls []) := by
  obtain ⟨hx, hb, hml, hown, hts, hST⟩ := id B
  unfold fn_Land_withMostThanks_B9 at hf
  refine lv_iload_n hx hb zd_Land_withMostThanks_9 rfl (lv_at hl 2 rfl) ?_
  refine lv_aload_n hx hb zd_Land_withMostThanks_10 rfl (lv_at hl 0 rfl) ?_
  refine zg_Land_throwerCount B hP hr0 zq_61 zd_Land_withMostThanks_11 ?_
  refine lv_icmp_ge (tgt := 52) hx hb zd_Land_withMostThanks_14 (by decide) (fun c1 => ?_) (fun c1 => ?_)
  · have hf := zu_t c1 hf
    refine lv_aload_n hx hb zd_Land_withMostThanks_52 rfl (lv_at hl 1 rfl) ?_
    obtain rfl := Option.some.inj hf
    exact zr_aret hx hb hret hlk hP hS zd_Land_withMostThanks_53
  · have hf := zu_f c1 hf
    refine lv_aload_n hx hb zd_Land_withMostThanks_17 rfl (lv_at hl 0 rfl) ?_
    refine zg_Land_throwers B hP hr0 zq_53 zd_Land_withMostThanks_18 ?_
    refine lv_iload_n hx hb zd_Land_withMostThanks_21 rfl (lv_at hl 2 rfl) ?_
    obtain ⟨hg2, hf⟩ := zu_gd_e hf
    refine zr_thr rfl B hP (zk_Land_throwers hr0) hg2 zd_Land_withMostThanks_22 ?_
    refine zg_Thr_facts B hP (zk_thr (zk_Land_throwers hr0) (zu_ib_lt hg2)) zq_39 zd_Land_withMostThanks_23 ?_
    refine lv_bipush (v := 8) hx hb zd_Land_withMostThanks_26 (by decide) ?_
    refine zr_iald (j := 8) (by decide) B hP (zk_Thr_facts (zk_thr (zk_Land_throwers hr0) (zu_ib_lt hg2))) (by decide) rfl (by decide) zd_Land_withMostThanks_28 ?_
    refine lv_aload_n hx hb zd_Land_withMostThanks_29 rfl (lv_at hl 1 rfl) ?_
    refine zg_Thr_facts B hP hr1 zq_39 zd_Land_withMostThanks_30 ?_
    refine lv_bipush (v := 8) hx hb zd_Land_withMostThanks_33 (by decide) ?_
    refine zr_iald (j := 8) (by decide) B hP (zk_Thr_facts hr1) (by decide) rfl (by decide) zd_Land_withMostThanks_35 ?_
    refine lv_icmp_le (tgt := 46) hx hb zd_Land_withMostThanks_36 (by decide) (fun c3 => ?_) (fun c3 => ?_)
    · have hf := zu_t c3 hf
      exact zl_Land_withMostThanks_L46 B hret hlk hk9 r0 r1 x2 _ _ _ hP hS (lv_sub hl [0, 1, 2] rfl) hr0 hr1 hf
    · have hf := zu_f c3 hf
      refine lv_aload_n hx hb zd_Land_withMostThanks_39 rfl (lv_at hl 0 rfl) ?_
      refine zg_Land_throwers B hP hr0 zq_53 zd_Land_withMostThanks_40 ?_
      refine lv_iload_n hx hb zd_Land_withMostThanks_43 rfl (lv_at hl 2 rfl) ?_
      obtain ⟨hg4, hf⟩ := zu_gd_e hf
      refine zr_thr rfl B hP (zk_Land_throwers hr0) hg4 zd_Land_withMostThanks_44 ?_
      refine lv_astore_n (lv' := [(1, .ref (ad (zu_th (r0 + 6) (x2.toNatClampNeg)))), (0, .ref (ad r0)), (2, .int x2)]) hx hb zd_Land_withMostThanks_45 rfl hl (by decide) rfl (fun ls hl => ?_)
      exact zl_Land_withMostThanks_L46 B hret hlk hk9 r0 (zu_th (r0 + 6) (x2.toNatClampNeg)) x2 _ _ _ hP hS (lv_sub hl [1, 0, 2] rfl) hr0 (zk_thr (zk_Land_throwers hr0) (zu_ib_lt hg4)) hf
theorem zl_Land_withMostThanks_L9 {p : Program} {l : Launch} {e : Env} {s : State} {m : MethodId} {args : Array Value} {below : List Frame} {meth : Method} {c : Code} {D : va_G} {cA : Nat → ClassId} {ad : Nat → Nat} {A : Nat → Prop} (B : zu_B p s m args c zb_Land_withMostThanks 3 "StonePost$Land" D cA ad A) (hret : meth.sig.returnType = (some (.object "StonePost$Thrower"))) (hlk : meth.locks = false) {X : IX} {Y : LX} {res : Nat} : ∀ (n : Nat) (r0 : Nat) (r1 : Nat) (x2 : Int32) (H : Heap) (locs : List Loc) (ls : Array Slot), va_P D zu_cl (zu_pic cA ad X Y) H → va_S A s.heap H locs → lv_has ls 3 [(0, .ref (ad r0)), (1, .ref (ad r1)), (2, .int x2)] → zu_kd r0 = 5 → zu_kd r1 = 6 → fn_Land_withMostThanks_L9 X n r0 r1 x2 = some res → W p l e zR_Land_withMostThanks s m args below meth c H locs 0 0 (MQ below (zu_Qr D cA ad A res X Y) args s 0 0 A) (F0 m 9 ls []) := by
  intro n
  induction n with
  | zero =>
    intro r0 r1 x2 H locs ls hP hS hl hr0 hr1 hf
    exact (Option.some_ne_none _ hf.symm).elim
  | succ n ih =>
    intro r0 r1 x2 H locs ls hP hS hl hr0 hr1 hf
    exact zl_Land_withMostThanks_B9 B hret hlk ih r0 r1 x2 H locs ls hP hS hl hr0 hr1 hf
set_option maxHeartbeats 4000000 in
theorem zl_Land_withMostThanks {p : Program} {l : Launch} {e : Env} {s : State} {m : MethodId} {args : Array Value} {below : List Frame} {meth : Method} {c : Code} {D : va_G} {cA : Nat → ClassId} {ad : Nat → Nat} {A : Nat → Prop} (B : zu_B p s m args c zb_Land_withMostThanks 3 "StonePost$Land" D cA ad A) (hret : meth.sig.returnType = (some (.object "StonePost$Thrower"))) (hlk : meth.locks = false) {X : IX} {Y : LX} {res : Nat} {r0 : Nat} (H : Heap) (locs : List Loc) (ls : Array Slot) (hP : va_P D zu_cl (zu_pic cA ad X Y) H) (hS : va_S A s.heap H locs) (hl : lv_has ls 3 [(0, .ref (ad r0))]) (hr0 : zu_kd r0 = 5) (hf : fn_Land_withMostThanks X r0 = some res) : W p l e zR_Land_withMostThanks s m args below meth c H locs 0 0 (MQ below (zu_Qr D cA ad A res X Y) args s 0 0 A) (F0 m 0 ls []) := by
  obtain ⟨hx, hb, hml, hown, hts, hST⟩ := id B
  unfold fn_Land_withMostThanks at hf
  refine lv_aload_n hx hb zd_Land_withMostThanks_0 rfl (lv_at hl 0 rfl) ?_
  refine zg_Land_throwers B hP hr0 zq_53 zd_Land_withMostThanks_1 ?_
  refine lv_iconst (v := 0) hx hb zd_Land_withMostThanks_4 (by decide) ?_
  refine zr_thr (j := 0) (by decide) B hP (zk_Land_throwers hr0) (by decide) zd_Land_withMostThanks_5 ?_
  refine lv_astore_n (lv' := [(1, .ref (ad (zu_th (r0 + 6) 0))), (0, .ref (ad r0))]) hx hb zd_Land_withMostThanks_6 rfl hl (by decide) rfl (fun ls hl => ?_)
  refine lv_iconst (v := 1) hx hb zd_Land_withMostThanks_7 (by decide) ?_
  refine lv_istore_n (lv' := [(2, .int (1 : Int32)), (1, .ref (ad (zu_th (r0 + 6) 0))), (0, .ref (ad r0))]) hx hb zd_Land_withMostThanks_8 rfl hl (by decide) rfl (fun ls hl => ?_)
  exact zl_Land_withMostThanks_L9 B hret hlk 400 r0 (zu_th (r0 + 6) 0) (1 : Int32) _ _ _ hP hS (lv_sub hl [2, 1, 0] rfl) hr0 (zk_thr (zk_Land_throwers hr0) (by decide)) hf
theorem zC_Land_withMostThanks (l : Launch) {D : va_G} {cA : Nat → ClassId} {ad : Nat → Nat} {A : Nat → Prop} {r0 : Nat} {X : IX} {Y : LX} {res : Nat} (hr0 : zu_kd r0 = 5) (hf : fn_Land_withMostThanks X r0 = some res) : Met l zm_Land_withMostThanks (zu_ws zm_Land_withMostThanks zb_Land_withMostThanks 3 (some (.object "StonePost$Thrower"))) zR_Land_withMostThanks (va_Pc [.ref (ad r0)] (zu_Pre D cA ad A X Y)) (zu_Qr D cA ad A res X Y) 0 0 A := by
  refine Met.ofW (cc := zb_Land_withMostThanks) (maxL := 3) (ret := (some (.object "StonePost$Thrower"))) (by decide +kernel) rfl ?_
  intro p e s m args below meth c s₁ B0 hml hv
  obtain ⟨rfl, hP, hST⟩ := hv
  have B : zu_B p s m _ c zb_Land_withMostThanks 3 "StonePost$Land" D cA ad A := ⟨B0.exec, B0.bytes, hml, findClass_of_methodNamed B0.named, (fun w hw => atoms_spec (ws := zu_ws zm_Land_withMostThanks zb_Land_withMostThanks 3 (some (.object "StonePost$Thrower"))) B0.pre w (List.mem_cons_of_mem _ hw)), hST⟩
  have hl := lv_entry ([.ref (ad r0)]) (n := 3) (Nat.le_of_ble_eq_true rfl)
  rw [lg_entry_eq]
  generalize (lg_sl ([.ref (ad r0)]) ++ List.replicate (3 - (lg_sl ([.ref (ad r0)])).length) Slot.unset).toArray = ls at hl ⊢
  exact zl_Land_withMostThanks B B0.returns B0.notSynchronized s.heap [] ls hP va_S.rf hl hr0 hf
theorem zw_Land_withMostThanks {p : Program} {l : Launch} {e : Env} {R : Room} {s : State} {m : MethodId} {args : Array Value} {below : List Frame} {meth : Method} {c : Code} {H : Heap} {locs : List Loc} {cells slots : Nat} {Q : State → Prop} {cc : ByteArray} {pc nL : Nat} {ls : Array Slot} {rest st0 : List Value} {D : va_G} {cA : Nat → ClassId} {ad : Nat → Nat} {A : Nat → Prop} {X : IX} {Y : LX} {own : String} {index : Nat} {r0 : Nat} {v1 : Nat} (B : zu_B p s m args c cc nL own D cA ad A) (hP : va_P D zu_cl (zu_pic cA ad X Y) H) (hS : va_S A s.heap H locs) (hr0 : zu_kd r0 = 5) (hq : fn_Land_withMostThanks X r0 = some v1) (m1 : Cond.methodLink own index zm_Land_withMostThanks ∈ zu_TB) (hR1 : 0 + 1 ≤ R.frames) (hR2 : 8 + (3 + 11) + 0 ≤ R.locals) (hsz : ls.size = nL) (hst : st0 = .ref (ad r0) :: rest) (hw : (rest.map fun v => v.category).sum ≤ 8) (hdg : decode cc pc = .ok (.invokevirtual index, 3)) (h00 : cells ≤ R.cells ∧ slots ≤ R.slots) (kk : ∀ (H1 : Heap) (locs1 : List Loc), va_P D zu_cl (zu_pic cA ad X Y) H1 → va_S A s.heap H1 locs1 → W p l e R s m args below meth c H1 locs1 cells slots Q (F0 m (pc + 3) ls (.ref (ad v1) :: rest))) : W p l e R s m args below meth c H locs cells slots Q (F0 m pc ls st0) := by
  subst hst
  exact zr_cVr (As := []) (rest := rest) (n := 0) (C := "StonePost$Land") (T := zt_Land) (N := 10) B hP hS (zC_Land_withMostThanks l hr0 hq) (K := 5) hr0 (by decide) (by decide) rfl rfl m1 zq_601 zq_602 zq_2 zq_603 (by decide +kernel) ⟨hR1, hR2⟩ rfl rfl rfl hsz rfl hw hdg h00 kk
abbrev zR_Land_withLeastThanks : Room := { frames := 0, cells := 0, slots := 0, locals := 0 }
theorem zd_Land_withLeastThanks_0 : decode zb_Land_withLeastThanks 0 = .ok (.aload_n 0, 1) := by decide +kernel
theorem zd_Land_withLeastThanks_1 : decode zb_Land_withLeastThanks 1 = .ok (.getfield 17, 3) := by decide +kernel
theorem zd_Land_withLeastThanks_4 : decode zb_Land_withLeastThanks 4 = .ok (.iconst 0, 1) := by decide +kernel
theorem zd_Land_withLeastThanks_5 : decode zb_Land_withLeastThanks 5 = .ok (.aaload, 1) := by decide +kernel
theorem zd_Land_withLeastThanks_6 : decode zb_Land_withLeastThanks 6 = .ok (.astore_n 1, 1) := by decide +kernel
theorem zd_Land_withLeastThanks_7 : decode zb_Land_withLeastThanks 7 = .ok (.iconst 1, 1) := by decide +kernel
theorem zd_Land_withLeastThanks_8 : decode zb_Land_withLeastThanks 8 = .ok (.istore_n 2, 1) := by decide +kernel
theorem zd_Land_withLeastThanks_9 : decode zb_Land_withLeastThanks 9 = .ok (.iload_n 2, 1) := by decide +kernel
theorem zd_Land_withLeastThanks_10 : decode zb_Land_withLeastThanks 10 = .ok (.aload_n 0, 1) := by decide +kernel
theorem zd_Land_withLeastThanks_11 : decode zb_Land_withLeastThanks 11 = .ok (.getfield 53, 3) := by decide +kernel
theorem zd_Land_withLeastThanks_14 : decode zb_Land_withLeastThanks 14 = .ok (.if_icmp .ge 38, 3) := by decide +kernel
theorem zd_Land_withLeastThanks_17 : decode zb_Land_withLeastThanks 17 = .ok (.aload_n 0, 1) := by decide +kernel
theorem zd_Land_withLeastThanks_18 : decode zb_Land_withLeastThanks 18 = .ok (.getfield 17, 3) := by decide +kernel
theorem zd_Land_withLeastThanks_21 : decode zb_Land_withLeastThanks 21 = .ok (.iload_n 2, 1) := by decide +kernel
theorem zd_Land_withLeastThanks_22 : decode zb_Land_withLeastThanks 22 = .ok (.aaload, 1) := by decide +kernel
theorem zd_Land_withLeastThanks_23 : decode zb_Land_withLeastThanks 23 = .ok (.getfield 50, 3) := by decide +kernel
theorem zd_Land_withLeastThanks_26 : decode zb_Land_withLeastThanks 26 = .ok (.bipush 8, 2) := by decide +kernel
theorem zd_Land_withLeastThanks_28 : decode zb_Land_withLeastThanks 28 = .ok (.iaload, 1) := by decide +kernel
theorem zd_Land_withLeastThanks_29 : decode zb_Land_withLeastThanks 29 = .ok (.aload_n 1, 1) := by decide +kernel
theorem zd_Land_withLeastThanks_30 : decode zb_Land_withLeastThanks 30 = .ok (.getfield 50, 3) := by decide +kernel
theorem zd_Land_withLeastThanks_33 : decode zb_Land_withLeastThanks 33 = .ok (.bipush 8, 2) := by decide +kernel
theorem zd_Land_withLeastThanks_35 : decode zb_Land_withLeastThanks 35 = .ok (.iaload, 1) := by decide +kernel
theorem zd_Land_withLeastThanks_36 : decode zb_Land_withLeastThanks 36 = .ok (.if_icmp .ge 10, 3) := by decide +kernel
theorem zd_Land_withLeastThanks_39 : decode zb_Land_withLeastThanks 39 = .ok (.aload_n 0, 1) := by decide +kernel
theorem zd_Land_withLeastThanks_40 : decode zb_Land_withLeastThanks 40 = .ok (.getfield 17, 3) := by decide +kernel
theorem zd_Land_withLeastThanks_43 : decode zb_Land_withLeastThanks 43 = .ok (.iload_n 2, 1) := by decide +kernel
theorem zd_Land_withLeastThanks_44 : decode zb_Land_withLeastThanks 44 = .ok (.aaload, 1) := by decide +kernel
theorem zd_Land_withLeastThanks_45 : decode zb_Land_withLeastThanks 45 = .ok (.astore_n 1, 1) := by decide +kernel
theorem zd_Land_withLeastThanks_46 : decode zb_Land_withLeastThanks 46 = .ok (.iinc 2 1, 3) := by decide +kernel
theorem zd_Land_withLeastThanks_49 : decode zb_Land_withLeastThanks 49 = .ok (.goto (-40), 3) := by decide +kernel
theorem zd_Land_withLeastThanks_52 : decode zb_Land_withLeastThanks 52 = .ok (.aload_n 1, 1) := by decide +kernel
theorem zd_Land_withLeastThanks_53 : decode zb_Land_withLeastThanks 53 = .ok (.areturn, 1) := by decide +kernel
set_option maxHeartbeats 4000000 in
theorem zl_Land_withLeastThanks_L46 {p : Program} {l : Launch} {e : Env} {s : State} {m : MethodId} {args : Array Value} {below : List Frame} {meth : Method} {c : Code} {D : va_G} {cA : Nat → ClassId} {ad : Nat → Nat} {A : Nat → Prop} (B : zu_B p s m args c zb_Land_withLeastThanks 3 "StonePost$Land" D cA ad A) (hret : meth.sig.returnType = (some (.object "StonePost$Thrower"))) (hlk : meth.locks = false) {X : IX} {Y : LX} {res : Nat} {k9 : Nat → Nat → Int32 → Option Nat} (hk9 : ∀ (r0 : Nat) (r1 : Nat) (x2 : Int32) (H : Heap) (locs : List Loc) (ls : Array Slot), va_P D zu_cl (zu_pic cA ad X Y) H → va_S A s.heap H locs → lv_has ls 3 [(0, .ref (ad r0)), (1, .ref (ad r1)), (2, .int x2)] → zu_kd r0 = 5 → zu_kd r1 = 6 → k9 r0 r1 x2 = some res → W p l e zR_Land_withLeastThanks s m args below meth c H locs 0 0 (MQ below (zu_Qr D cA ad A res X Y) args s 0 0 A) (F0 m 9 ls [])) (r0 : Nat) (r1 : Nat) (x2 : Int32) (H : Heap) (locs : List Loc) (ls : Array Slot) (hP : va_P D zu_cl (zu_pic cA ad X Y) H) (hS : va_S A s.heap H locs) (hl : lv_has ls 3 [(0, .ref (ad r0)), (1, .ref (ad r1)), (2, .int x2)]) (hr0 : zu_kd r0 = 5) (hr1 : zu_kd r1 = 6) (hf : fn_Land_withLeastThanks_L46 X k9 r0 r1 x2 = some res) : W p l e zR_Land_withLeastThanks s m args below meth c H locs 0 0 (MQ below (zu_Qr D cA ad A res X Y) args s 0 0 A) (F0 m 46 ls []) := by
  obtain ⟨hx, hb, hml, hown, hts, hST⟩ := id B
  unfold fn_Land_withLeastThanks_L46 at hf
  obtain ⟨v5, ev5, hf⟩ := zu_nx_e hf
  refine lv_iinc (v := v5) (lv' := [(2, .int v5), (0, .ref (ad r0)), (1, .ref (ad r1))]) hx hb zd_Land_withLeastThanks_46 hl (k := 2) rfl (by rw [ev5]; rfl) (by decide) rfl (fun ls hl => ?_)
  clear ev5
  refine lv_goto (tgt := 9) hx hb zd_Land_withLeastThanks_49 (by decide) ?_
  exact hk9 r0 r1 v5 _ _ _ hP hS (lv_sub hl [1, 2, 0] rfl) hr0 hr1 hf
set_option maxHeartbeats 4000000 in
theorem zl_Land_withLeastThanks_B9 {p : Program} {l : Launch} {e : Env} {s : State} {m : MethodId} {args : Array Value} {below : List Frame} {meth : Method} {c : Code} {D : va_G} {cA : Nat → ClassId} {ad : Nat → Nat} {A : Nat → Prop} (B : zu_B p s m args c zb_Land_withLeastThanks 3 "StonePost$Land" D cA ad A) (hret : meth.sig.returnType = (some (.object "StonePost$Thrower"))) (hlk : meth.locks = false) {X : IX} {Y : LX} {res : Nat} {k9 : Nat → Nat → Int32 → Option Nat} (hk9 : ∀ (r0 : Nat) (r1 : Nat) (x2 : Int32) (H : Heap) (locs : List Loc) (ls : Array Slot), va_P D zu_cl (zu_pic cA ad X Y) H → va_S A s.heap H locs → lv_has ls 3 [(0, .ref (ad r0)), (1, .ref (ad r1)), (2, .int x2)] → zu_kd r0 = 5 → zu_kd r1 = 6 → k9 r0 r1 x2 = some res → W p l e zR_Land_withLeastThanks s m args below meth c H locs 0 0 (MQ below (zu_Qr D cA ad A res X Y) args s 0 0 A) (F0 m 9 ls [])) (r0 : Nat) (r1 : Nat) (x2 : Int32) (H : Heap) (locs : List Loc) (ls : Array Slot) (hP : va_P D zu_cl (zu_pic cA ad X Y) H) (hS : va_S A s.heap H locs) (hl : lv_has ls 3 [(0, .ref (ad r0)), (1, .ref (ad r1)), (2, .int x2)]) (hr0 : zu_kd r0 = 5) (hr1 : zu_kd r1 = 6) (hf : fn_Land_withLeastThanks_B9 X k9 r0 r1 x2 = some res) : W p l e zR_Land_withLeastThanks s m args below meth c H locs 0 0 (MQ below (zu_Qr D cA ad A res X Y) args s 0 0 A) (F0 m 9 ls []) := by
  obtain ⟨hx, hb, hml, hown, hts, hST⟩ := id B
  unfold fn_Land_withLeastThanks_B9 at hf
  refine lv_iload_n hx hb zd_Land_withLeastThanks_9 rfl (lv_at hl 2 rfl) ?_
  refine lv_aload_n hx hb zd_Land_withLeastThanks_10 rfl (lv_at hl 0 rfl) ?_
  refine zg_Land_throwerCount B hP hr0 zq_61 zd_Land_withLeastThanks_11 ?_
  refine lv_icmp_ge (tgt := 52) hx hb zd_Land_withLeastThanks_14 (by decide) (fun c1 => ?_) (fun c1 => ?_)
  · have hf := zu_t c1 hf
    refine lv_aload_n hx hb zd_Land_withLeastThanks_52 rfl (lv_at hl 1 rfl) ?_
    obtain rfl := Option.some.inj hf
    exact zr_aret hx hb hret hlk hP hS zd_Land_withLeastThanks_53
  · have hf := zu_f c1 hf
    refine lv_aload_n hx hb zd_Land_withLeastThanks_17 rfl (lv_at hl 0 rfl) ?_
    refine zg_Land_throwers B hP hr0 zq_53 zd_Land_withLeastThanks_18 ?_
    refine lv_iload_n hx hb zd_Land_withLeastThanks_21 rfl (lv_at hl 2 rfl) ?_
    obtain ⟨hg2, hf⟩ := zu_gd_e hf
    refine zr_thr rfl B hP (zk_Land_throwers hr0) hg2 zd_Land_withLeastThanks_22 ?_
    refine zg_Thr_facts B hP (zk_thr (zk_Land_throwers hr0) (zu_ib_lt hg2)) zq_39 zd_Land_withLeastThanks_23 ?_
    refine lv_bipush (v := 8) hx hb zd_Land_withLeastThanks_26 (by decide) ?_
    refine zr_iald (j := 8) (by decide) B hP (zk_Thr_facts (zk_thr (zk_Land_throwers hr0) (zu_ib_lt hg2))) (by decide) rfl (by decide) zd_Land_withLeastThanks_28 ?_
    refine lv_aload_n hx hb zd_Land_withLeastThanks_29 rfl (lv_at hl 1 rfl) ?_
    refine zg_Thr_facts B hP hr1 zq_39 zd_Land_withLeastThanks_30 ?_
    refine lv_bipush (v := 8) hx hb zd_Land_withLeastThanks_33 (by decide) ?_
    refine zr_iald (j := 8) (by decide) B hP (zk_Thr_facts hr1) (by decide) rfl (by decide) zd_Land_withLeastThanks_35 ?_
    refine lv_icmp_ge (tgt := 46) hx hb zd_Land_withLeastThanks_36 (by decide) (fun c3 => ?_) (fun c3 => ?_)
    · have hf := zu_t c3 hf
      exact zl_Land_withLeastThanks_L46 B hret hlk hk9 r0 r1 x2 _ _ _ hP hS (lv_sub hl [0, 1, 2] rfl) hr0 hr1 hf
    · have hf := zu_f c3 hf
      refine lv_aload_n hx hb zd_Land_withLeastThanks_39 rfl (lv_at hl 0 rfl) ?_
      refine zg_Land_throwers B hP hr0 zq_53 zd_Land_withLeastThanks_40 ?_
      refine lv_iload_n hx hb zd_Land_withLeastThanks_43 rfl (lv_at hl 2 rfl) ?_
      obtain ⟨hg4, hf⟩ := zu_gd_e hf
      refine zr_thr rfl B hP (zk_Land_throwers hr0) hg4 zd_Land_withLeastThanks_44 ?_
      refine lv_astore_n (lv' := [(1, .ref (ad (zu_th (r0 + 6) (x2.toNatClampNeg)))), (0, .ref (ad r0)), (2, .int x2)]) hx hb zd_Land_withLeastThanks_45 rfl hl (by decide) rfl (fun ls hl => ?_)
      exact zl_Land_withLeastThanks_L46 B hret hlk hk9 r0 (zu_th (r0 + 6) (x2.toNatClampNeg)) x2 _ _ _ hP hS (lv_sub hl [1, 0, 2] rfl) hr0 (zk_thr (zk_Land_throwers hr0) (zu_ib_lt hg4)) hf
theorem zl_Land_withLeastThanks_L9 {p : Program} {l : Launch} {e : Env} {s : State} {m : MethodId} {args : Array Value} {below : List Frame} {meth : Method} {c : Code} {D : va_G} {cA : Nat → ClassId} {ad : Nat → Nat} {A : Nat → Prop} (B : zu_B p s m args c zb_Land_withLeastThanks 3 "StonePost$Land" D cA ad A) (hret : meth.sig.returnType = (some (.object "StonePost$Thrower"))) (hlk : meth.locks = false) {X : IX} {Y : LX} {res : Nat} : ∀ (n : Nat) (r0 : Nat) (r1 : Nat) (x2 : Int32) (H : Heap) (locs : List Loc) (ls : Array Slot), va_P D zu_cl (zu_pic cA ad X Y) H → va_S A s.heap H locs → lv_has ls 3 [(0, .ref (ad r0)), (1, .ref (ad r1)), (2, .int x2)] → zu_kd r0 = 5 → zu_kd r1 = 6 → fn_Land_withLeastThanks_L9 X n r0 r1 x2 = some res → W p l e zR_Land_withLeastThanks s m args below meth c H locs 0 0 (MQ below (zu_Qr D cA ad A res X Y) args s 0 0 A) (F0 m 9 ls []) := by
  intro n
  induction n with
  | zero =>
    intro r0 r1 x2 H locs ls hP hS hl hr0 hr1 hf
    exact (Option.some_ne_none _ hf.symm).elim
  | succ n ih =>
    intro r0 r1 x2 H locs ls hP hS hl hr0 hr1 hf
    exact zl_Land_withLeastThanks_B9 B hret hlk ih r0 r1 x2 H locs ls hP hS hl hr0 hr1 hf
set_option maxHeartbeats 4000000 in
theorem zl_Land_withLeastThanks {p : Program} {l : Launch} {e : Env} {s : State} {m : MethodId} {args : Array Value} {below : List Frame} {meth : Method} {c : Code} {D : va_G} {cA : Nat → ClassId} {ad : Nat → Nat} {A : Nat → Prop} (B : zu_B p s m args c zb_Land_withLeastThanks 3 "StonePost$Land" D cA ad A) (hret : meth.sig.returnType = (some (.object "StonePost$Thrower"))) (hlk : meth.locks = false) {X : IX} {Y : LX} {res : Nat} {r0 : Nat} (H : Heap) (locs : List Loc) (ls : Array Slot) (hP : va_P D zu_cl (zu_pic cA ad X Y) H) (hS : va_S A s.heap H locs) (hl : lv_has ls 3 [(0, .ref (ad r0))]) (hr0 : zu_kd r0 = 5) (hf : fn_Land_withLeastThanks X r0 = some res) : W p l e zR_Land_withLeastThanks s m args below meth c H locs 0 0 (MQ below (zu_Qr D cA ad A res X Y) args s 0 0 A) (F0 m 0 ls []) := by
  obtain ⟨hx, hb, hml, hown, hts, hST⟩ := id B
  unfold fn_Land_withLeastThanks at hf
  refine lv_aload_n hx hb zd_Land_withLeastThanks_0 rfl (lv_at hl 0 rfl) ?_
  refine zg_Land_throwers B hP hr0 zq_53 zd_Land_withLeastThanks_1 ?_
  refine lv_iconst (v := 0) hx hb zd_Land_withLeastThanks_4 (by decide) ?_
  refine zr_thr (j := 0) (by decide) B hP (zk_Land_throwers hr0) (by decide) zd_Land_withLeastThanks_5 ?_
  refine lv_astore_n (lv' := [(1, .ref (ad (zu_th (r0 + 6) 0))), (0, .ref (ad r0))]) hx hb zd_Land_withLeastThanks_6 rfl hl (by decide) rfl (fun ls hl => ?_)
  refine lv_iconst (v := 1) hx hb zd_Land_withLeastThanks_7 (by decide) ?_
  refine lv_istore_n (lv' := [(2, .int (1 : Int32)), (1, .ref (ad (zu_th (r0 + 6) 0))), (0, .ref (ad r0))]) hx hb zd_Land_withLeastThanks_8 rfl hl (by decide) rfl (fun ls hl => ?_)
  exact zl_Land_withLeastThanks_L9 B hret hlk 400 r0 (zu_th (r0 + 6) 0) (1 : Int32) _ _ _ hP hS (lv_sub hl [2, 1, 0] rfl) hr0 (zk_thr (zk_Land_throwers hr0) (by decide)) hf
theorem zC_Land_withLeastThanks (l : Launch) {D : va_G} {cA : Nat → ClassId} {ad : Nat → Nat} {A : Nat → Prop} {r0 : Nat} {X : IX} {Y : LX} {res : Nat} (hr0 : zu_kd r0 = 5) (hf : fn_Land_withLeastThanks X r0 = some res) : Met l zm_Land_withLeastThanks (zu_ws zm_Land_withLeastThanks zb_Land_withLeastThanks 3 (some (.object "StonePost$Thrower"))) zR_Land_withLeastThanks (va_Pc [.ref (ad r0)] (zu_Pre D cA ad A X Y)) (zu_Qr D cA ad A res X Y) 0 0 A := by
  refine Met.ofW (cc := zb_Land_withLeastThanks) (maxL := 3) (ret := (some (.object "StonePost$Thrower"))) (by decide +kernel) rfl ?_
  intro p e s m args below meth c s₁ B0 hml hv
  obtain ⟨rfl, hP, hST⟩ := hv
  have B : zu_B p s m _ c zb_Land_withLeastThanks 3 "StonePost$Land" D cA ad A := ⟨B0.exec, B0.bytes, hml, findClass_of_methodNamed B0.named, (fun w hw => atoms_spec (ws := zu_ws zm_Land_withLeastThanks zb_Land_withLeastThanks 3 (some (.object "StonePost$Thrower"))) B0.pre w (List.mem_cons_of_mem _ hw)), hST⟩
  have hl := lv_entry ([.ref (ad r0)]) (n := 3) (Nat.le_of_ble_eq_true rfl)
  rw [lg_entry_eq]
  generalize (lg_sl ([.ref (ad r0)]) ++ List.replicate (3 - (lg_sl ([.ref (ad r0)])).length) Slot.unset).toArray = ls at hl ⊢
  exact zl_Land_withLeastThanks B B0.returns B0.notSynchronized s.heap [] ls hP va_S.rf hl hr0 hf
theorem zw_Land_withLeastThanks {p : Program} {l : Launch} {e : Env} {R : Room} {s : State} {m : MethodId} {args : Array Value} {below : List Frame} {meth : Method} {c : Code} {H : Heap} {locs : List Loc} {cells slots : Nat} {Q : State → Prop} {cc : ByteArray} {pc nL : Nat} {ls : Array Slot} {rest st0 : List Value} {D : va_G} {cA : Nat → ClassId} {ad : Nat → Nat} {A : Nat → Prop} {X : IX} {Y : LX} {own : String} {index : Nat} {r0 : Nat} {v1 : Nat} (B : zu_B p s m args c cc nL own D cA ad A) (hP : va_P D zu_cl (zu_pic cA ad X Y) H) (hS : va_S A s.heap H locs) (hr0 : zu_kd r0 = 5) (hq : fn_Land_withLeastThanks X r0 = some v1) (m1 : Cond.methodLink own index zm_Land_withLeastThanks ∈ zu_TB) (hR1 : 0 + 1 ≤ R.frames) (hR2 : 8 + (3 + 11) + 0 ≤ R.locals) (hsz : ls.size = nL) (hst : st0 = .ref (ad r0) :: rest) (hw : (rest.map fun v => v.category).sum ≤ 8) (hdg : decode cc pc = .ok (.invokevirtual index, 3)) (h00 : cells ≤ R.cells ∧ slots ≤ R.slots) (kk : ∀ (H1 : Heap) (locs1 : List Loc), va_P D zu_cl (zu_pic cA ad X Y) H1 → va_S A s.heap H1 locs1 → W p l e R s m args below meth c H1 locs1 cells slots Q (F0 m (pc + 3) ls (.ref (ad v1) :: rest))) : W p l e R s m args below meth c H locs cells slots Q (F0 m pc ls st0) := by
  subst hst
  exact zr_cVr (As := []) (rest := rest) (n := 0) (C := "StonePost$Land") (T := zt_Land) (N := 10) B hP hS (zC_Land_withLeastThanks l hr0 hq) (K := 5) hr0 (by decide) (by decide) rfl rfl m1 zq_605 zq_606 zq_2 zq_607 (by decide +kernel) ⟨hR1, hR2⟩ rfl rfl rfl hsz rfl hw hdg h00 kk
abbrev zR_Post_gifts : Room := { frames := 2, cells := 0, slots := 0, locals := 48 }
theorem zd_Post_gifts_0 : decode zb_Post_gifts 0 = .ok (.aload_n 0, 1) := by decide +kernel
theorem zd_Post_gifts_1 : decode zb_Post_gifts 1 = .ok (.getfield 10, 3) := by decide +kernel
theorem zd_Post_gifts_4 : decode zb_Post_gifts 4 = .ok (.getfield 182, 3) := by decide +kernel
theorem zd_Post_gifts_7 : decode zb_Post_gifts 7 = .ok (.ifCond .gt 5, 3) := by decide +kernel
theorem zd_Post_gifts_10 : decode zb_Post_gifts 10 = .ok (.iconst 0, 1) := by decide +kernel
theorem zd_Post_gifts_11 : decode zb_Post_gifts 11 = .ok (.ireturn, 1) := by decide +kernel
theorem zd_Post_gifts_12 : decode zb_Post_gifts 12 = .ok (.aload_n 0, 1) := by decide +kernel
theorem zd_Post_gifts_13 : decode zb_Post_gifts 13 = .ok (.getfield 10, 3) := by decide +kernel
theorem zd_Post_gifts_16 : decode zb_Post_gifts 16 = .ok (.invokevirtual 216, 3) := by decide +kernel
theorem zd_Post_gifts_19 : decode zb_Post_gifts 19 = .ok (.aload_n 0, 1) := by decide +kernel
theorem zd_Post_gifts_20 : decode zb_Post_gifts 20 = .ok (.getfield 10, 3) := by decide +kernel
theorem zd_Post_gifts_23 : decode zb_Post_gifts 23 = .ok (.getfield 182, 3) := by decide +kernel
theorem zd_Post_gifts_26 : decode zb_Post_gifts 26 = .ok (.idiv, 1) := by decide +kernel
theorem zd_Post_gifts_27 : decode zb_Post_gifts 27 = .ok (.istore_n 1, 1) := by decide +kernel
theorem zd_Post_gifts_28 : decode zb_Post_gifts 28 = .ok (.aload_n 0, 1) := by decide +kernel
theorem zd_Post_gifts_29 : decode zb_Post_gifts 29 = .ok (.getfield 19, 3) := by decide +kernel
theorem zd_Post_gifts_32 : decode zb_Post_gifts 32 = .ok (.aload_n 0, 1) := by decide +kernel
theorem zd_Post_gifts_33 : decode zb_Post_gifts 33 = .ok (.getfield 10, 3) := by decide +kernel
theorem zd_Post_gifts_36 : decode zb_Post_gifts 36 = .ok (.invokevirtual 197, 3) := by decide +kernel
theorem zd_Post_gifts_39 : decode zb_Post_gifts 39 = .ok (.iconst 0, 1) := by decide +kernel
theorem zd_Post_gifts_40 : decode zb_Post_gifts 40 = .ok (.istore_n 2, 1) := by decide +kernel
theorem zd_Post_gifts_41 : decode zb_Post_gifts 41 = .ok (.iconst 0, 1) := by decide +kernel
theorem zd_Post_gifts_42 : decode zb_Post_gifts 42 = .ok (.istore_n 3, 1) := by decide +kernel
theorem zd_Post_gifts_43 : decode zb_Post_gifts 43 = .ok (.iload_n 3, 1) := by decide +kernel
theorem zd_Post_gifts_44 : decode zb_Post_gifts 44 = .ok (.bipush 10, 2) := by decide +kernel
theorem zd_Post_gifts_46 : decode zb_Post_gifts 46 = .ok (.if_icmp .ge 96, 3) := by decide +kernel
theorem zd_Post_gifts_49 : decode zb_Post_gifts 49 = .ok (.aload_n 0, 1) := by decide +kernel
theorem zd_Post_gifts_50 : decode zb_Post_gifts 50 = .ok (.getfield 19, 3) := by decide +kernel
theorem zd_Post_gifts_53 : decode zb_Post_gifts 53 = .ok (.invokevirtual 219, 3) := by decide +kernel
theorem zd_Post_gifts_56 : decode zb_Post_gifts 56 = .ok (.getfield 91, 3) := by decide +kernel
theorem zd_Post_gifts_59 : decode zb_Post_gifts 59 = .ok (.astore 4, 2) := by decide +kernel
theorem zd_Post_gifts_61 : decode zb_Post_gifts 61 = .ok (.aload_n 0, 1) := by decide +kernel
theorem zd_Post_gifts_62 : decode zb_Post_gifts 62 = .ok (.getfield 19, 3) := by decide +kernel
theorem zd_Post_gifts_65 : decode zb_Post_gifts 65 = .ok (.invokevirtual 223, 3) := by decide +kernel
theorem zd_Post_gifts_68 : decode zb_Post_gifts 68 = .ok (.getfield 91, 3) := by decide +kernel
theorem zd_Post_gifts_71 : decode zb_Post_gifts 71 = .ok (.astore 5, 2) := by decide +kernel
theorem zd_Post_gifts_73 : decode zb_Post_gifts 73 = .ok (.aload 4, 2) := by decide +kernel
theorem zd_Post_gifts_75 : decode zb_Post_gifts 75 = .ok (.bipush 8, 2) := by decide +kernel
theorem zd_Post_gifts_77 : decode zb_Post_gifts 77 = .ok (.iaload, 1) := by decide +kernel
theorem zd_Post_gifts_78 : decode zb_Post_gifts 78 = .ok (.iload_n 1, 1) := by decide +kernel
theorem zd_Post_gifts_79 : decode zb_Post_gifts 79 = .ok (.isub, 1) := by decide +kernel
theorem zd_Post_gifts_80 : decode zb_Post_gifts 80 = .ok (.istore 6, 2) := by decide +kernel
theorem zd_Post_gifts_82 : decode zb_Post_gifts 82 = .ok (.iload_n 1, 1) := by decide +kernel
theorem zd_Post_gifts_83 : decode zb_Post_gifts 83 = .ok (.aload 5, 2) := by decide +kernel
theorem zd_Post_gifts_85 : decode zb_Post_gifts 85 = .ok (.bipush 8, 2) := by decide +kernel
theorem zd_Post_gifts_87 : decode zb_Post_gifts 87 = .ok (.iaload, 1) := by decide +kernel
theorem zd_Post_gifts_88 : decode zb_Post_gifts 88 = .ok (.isub, 1) := by decide +kernel
theorem zd_Post_gifts_89 : decode zb_Post_gifts 89 = .ok (.istore 7, 2) := by decide +kernel
theorem zd_Post_gifts_91 : decode zb_Post_gifts 91 = .ok (.iload 6, 2) := by decide +kernel
theorem zd_Post_gifts_93 : decode zb_Post_gifts 93 = .ok (.ifCond .le 49, 3) := by decide +kernel
theorem zd_Post_gifts_96 : decode zb_Post_gifts 96 = .ok (.iload 7, 2) := by decide +kernel
theorem zd_Post_gifts_98 : decode zb_Post_gifts 98 = .ok (.ifCond .gt 6, 3) := by decide +kernel
theorem zd_Post_gifts_101 : decode zb_Post_gifts 101 = .ok (.goto 41, 3) := by decide +kernel
theorem zd_Post_gifts_104 : decode zb_Post_gifts 104 = .ok (.iload 6, 2) := by decide +kernel
theorem zd_Post_gifts_106 : decode zb_Post_gifts 106 = .ok (.iload 7, 2) := by decide +kernel
theorem zd_Post_gifts_108 : decode zb_Post_gifts 108 = .ok (.invokestatic 226, 3) := by decide +kernel
theorem zd_Post_gifts_111 : decode zb_Post_gifts 111 = .ok (.istore 8, 2) := by decide +kernel
theorem zd_Post_gifts_113 : decode zb_Post_gifts 113 = .ok (.aload 4, 2) := by decide +kernel
theorem zd_Post_gifts_115 : decode zb_Post_gifts 115 = .ok (.bipush 8, 2) := by decide +kernel
theorem zd_Post_gifts_117 : decode zb_Post_gifts 117 = .ok (.dup2, 1) := by decide +kernel
theorem zd_Post_gifts_118 : decode zb_Post_gifts 118 = .ok (.iaload, 1) := by decide +kernel
theorem zd_Post_gifts_119 : decode zb_Post_gifts 119 = .ok (.iload 8, 2) := by decide +kernel
theorem zd_Post_gifts_121 : decode zb_Post_gifts 121 = .ok (.isub, 1) := by decide +kernel
theorem zd_Post_gifts_122 : decode zb_Post_gifts 122 = .ok (.iastore, 1) := by decide +kernel
theorem zd_Post_gifts_123 : decode zb_Post_gifts 123 = .ok (.aload 5, 2) := by decide +kernel
theorem zd_Post_gifts_125 : decode zb_Post_gifts 125 = .ok (.bipush 8, 2) := by decide +kernel
theorem zd_Post_gifts_127 : decode zb_Post_gifts 127 = .ok (.dup2, 1) := by decide +kernel
theorem zd_Post_gifts_128 : decode zb_Post_gifts 128 = .ok (.iaload, 1) := by decide +kernel
theorem zd_Post_gifts_129 : decode zb_Post_gifts 129 = .ok (.iload 8, 2) := by decide +kernel
theorem zd_Post_gifts_131 : decode zb_Post_gifts 131 = .ok (.iadd, 1) := by decide +kernel
theorem zd_Post_gifts_132 : decode zb_Post_gifts 132 = .ok (.iastore, 1) := by decide +kernel
theorem zd_Post_gifts_133 : decode zb_Post_gifts 133 = .ok (.iinc 2 1, 3) := by decide +kernel
theorem zd_Post_gifts_136 : decode zb_Post_gifts 136 = .ok (.iinc 3 1, 3) := by decide +kernel
theorem zd_Post_gifts_139 : decode zb_Post_gifts 139 = .ok (.goto (-96), 3) := by decide +kernel
theorem zd_Post_gifts_142 : decode zb_Post_gifts 142 = .ok (.iload_n 2, 1) := by decide +kernel
theorem zd_Post_gifts_143 : decode zb_Post_gifts 143 = .ok (.ireturn, 1) := by decide +kernel
set_option maxHeartbeats 4000000 in
theorem zl_Post_gifts_L142 {p : Program} {l : Launch} {e : Env} {s : State} {m : MethodId} {args : Array Value} {below : List Frame} {meth : Method} {c : Code} {D : va_G} {cA : Nat → ClassId} {ad : Nat → Nat} {A : Nat → Prop} (B : zu_B p s m args c zb_Post_gifts 9 "StonePost" D cA ad A) (hret : meth.sig.returnType = (some .int)) (hlk : meth.locks = false) {Y : LX} {res : Int32 × IX} (x2 : Int32) (X : IX) (H : Heap) (locs : List Loc) (ls : Array Slot) (hP : va_P D zu_cl (zu_pic cA ad X Y) H) (hS : va_S A s.heap H locs) (hl : lv_has ls 9 [(2, .int x2)]) (hf : fn_Post_gifts_L142 x2 X = some res) : W p l e zR_Post_gifts s m args below meth c H locs 0 0 (MQ below (zu_Qi D cA ad A res.1 res.2 Y) args s 0 0 A) (F0 m 142 ls []) := by
  obtain ⟨hx, hb, hml, hown, hts, hST⟩ := id B
  unfold fn_Post_gifts_L142 at hf
  refine lv_iload_n hx hb zd_Post_gifts_142 rfl (lv_at hl 0 rfl) ?_
  obtain rfl := Option.some.inj hf
  exact zr_iret hx hb hret hlk hP hS zd_Post_gifts_143
set_option maxHeartbeats 4000000 in
theorem zl_Post_gifts_B43 {p : Program} {l : Launch} {e : Env} {s : State} {m : MethodId} {args : Array Value} {below : List Frame} {meth : Method} {c : Code} {D : va_G} {cA : Nat → ClassId} {ad : Nat → Nat} {A : Nat → Prop} (B : zu_B p s m args c zb_Post_gifts 9 "StonePost" D cA ad A) (hret : meth.sig.returnType = (some .int)) (hlk : meth.locks = false) {Y : LX} {res : Int32 × IX} {k43 : Int32 → Int32 → Int32 → IX → Option (Int32 × IX)} (hk43 : ∀ (x1 : Int32) (x2 : Int32) (x3 : Int32) (X : IX) (H : Heap) (locs : List Loc) (ls : Array Slot), va_P D zu_cl (zu_pic cA ad X Y) H → va_S A s.heap H locs → lv_has ls 9 [(0, .ref (ad 0)), (1, .int x1), (2, .int x2), (3, .int x3)] → k43 x1 x2 x3 X = some res → W p l e zR_Post_gifts s m args below meth c H locs 0 0 (MQ below (zu_Qi D cA ad A res.1 res.2 Y) args s 0 0 A) (F0 m 43 ls [])) (x1 : Int32) (x2 : Int32) (x3 : Int32) (X : IX) (H : Heap) (locs : List Loc) (ls : Array Slot) (hP : va_P D zu_cl (zu_pic cA ad X Y) H) (hS : va_S A s.heap H locs) (hl : lv_has ls 9 [(0, .ref (ad 0)), (1, .int x1), (2, .int x2), (3, .int x3)]) (hf : fn_Post_gifts_B43 k43 x1 x2 x3 X = some res) : W p l e zR_Post_gifts s m args below meth c H locs 0 0 (MQ below (zu_Qi D cA ad A res.1 res.2 Y) args s 0 0 A) (F0 m 43 ls []) := by
  obtain ⟨hx, hb, hml, hown, hts, hST⟩ := id B
  unfold fn_Post_gifts_B43 at hf
  refine lv_iload_n hx hb zd_Post_gifts_43 rfl (lv_at hl 3 rfl) ?_
  refine lv_bipush (v := 10) hx hb zd_Post_gifts_44 (by decide) ?_
  refine lv_icmp_ge (tgt := 142) hx hb zd_Post_gifts_46 (by decide) (fun c8 => ?_) (fun c8 => ?_)
  · have hf := zu_t c8 hf
    exact zl_Post_gifts_L142 B hret hlk x2 X _ _ _ hP hS (lv_sub hl [2] rfl) hf
  · have hf := zu_f c8 hf
    refine lv_aload_n hx hb zd_Post_gifts_49 rfl (lv_at hl 0 rfl) ?_
    refine zg_Post_trial B hP rfl zq_193 zd_Post_gifts_50 ?_
    obtain ⟨r9, hq10, hf⟩ := zu_b1_e hf
    refine zw_Land_withMostThanks (rest := []) B hP hS rfl hq10 zq_600 (Nat.le_of_ble_eq_true rfl) (Nat.le_of_ble_eq_true rfl) hl.1 rfl (Nat.le_of_ble_eq_true rfl) zd_Post_gifts_53 (by decide) (fun H locs hP hS => ?_)
    have hk11 : zu_kd r9 = 6 := zx_Land_withMostThanks rfl hq10
    refine zg_Thr_facts B hP hk11 zq_41 zd_Post_gifts_56 ?_
    refine lv_astore (lv' := [(4, .ref (ad (r9 + 30))), (0, .ref (ad 0)), (1, .int x1), (2, .int x2), (3, .int x3)]) hx hb zd_Post_gifts_59 hl (by decide) rfl (fun ls hl => ?_)
    refine lv_aload_n hx hb zd_Post_gifts_61 rfl (lv_at hl 1 rfl) ?_
    refine zg_Post_trial B hP rfl zq_193 zd_Post_gifts_62 ?_
    obtain ⟨r12, hq13, hf⟩ := zu_b1_e hf
    refine zw_Land_withLeastThanks (rest := []) B hP hS rfl hq13 zq_604 (Nat.le_of_ble_eq_true rfl) (Nat.le_of_ble_eq_true rfl) hl.1 rfl (Nat.le_of_ble_eq_true rfl) zd_Post_gifts_65 (by decide) (fun H locs hP hS => ?_)
    have hk14 : zu_kd r12 = 6 := zx_Land_withLeastThanks rfl hq13
    refine zg_Thr_facts B hP hk14 zq_41 zd_Post_gifts_68 ?_
    refine lv_astore (lv' := [(5, .ref (ad (r12 + 30))), (4, .ref (ad (r9 + 30))), (0, .ref (ad 0)), (1, .int x1), (2, .int x2), (3, .int x3)]) hx hb zd_Post_gifts_71 hl (by decide) rfl (fun ls hl => ?_)
    refine lv_aload hx hb zd_Post_gifts_73 (lv_at hl 1 rfl) ?_
    refine lv_bipush (v := 8) hx hb zd_Post_gifts_75 (by decide) ?_
    refine zr_iald (j := 8) (by decide) B hP (zk_Thr_facts hk11) (by decide) rfl (by decide) zd_Post_gifts_77 ?_
    refine lv_iload_n hx hb zd_Post_gifts_78 rfl (lv_at hl 3 rfl) ?_
    refine lv_isub hx hb zd_Post_gifts_79 ?_
    refine zr_nxi hf (fun v15 hf => ?_)
    refine lv_istore (lv' := [(6, .int v15), (5, .ref (ad (r12 + 30))), (4, .ref (ad (r9 + 30))), (0, .ref (ad 0)), (1, .int x1), (2, .int x2), (3, .int x3)]) hx hb zd_Post_gifts_80 hl (by decide) rfl (fun ls hl => ?_)
    refine lv_iload_n hx hb zd_Post_gifts_82 rfl (lv_at hl 4 rfl) ?_
    refine lv_aload hx hb zd_Post_gifts_83 (lv_at hl 1 rfl) ?_
    refine lv_bipush (v := 8) hx hb zd_Post_gifts_85 (by decide) ?_
    refine zr_iald (j := 8) (by decide) B hP (zk_Thr_facts hk14) (by decide) rfl (by decide) zd_Post_gifts_87 ?_
    refine lv_isub hx hb zd_Post_gifts_88 ?_
    refine zr_nxi hf (fun v16 hf => ?_)
    refine lv_istore (lv' := [(7, .int v16), (6, .int v15), (5, .ref (ad (r12 + 30))), (4, .ref (ad (r9 + 30))), (0, .ref (ad 0)), (1, .int x1), (2, .int x2), (3, .int x3)]) hx hb zd_Post_gifts_89 hl (by decide) rfl (fun ls hl => ?_)
    refine lv_iload hx hb zd_Post_gifts_91 (lv_at hl 1 rfl) ?_
    refine lv_if_le (tgt := 142) hx hb zd_Post_gifts_93 (by decide) (fun c17 => ?_) (fun c17 => ?_)
    · have hf := zu_t c17 hf
      exact zl_Post_gifts_L142 B hret hlk x2 X _ _ _ hP hS (lv_sub hl [6] rfl) hf
    · have hf := zu_f c17 hf
      refine lv_iload hx hb zd_Post_gifts_96 (lv_at hl 0 rfl) ?_
      refine lv_if_gt (tgt := 104) hx hb zd_Post_gifts_98 (by decide) (fun c18 => ?_) (fun c18 => ?_)
      · have hf := zu_t c18 hf
        refine lv_iload hx hb zd_Post_gifts_104 (lv_at hl 1 rfl) ?_
        refine lv_iload hx hb zd_Post_gifts_106 (lv_at hl 0 rfl) ?_
        refine va_mmin hx hb (hml.trans hl.1.symm) hown (hts _ zq_608) (hts _ zq_320) (hts _ zq_10) (hts _ zq_321) (by decide) (Nat.le_of_ble_eq_true rfl) (by decide) (by decide) zd_Post_gifts_108 ?_
        refine zr_nxi hf (fun v19 hf => ?_)
        refine lv_istore (lv' := [(8, .int v19), (7, .int v16), (6, .int v15), (5, .ref (ad (r12 + 30))), (4, .ref (ad (r9 + 30))), (0, .ref (ad 0)), (1, .int x1), (2, .int x2), (3, .int x3)]) hx hb zd_Post_gifts_111 hl (by decide) rfl (fun ls hl => ?_)
        refine lv_aload hx hb zd_Post_gifts_113 (lv_at hl 4 rfl) ?_
        refine lv_bipush (v := 8) hx hb zd_Post_gifts_115 (by decide) ?_
        refine lv_dup2_11 hx hb zd_Post_gifts_117 rfl rfl ?_
        refine zr_iald (j := 8) (by decide) B hP (zk_Thr_facts hk11) (by decide) rfl (by decide) zd_Post_gifts_118 ?_
        refine lv_iload hx hb zd_Post_gifts_119 (lv_at hl 0 rfl) ?_
        refine lv_isub hx hb zd_Post_gifts_121 ?_
        refine zr_iast (j := 8) (by decide) B hP hS hf (zk_Thr_facts hk11) (by decide) rfl (by decide) zd_Post_gifts_122 (fun X20 H locs hf hP hS => ?_)
        refine lv_aload hx hb zd_Post_gifts_123 (lv_at hl 3 rfl) ?_
        refine lv_bipush (v := 8) hx hb zd_Post_gifts_125 (by decide) ?_
        refine lv_dup2_11 hx hb zd_Post_gifts_127 rfl rfl ?_
        refine zr_iald (j := 8) (by decide) B hP (zk_Thr_facts hk14) (by decide) rfl (by decide) zd_Post_gifts_128 ?_
        refine lv_iload hx hb zd_Post_gifts_129 (lv_at hl 0 rfl) ?_
        refine lv_iadd hx hb zd_Post_gifts_131 ?_
        refine zr_iast (j := 8) (by decide) B hP hS hf (zk_Thr_facts hk14) (by decide) rfl (by decide) zd_Post_gifts_132 (fun X21 H locs hf hP hS => ?_)
        obtain ⟨v22, ev22, hf⟩ := zu_nx_e hf
        refine lv_iinc (v := v22) (lv' := [(2, .int v22), (8, .int v19), (7, .int v16), (6, .int v15), (5, .ref (ad (r12 + 30))), (4, .ref (ad (r9 + 30))), (0, .ref (ad 0)), (1, .int x1), (3, .int x3)]) hx hb zd_Post_gifts_133 hl (k := 7) rfl (by rw [ev22]; rfl) (by decide) rfl (fun ls hl => ?_)
        clear ev22
        obtain ⟨v23, ev23, hf⟩ := zu_nx_e hf
        refine lv_iinc (v := v23) (lv' := [(3, .int v23), (2, .int v22), (8, .int v19), (7, .int v16), (6, .int v15), (5, .ref (ad (r12 + 30))), (4, .ref (ad (r9 + 30))), (0, .ref (ad 0)), (1, .int x1)]) hx hb zd_Post_gifts_136 hl (k := 8) rfl (by rw [ev23]; rfl) (by decide) rfl (fun ls hl => ?_)
        clear ev23
        refine lv_goto (tgt := 43) hx hb zd_Post_gifts_139 (by decide) ?_
        exact hk43 x1 v22 v23 X21 _ _ _ hP hS (lv_sub hl [7, 8, 1, 0] rfl) hf
      · have hf := zu_f c18 hf
        refine lv_goto (tgt := 142) hx hb zd_Post_gifts_101 (by decide) ?_
        exact zl_Post_gifts_L142 B hret hlk x2 X _ _ _ hP hS (lv_sub hl [6] rfl) hf
theorem zl_Post_gifts_L43 {p : Program} {l : Launch} {e : Env} {s : State} {m : MethodId} {args : Array Value} {below : List Frame} {meth : Method} {c : Code} {D : va_G} {cA : Nat → ClassId} {ad : Nat → Nat} {A : Nat → Prop} (B : zu_B p s m args c zb_Post_gifts 9 "StonePost" D cA ad A) (hret : meth.sig.returnType = (some .int)) (hlk : meth.locks = false) {Y : LX} {res : Int32 × IX} : ∀ (n : Nat) (x1 : Int32) (x2 : Int32) (x3 : Int32) (X : IX) (H : Heap) (locs : List Loc) (ls : Array Slot), va_P D zu_cl (zu_pic cA ad X Y) H → va_S A s.heap H locs → lv_has ls 9 [(0, .ref (ad 0)), (1, .int x1), (2, .int x2), (3, .int x3)] → fn_Post_gifts_L43 n x1 x2 x3 X = some res → W p l e zR_Post_gifts s m args below meth c H locs 0 0 (MQ below (zu_Qi D cA ad A res.1 res.2 Y) args s 0 0 A) (F0 m 43 ls []) := by
  intro n
  induction n with
  | zero =>
    intro x1 x2 x3 X H locs ls hP hS hl hf
    exact (Option.some_ne_none _ hf.symm).elim
  | succ n ih =>
    intro x1 x2 x3 X H locs ls hP hS hl hf
    exact zl_Post_gifts_B43 B hret hlk ih x1 x2 x3 X H locs ls hP hS hl  hf
set_option maxHeartbeats 4000000 in
theorem zl_Post_gifts {p : Program} {l : Launch} {e : Env} {s : State} {m : MethodId} {args : Array Value} {below : List Frame} {meth : Method} {c : Code} {D : va_G} {cA : Nat → ClassId} {ad : Nat → Nat} {A : Nat → Prop} (B : zu_B p s m args c zb_Post_gifts 9 "StonePost" D cA ad A) (hret : meth.sig.returnType = (some .int)) (hlk : meth.locks = false) {Y : LX} {res : Int32 × IX} {X : IX} (H : Heap) (locs : List Loc) (ls : Array Slot) (hP : va_P D zu_cl (zu_pic cA ad X Y) H) (hS : va_S A s.heap H locs) (hl : lv_has ls 9 [(0, .ref (ad 0))]) (hf : fn_Post_gifts X = some res) : W p l e zR_Post_gifts s m args below meth c H locs 0 0 (MQ below (zu_Qi D cA ad A res.1 res.2 Y) args s 0 0 A) (F0 m 0 ls []) := by
  obtain ⟨hx, hb, hml, hown, hts, hST⟩ := id B
  unfold fn_Post_gifts at hf
  refine lv_aload_n hx hb zd_Post_gifts_0 rfl (lv_at hl 0 rfl) ?_
  refine zg_Post_land B hP rfl zq_191 zd_Post_gifts_1 ?_
  refine zg_Land_throwerCount B hP rfl zq_63 zd_Post_gifts_4 ?_
  refine lv_if_gt (tgt := 12) hx hb zd_Post_gifts_7 (by decide) (fun c1 => ?_) (fun c1 => ?_)
  · have hf := zu_t c1 hf
    refine lv_aload_n hx hb zd_Post_gifts_12 rfl (lv_at hl 0 rfl) ?_
    refine zg_Post_land B hP rfl zq_191 zd_Post_gifts_13 ?_
    obtain ⟨v2, hq3, hf⟩ := zu_b1_e hf
    refine zw_Land_thanksOfAll (rest := []) B hP hS rfl hq3 zq_592 (Nat.le_of_ble_eq_true rfl) (Nat.le_of_ble_eq_true rfl) hl.1 rfl (Nat.le_of_ble_eq_true rfl) zd_Post_gifts_16 (by decide) (fun H locs hP hS => ?_)
    clear hq3
    refine lv_aload_n hx hb zd_Post_gifts_19 rfl (lv_at hl 0 rfl) ?_
    refine zg_Post_land B hP rfl zq_191 zd_Post_gifts_20 ?_
    refine zg_Land_throwerCount B hP rfl zq_63 zd_Post_gifts_23 ?_
    obtain ⟨hg4, hf⟩ := zu_gd_e hf
    refine lv_idiv hx hb zd_Post_gifts_26 (of_decide_eq_true hg4) ?_
    refine zr_nxi hf (fun v5 hf => ?_)
    refine lv_istore_n (lv' := [(1, .int v5), (0, .ref (ad 0))]) hx hb zd_Post_gifts_27 rfl hl (by decide) rfl (fun ls hl => ?_)
    refine lv_aload_n hx hb zd_Post_gifts_28 rfl (lv_at hl 1 rfl) ?_
    refine zg_Post_trial B hP rfl zq_193 zd_Post_gifts_29 ?_
    refine lv_aload_n hx hb zd_Post_gifts_32 rfl (lv_at hl 1 rfl) ?_
    refine zg_Post_land B hP rfl zq_191 zd_Post_gifts_33 ?_
    obtain ⟨X6, hq7, hf⟩ := zu_b1_e hf
    refine zw_Land_become (rest := []) B hP hS rfl rfl hq7 zq_539 (Nat.le_of_ble_eq_true rfl) (Nat.le_of_ble_eq_true rfl) hl.1 rfl (Nat.le_of_ble_eq_true rfl) zd_Post_gifts_36 (by decide) (fun H locs hP hS => ?_)
    clear hq7
    refine lv_iconst (v := 0) hx hb zd_Post_gifts_39 (by decide) ?_
    refine lv_istore_n (lv' := [(2, .int (0 : Int32)), (1, .int v5), (0, .ref (ad 0))]) hx hb zd_Post_gifts_40 rfl hl (by decide) rfl (fun ls hl => ?_)
    refine lv_iconst (v := 0) hx hb zd_Post_gifts_41 (by decide) ?_
    refine lv_istore_n (lv' := [(3, .int (0 : Int32)), (2, .int (0 : Int32)), (1, .int v5), (0, .ref (ad 0))]) hx hb zd_Post_gifts_42 rfl hl (by decide) rfl (fun ls hl => ?_)
    exact zl_Post_gifts_L43 B hret hlk 400 v5 (0 : Int32) (0 : Int32) X6 _ _ _ hP hS (lv_sub hl [3, 2, 1, 0] rfl) hf
  · have hf := zu_f c1 hf
    refine lv_iconst (v := 0) hx hb zd_Post_gifts_10 (by decide) ?_
    obtain rfl := Option.some.inj hf
    exact zr_iret hx hb hret hlk hP hS zd_Post_gifts_11
theorem zC_Post_gifts (l : Launch) {D : va_G} {cA : Nat → ClassId} {ad : Nat → Nat} {A : Nat → Prop} {X : IX} {Y : LX} {res : Int32 × IX} (hf : fn_Post_gifts X = some res) : Met l zm_Post_gifts (zu_ws zm_Post_gifts zb_Post_gifts 9 (some .int)) zR_Post_gifts (va_Pc [.ref (ad 0)] (zu_Pre D cA ad A X Y)) (zu_Qi D cA ad A res.1 res.2 Y) 0 0 A := by
  refine Met.ofW (cc := zb_Post_gifts) (maxL := 9) (ret := (some .int)) (by decide +kernel) rfl ?_
  intro p e s m args below meth c s₁ B0 hml hv
  obtain ⟨rfl, hP, hST⟩ := hv
  have B : zu_B p s m _ c zb_Post_gifts 9 "StonePost" D cA ad A := ⟨B0.exec, B0.bytes, hml, findClass_of_methodNamed B0.named, (fun w hw => atoms_spec (ws := zu_ws zm_Post_gifts zb_Post_gifts 9 (some .int)) B0.pre w (List.mem_cons_of_mem _ hw)), hST⟩
  have hl := lv_entry ([.ref (ad 0)]) (n := 9) (Nat.le_of_ble_eq_true rfl)
  rw [lg_entry_eq]
  generalize (lg_sl ([.ref (ad 0)]) ++ List.replicate (9 - (lg_sl ([.ref (ad 0)])).length) Slot.unset).toArray = ls at hl ⊢
  exact zl_Post_gifts B B0.returns B0.notSynchronized s.heap [] ls hP va_S.rf hl  hf
theorem zw_Post_gifts {p : Program} {l : Launch} {e : Env} {R : Room} {s : State} {m : MethodId} {args : Array Value} {below : List Frame} {meth : Method} {c : Code} {H : Heap} {locs : List Loc} {cells slots : Nat} {Q : State → Prop} {cc : ByteArray} {pc nL : Nat} {ls : Array Slot} {rest st0 : List Value} {D : va_G} {cA : Nat → ClassId} {ad : Nat → Nat} {A : Nat → Prop} {X : IX} {Y : LX} {own : String} {index : Nat} {v1 : Int32} {X1 : IX} (B : zu_B p s m args c cc nL own D cA ad A) (hP : va_P D zu_cl (zu_pic cA ad X Y) H) (hS : va_S A s.heap H locs) (hq : fn_Post_gifts X = some (v1, X1)) (m1 : Cond.methodLink own index zm_Post_gifts ∈ zu_TB) (hR1 : 2 + 1 ≤ R.frames) (hR2 : 8 + (9 + 11) + 48 ≤ R.locals) (hsz : ls.size = nL) (hst : st0 = .ref (ad 0) :: rest) (hw : (rest.map fun v => v.category).sum ≤ 8) (hdg : decode cc pc = .ok (.invokevirtual index, 3)) (h00 : cells ≤ R.cells ∧ slots ≤ R.slots) (kk : ∀ (H1 : Heap) (locs1 : List Loc), va_P D zu_cl (zu_pic cA ad X1 Y) H1 → va_S A s.heap H1 locs1 → W p l e R s m args below meth c H1 locs1 cells slots Q (F0 m (pc + 3) ls (.int v1 :: rest))) : W p l e R s m args below meth c H locs cells slots Q (F0 m pc ls st0) := by
  subst hst
  exact zr_cVi (As := []) (rest := rest) (n := 0) (C := "StonePost") (T := zt_Post) (N := 8) B hP hS (zC_Post_gifts l  hq) (K := 1) rfl (by decide) (by decide) rfl rfl m1 zq_589 zq_590 zq_1 zq_591 (by decide +kernel) ⟨hR1, hR2⟩ rfl rfl rfl hsz rfl hw hdg h00 kk
