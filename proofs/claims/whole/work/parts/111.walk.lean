abbrev zR_Mod_next : Room := { frames := 3, cells := 0, slots := 0, locals := 69 }
theorem zd_Mod_next_0 : decode zb_Mod_next 0 = .ok (.iload_n 1, 1) := by decide +kernel
theorem zd_Mod_next_1 : decode zb_Mod_next 1 = .ok (.invokestatic 58, 3) := by decide +kernel
theorem zd_Mod_next_4 : decode zb_Mod_next 4 = .ok (.ifCond .ne 10, 3) := by decide +kernel
theorem zd_Mod_next_7 : decode zb_Mod_next 7 = .ok (.aload_n 0, 1) := by decide +kernel
theorem zd_Mod_next_8 : decode zb_Mod_next 8 = .ok (.ldc 50, 2) := by decide +kernel
theorem zd_Mod_next_10 : decode zb_Mod_next 10 = .ok (.invokevirtual 64, 3) := by decide +kernel
theorem zd_Mod_next_13 : decode zb_Mod_next 13 = .ok (.ireturn, 1) := by decide +kernel
theorem zd_Mod_next_14 : decode zb_Mod_next 14 = .ok (.aload_n 0, 1) := by decide +kernel
theorem zd_Mod_next_15 : decode zb_Mod_next 15 = .ok (.iload_n 1, 1) := by decide +kernel
theorem zd_Mod_next_16 : decode zb_Mod_next 16 = .ok (.invokevirtual 122, 3) := by decide +kernel
theorem zd_Mod_next_19 : decode zb_Mod_next 19 = .ok (.ifCond .eq 7, 3) := by decide +kernel
theorem zd_Mod_next_22 : decode zb_Mod_next 22 = .ok (.iconst (-1), 1) := by decide +kernel
theorem zd_Mod_next_23 : decode zb_Mod_next 23 = .ok (.goto 8, 3) := by decide +kernel
theorem zd_Mod_next_26 : decode zb_Mod_next 26 = .ok (.aload_n 0, 1) := by decide +kernel
theorem zd_Mod_next_27 : decode zb_Mod_next 27 = .ok (.iload_n 1, 1) := by decide +kernel
theorem zd_Mod_next_28 : decode zb_Mod_next 28 = .ok (.invokevirtual 125, 3) := by decide +kernel
theorem zd_Mod_next_31 : decode zb_Mod_next 31 = .ok (.istore_n 2, 1) := by decide +kernel
theorem zd_Mod_next_32 : decode zb_Mod_next 32 = .ok (.iload_n 2, 1) := by decide +kernel
theorem zd_Mod_next_33 : decode zb_Mod_next 33 = .ok (.ifCond .ge 12, 3) := by decide +kernel
theorem zd_Mod_next_36 : decode zb_Mod_next 36 = .ok (.aload_n 0, 1) := by decide +kernel
theorem zd_Mod_next_37 : decode zb_Mod_next 37 = .ok (.ldc 128, 2) := by decide +kernel
theorem zd_Mod_next_39 : decode zb_Mod_next 39 = .ok (.invokevirtual 64, 3) := by decide +kernel
theorem zd_Mod_next_42 : decode zb_Mod_next 42 = .ok (.goto 4, 3) := by decide +kernel
theorem zd_Mod_next_45 : decode zb_Mod_next 45 = .ok (.iload_n 2, 1) := by decide +kernel
theorem zd_Mod_next_46 : decode zb_Mod_next 46 = .ok (.ireturn, 1) := by decide +kernel
set_option maxHeartbeats 4000000 in
theorem zl_Mod_next_L46 {p : Program} {l : Launch} {e : Env} {s : State} {m : MethodId} {args : Array Value} {below : List Frame} {meth : Method} {c : Code} {D : va_G} {cA : Nat → ClassId} {ad : Nat → Nat} {A : Nat → Prop} (B : zu_B p s m args c zb_Mod_next 3 "StonePostModel" D cA ad A) (hret : meth.sig.returnType = (some .int)) (hlk : meth.locks = false) {Y : LX} {res : Int32 × IX} (y0 : Int32) (X : IX) (H : Heap) (locs : List Loc) (ls : Array Slot) (hP : va_P D zu_cl (zu_pic cA ad X Y) H) (hS : va_S A s.heap H locs) (hl : lv_has ls 3 []) (hf : fn_Mod_next_L46 y0 X = some res) : W p l e zR_Mod_next s m args below meth c H locs 0 0 (MQ below (zu_Qi D cA ad A res.1 res.2 Y) args s 0 0 A) (F0 m 46 ls [.int y0]) := by
  obtain ⟨hx, hb, hml, hown, hts, hST⟩ := id B
  unfold fn_Mod_next_L46 at hf
  obtain rfl := Option.some.inj hf
  exact zr_iret hx hb hret hlk hP hS zd_Mod_next_46
set_option maxHeartbeats 4000000 in
theorem zl_Mod_next_L31 {p : Program} {l : Launch} {e : Env} {s : State} {m : MethodId} {args : Array Value} {below : List Frame} {meth : Method} {c : Code} {D : va_G} {cA : Nat → ClassId} {ad : Nat → Nat} {A : Nat → Prop} (B : zu_B p s m args c zb_Mod_next 3 "StonePostModel" D cA ad A) (hret : meth.sig.returnType = (some .int)) (hlk : meth.locks = false) {Y : LX} {res : Int32 × IX} (y0 : Int32) (X : IX) (H : Heap) (locs : List Loc) (ls : Array Slot) (hP : va_P D zu_cl (zu_pic cA ad X Y) H) (hS : va_S A s.heap H locs) (hl : lv_has ls 3 [(0, .ref (ad 95))]) (hf : fn_Mod_next_L31 y0 X = some res) : W p l e zR_Mod_next s m args below meth c H locs 0 0 (MQ below (zu_Qi D cA ad A res.1 res.2 Y) args s 0 0 A) (F0 m 31 ls [.int y0]) := by
  obtain ⟨hx, hb, hml, hown, hts, hST⟩ := id B
  unfold fn_Mod_next_L31 at hf
  refine lv_istore_n (lv' := [(2, .int y0), (0, .ref (ad 95))]) hx hb zd_Mod_next_31 rfl hl (by decide) rfl (fun ls hl => ?_)
  refine lv_iload_n hx hb zd_Mod_next_32 rfl (lv_at hl 0 rfl) ?_
  refine lv_if_ge (tgt := 45) hx hb zd_Mod_next_33 (by decide) (fun c12 => ?_) (fun c12 => ?_)
  · have hf := zu_t c12 hf
    refine lv_iload_n hx hb zd_Mod_next_45 rfl (lv_at hl 0 rfl) ?_
    exact zl_Mod_next_L46 B hret hlk y0 X _ _ _ hP hS (lv_sub hl [] rfl) hf
  · have hf := zu_f c12 hf
    refine lv_aload_n hx hb zd_Mod_next_36 rfl (lv_at hl 1 rfl) ?_
    refine lv_ldc (v := -1000004) hx hb hown (hts _ zq_1041) zd_Mod_next_37 ?_
    obtain ⟨v13, X14, hq15, hf⟩ := zu_b2_e hf
    refine zw_Mod_finds (rest := []) B hP hS hq15 zq_944 (Nat.le_of_ble_eq_true rfl) (Nat.le_of_ble_eq_true rfl) hl.1 rfl (Nat.le_of_ble_eq_true rfl) zd_Mod_next_39 (by decide) (fun H locs hP hS => ?_)
    clear hq15
    refine lv_goto (tgt := 46) hx hb zd_Mod_next_42 (by decide) ?_
    exact zl_Mod_next_L46 B hret hlk v13 X14 _ _ _ hP hS (lv_sub hl [] rfl) hf
set_option maxHeartbeats 4000000 in
theorem zl_Mod_next {p : Program} {l : Launch} {e : Env} {s : State} {m : MethodId} {args : Array Value} {below : List Frame} {meth : Method} {c : Code} {D : va_G} {cA : Nat → ClassId} {ad : Nat → Nat} {A : Nat → Prop} (B : zu_B p s m args c zb_Mod_next 3 "StonePostModel" D cA ad A) (hret : meth.sig.returnType = (some .int)) (hlk : meth.locks = false) {Y : LX} {res : Int32 × IX} {a1 : Int32} {X : IX} (H : Heap) (locs : List Loc) (ls : Array Slot) (hP : va_P D zu_cl (zu_pic cA ad X Y) H) (hS : va_S A s.heap H locs) (hl : lv_has ls 3 [(0, .ref (ad 95)), (1, .int a1)]) (hf : fn_Mod_next a1 X = some res) : W p l e zR_Mod_next s m args below meth c H locs 0 0 (MQ below (zu_Qi D cA ad A res.1 res.2 Y) args s 0 0 A) (F0 m 0 ls []) := by
  obtain ⟨hx, hb, hml, hown, hts, hST⟩ := id B
  unfold fn_Mod_next at hf
  refine lv_iload_n hx hb zd_Mod_next_0 rfl (lv_at hl 1 rfl) ?_
  obtain ⟨v1, hq2, hf⟩ := zu_b1_e hf
  refine zw_Mod_isCell (rest := []) B hP hS hq2 zq_935 (Nat.le_of_ble_eq_true rfl) (Nat.le_of_ble_eq_true rfl) hl.1 rfl (Nat.le_of_ble_eq_true rfl) zd_Mod_next_1 (by decide) (fun H locs hP hS => ?_)
  clear hq2
  refine lv_if_ne (tgt := 14) hx hb zd_Mod_next_4 (by decide) (fun c3 => ?_) (fun c3 => ?_)
  · have hf := zu_f c3 hf
    refine lv_aload_n hx hb zd_Mod_next_14 rfl (lv_at hl 0 rfl) ?_
    refine lv_iload_n hx hb zd_Mod_next_15 rfl (lv_at hl 1 rfl) ?_
    obtain ⟨v4, hq5, hf⟩ := zu_b1_e hf
    refine zw_Mod_isStaying (rest := []) B hP hS hq5 zq_1030 (Nat.le_of_ble_eq_true rfl) (Nat.le_of_ble_eq_true rfl) hl.1 rfl (Nat.le_of_ble_eq_true rfl) zd_Mod_next_16 (by decide) (fun H locs hP hS => ?_)
    clear hq5
    refine lv_if_eq (tgt := 26) hx hb zd_Mod_next_19 (by decide) (fun c6 => ?_) (fun c6 => ?_)
    · have hf := zu_t c6 hf
      refine lv_aload_n hx hb zd_Mod_next_26 rfl (lv_at hl 0 rfl) ?_
      refine lv_iload_n hx hb zd_Mod_next_27 rfl (lv_at hl 1 rfl) ?_
      obtain ⟨v7, hq8, hf⟩ := zu_b1_e hf
      refine zw_Mod_nearest (rest := []) B hP hS hq8 zq_1034 (Nat.le_of_ble_eq_true rfl) (Nat.le_of_ble_eq_true rfl) hl.1 rfl (Nat.le_of_ble_eq_true rfl) zd_Mod_next_28 (by decide) (fun H locs hP hS => ?_)
      clear hq8
      exact zl_Mod_next_L31 B hret hlk v7 X _ _ _ hP hS (lv_sub hl [0] rfl) hf
    · have hf := zu_f c6 hf
      refine lv_iconst (v := -1) hx hb zd_Mod_next_22 (by decide) ?_
      refine lv_goto (tgt := 31) hx hb zd_Mod_next_23 (by decide) ?_
      exact zl_Mod_next_L31 B hret hlk (-1 : Int32) X _ _ _ hP hS (lv_sub hl [0] rfl) hf
  · have hf := zu_t c3 hf
    refine lv_aload_n hx hb zd_Mod_next_7 rfl (lv_at hl 0 rfl) ?_
    refine lv_ldc (v := -1000001) hx hb hown (hts _ zq_943) zd_Mod_next_8 ?_
    obtain ⟨v9, X10, hq11, hf⟩ := zu_b2_e hf
    refine zw_Mod_finds (rest := []) B hP hS hq11 zq_944 (Nat.le_of_ble_eq_true rfl) (Nat.le_of_ble_eq_true rfl) hl.1 rfl (Nat.le_of_ble_eq_true rfl) zd_Mod_next_10 (by decide) (fun H locs hP hS => ?_)
    clear hq11
    obtain rfl := Option.some.inj hf
    exact zr_iret hx hb hret hlk hP hS zd_Mod_next_13
theorem zC_Mod_next (l : Launch) {D : va_G} {cA : Nat → ClassId} {ad : Nat → Nat} {A : Nat → Prop} {a1 : Int32} {X : IX} {Y : LX} {res : Int32 × IX} (hf : fn_Mod_next a1 X = some res) : Met l zm_Mod_next (zu_ws zm_Mod_next zb_Mod_next 3 (some .int)) zR_Mod_next (va_Pc [.ref (ad 95), .int a1] (zu_Pre D cA ad A X Y)) (zu_Qi D cA ad A res.1 res.2 Y) 0 0 A := by
  refine Met.ofW (cc := zb_Mod_next) (maxL := 3) (ret := (some .int)) (by decide +kernel) rfl ?_
  intro p e s m args below meth c s₁ B0 hml hv
  obtain ⟨rfl, hP, hST⟩ := hv
  have B : zu_B p s m _ c zb_Mod_next 3 "StonePostModel" D cA ad A := ⟨B0.exec, B0.bytes, hml, findClass_of_methodNamed B0.named, (fun w hw => atoms_spec (ws := zu_ws zm_Mod_next zb_Mod_next 3 (some .int)) B0.pre w (List.mem_cons_of_mem _ hw)), hST⟩
  have hl := lv_entry ([.ref (ad 95), .int a1]) (n := 3) (Nat.le_of_ble_eq_true rfl)
  rw [lg_entry_eq]
  generalize (lg_sl ([.ref (ad 95), .int a1]) ++ List.replicate (3 - (lg_sl ([.ref (ad 95), .int a1])).length) Slot.unset).toArray = ls at hl ⊢
  exact zl_Mod_next B B0.returns B0.notSynchronized s.heap [] ls hP va_S.rf hl  hf
theorem zw_Mod_next {p : Program} {l : Launch} {e : Env} {R : Room} {s : State} {m : MethodId} {args : Array Value} {below : List Frame} {meth : Method} {c : Code} {H : Heap} {locs : List Loc} {cells slots : Nat} {Q : State → Prop} {cc : ByteArray} {pc nL : Nat} {ls : Array Slot} {rest st0 : List Value} {D : va_G} {cA : Nat → ClassId} {ad : Nat → Nat} {A : Nat → Prop} {X : IX} {Y : LX} {own : String} {index : Nat} {a1 : Int32} {v1 : Int32} {X1 : IX} (B : zu_B p s m args c cc nL own D cA ad A) (hP : va_P D zu_cl (zu_pic cA ad X Y) H) (hS : va_S A s.heap H locs) (hq : fn_Mod_next a1 X = some (v1, X1)) (m1 : Cond.methodLink own index zm_Mod_next ∈ zu_TB) (hR1 : 3 + 1 ≤ R.frames) (hR2 : 8 + (3 + 11) + 69 ≤ R.locals) (hsz : ls.size = nL) (hst : st0 = .int a1 :: .ref (ad 95) :: rest) (hw : (rest.map fun v => v.category).sum ≤ 8) (hdg : decode cc pc = .ok (.invokevirtual index, 3)) (h00 : cells ≤ R.cells ∧ slots ≤ R.slots) (kk : ∀ (H1 : Heap) (locs1 : List Loc), va_P D zu_cl (zu_pic cA ad X1 Y) H1 → va_S A s.heap H1 locs1 → W p l e R s m args below meth c H1 locs1 cells slots Q (F0 m (pc + 3) ls (.int v1 :: rest))) : W p l e R s m args below meth c H locs cells slots Q (F0 m pc ls st0) := by
  subst hst
  exact zr_cVi (As := [.int a1]) (rest := rest) (n := 1) (C := "StonePostModel") (T := zt_Mod) (N := 23) B hP hS (zC_Mod_next l  hq) (K := 7) rfl (by decide) (by decide) rfl rfl m1 zq_1027 zq_1028 zq_8 zq_1029 (by decide +kernel) ⟨hR1, hR2⟩ rfl rfl rfl hsz rfl hw hdg h00 kk
abbrev zR_Mod_goes : Room := { frames := 4, cells := 0, slots := 0, locals := 94 }
theorem zd_Mod_goes_0 : decode zb_Mod_goes 0 = .ok (.aload_n 0, 1) := by decide +kernel
theorem zd_Mod_goes_1 : decode zb_Mod_goes 1 = .ok (.iload_n 1, 1) := by decide +kernel
theorem zd_Mod_goes_2 : decode zb_Mod_goes 2 = .ok (.putfield 129, 3) := by decide +kernel
theorem zd_Mod_goes_5 : decode zb_Mod_goes 5 = .ok (.aload_n 0, 1) := by decide +kernel
theorem zd_Mod_goes_6 : decode zb_Mod_goes 6 = .ok (.iload_n 1, 1) := by decide +kernel
theorem zd_Mod_goes_7 : decode zb_Mod_goes 7 = .ok (.putfield 133, 3) := by decide +kernel
theorem zd_Mod_goes_10 : decode zb_Mod_goes 10 = .ok (.aload_n 0, 1) := by decide +kernel
theorem zd_Mod_goes_11 : decode zb_Mod_goes 11 = .ok (.bipush 12, 2) := by decide +kernel
theorem zd_Mod_goes_13 : decode zb_Mod_goes 13 = .ok (.putfield 136, 3) := by decide +kernel
theorem zd_Mod_goes_16 : decode zb_Mod_goes 16 = .ok (.aload_n 0, 1) := by decide +kernel
theorem zd_Mod_goes_17 : decode zb_Mod_goes 17 = .ok (.iconst (-1), 1) := by decide +kernel
theorem zd_Mod_goes_18 : decode zb_Mod_goes 18 = .ok (.putfield 139, 3) := by decide +kernel
theorem zd_Mod_goes_21 : decode zb_Mod_goes 21 = .ok (.aload_n 0, 1) := by decide +kernel
theorem zd_Mod_goes_22 : decode zb_Mod_goes 22 = .ok (.iload_n 1, 1) := by decide +kernel
theorem zd_Mod_goes_23 : decode zb_Mod_goes 23 = .ok (.invokevirtual 122, 3) := by decide +kernel
theorem zd_Mod_goes_26 : decode zb_Mod_goes 26 = .ok (.ifCond .eq 4, 3) := by decide +kernel
theorem zd_Mod_goes_29 : decode zb_Mod_goes 29 = .ok (.return_, 1) := by decide +kernel
theorem zd_Mod_goes_30 : decode zb_Mod_goes 30 = .ok (.aload_n 0, 1) := by decide +kernel
theorem zd_Mod_goes_31 : decode zb_Mod_goes 31 = .ok (.iload_n 1, 1) := by decide +kernel
theorem zd_Mod_goes_32 : decode zb_Mod_goes 32 = .ok (.invokevirtual 125, 3) := by decide +kernel
theorem zd_Mod_goes_35 : decode zb_Mod_goes 35 = .ok (.istore 4, 2) := by decide +kernel
theorem zd_Mod_goes_37 : decode zb_Mod_goes 37 = .ok (.iload 4, 2) := by decide +kernel
theorem zd_Mod_goes_39 : decode zb_Mod_goes 39 = .ok (.ifCond .lt 82, 3) := by decide +kernel
theorem zd_Mod_goes_42 : decode zb_Mod_goes 42 = .ok (.aload_n 0, 1) := by decide +kernel
theorem zd_Mod_goes_43 : decode zb_Mod_goes 43 = .ok (.iload 4, 2) := by decide +kernel
theorem zd_Mod_goes_45 : decode zb_Mod_goes 45 = .ok (.iconst 1, 1) := by decide +kernel
theorem zd_Mod_goes_46 : decode zb_Mod_goes 46 = .ok (.invokevirtual 74, 3) := by decide +kernel
theorem zd_Mod_goes_49 : decode zb_Mod_goes 49 = .ok (.iload_n 1, 1) := by decide +kernel
theorem zd_Mod_goes_50 : decode zb_Mod_goes 50 = .ok (.if_icmp .ne 71, 3) := by decide +kernel
theorem zd_Mod_goes_53 : decode zb_Mod_goes 53 = .ok (.iload_n 3, 1) := by decide +kernel
theorem zd_Mod_goes_54 : decode zb_Mod_goes 54 = .ok (.ifCond .ge 14, 3) := by decide +kernel
theorem zd_Mod_goes_57 : decode zb_Mod_goes 57 = .ok (.aload_n 0, 1) := by decide +kernel
theorem zd_Mod_goes_58 : decode zb_Mod_goes 58 = .ok (.iload 4, 2) := by decide +kernel
theorem zd_Mod_goes_60 : decode zb_Mod_goes 60 = .ok (.bipush 6, 2) := by decide +kernel
theorem zd_Mod_goes_62 : decode zb_Mod_goes 62 = .ok (.invokevirtual 74, 3) := by decide +kernel
theorem zd_Mod_goes_65 : decode zb_Mod_goes 65 = .ok (.goto 4, 3) := by decide +kernel
theorem zd_Mod_goes_68 : decode zb_Mod_goes 68 = .ok (.iload_n 3, 1) := by decide +kernel
theorem zd_Mod_goes_69 : decode zb_Mod_goes 69 = .ok (.istore 5, 2) := by decide +kernel
theorem zd_Mod_goes_71 : decode zb_Mod_goes 71 = .ok (.aload_n 0, 1) := by decide +kernel
theorem zd_Mod_goes_72 : decode zb_Mod_goes 72 = .ok (.iload 4, 2) := by decide +kernel
theorem zd_Mod_goes_74 : decode zb_Mod_goes 74 = .ok (.putfield 139, 3) := by decide +kernel
theorem zd_Mod_goes_77 : decode zb_Mod_goes 77 = .ok (.aload_n 0, 1) := by decide +kernel
theorem zd_Mod_goes_78 : decode zb_Mod_goes 78 = .ok (.aload_n 0, 1) := by decide +kernel
theorem zd_Mod_goes_79 : decode zb_Mod_goes 79 = .ok (.iload 4, 2) := by decide +kernel
theorem zd_Mod_goes_81 : decode zb_Mod_goes 81 = .ok (.iload 5, 2) := by decide +kernel
theorem zd_Mod_goes_83 : decode zb_Mod_goes 83 = .ok (.iload_n 2, 1) := by decide +kernel
theorem zd_Mod_goes_84 : decode zb_Mod_goes 84 = .ok (.iconst 0, 1) := by decide +kernel
theorem zd_Mod_goes_85 : decode zb_Mod_goes 85 = .ok (.invokevirtual 115, 3) := by decide +kernel
theorem zd_Mod_goes_88 : decode zb_Mod_goes 88 = .ok (.putfield 129, 3) := by decide +kernel
theorem zd_Mod_goes_91 : decode zb_Mod_goes 91 = .ok (.aload_n 0, 1) := by decide +kernel
theorem zd_Mod_goes_92 : decode zb_Mod_goes 92 = .ok (.aload_n 0, 1) := by decide +kernel
theorem zd_Mod_goes_93 : decode zb_Mod_goes 93 = .ok (.iload 4, 2) := by decide +kernel
theorem zd_Mod_goes_95 : decode zb_Mod_goes 95 = .ok (.iload 5, 2) := by decide +kernel
theorem zd_Mod_goes_97 : decode zb_Mod_goes 97 = .ok (.iload_n 2, 1) := by decide +kernel
theorem zd_Mod_goes_98 : decode zb_Mod_goes 98 = .ok (.iconst 1, 1) := by decide +kernel
theorem zd_Mod_goes_99 : decode zb_Mod_goes 99 = .ok (.invokevirtual 115, 3) := by decide +kernel
theorem zd_Mod_goes_102 : decode zb_Mod_goes 102 = .ok (.putfield 133, 3) := by decide +kernel
theorem zd_Mod_goes_105 : decode zb_Mod_goes 105 = .ok (.aload_n 0, 1) := by decide +kernel
theorem zd_Mod_goes_106 : decode zb_Mod_goes 106 = .ok (.aload_n 0, 1) := by decide +kernel
theorem zd_Mod_goes_107 : decode zb_Mod_goes 107 = .ok (.iload 4, 2) := by decide +kernel
theorem zd_Mod_goes_109 : decode zb_Mod_goes 109 = .ok (.iload 5, 2) := by decide +kernel
theorem zd_Mod_goes_111 : decode zb_Mod_goes 111 = .ok (.iload_n 2, 1) := by decide +kernel
theorem zd_Mod_goes_112 : decode zb_Mod_goes 112 = .ok (.invokevirtual 112, 3) := by decide +kernel
theorem zd_Mod_goes_115 : decode zb_Mod_goes 115 = .ok (.putfield 136, 3) := by decide +kernel
theorem zd_Mod_goes_118 : decode zb_Mod_goes 118 = .ok (.goto 82, 3) := by decide +kernel
theorem zd_Mod_goes_121 : decode zb_Mod_goes 121 = .ok (.iload 4, 2) := by decide +kernel
theorem zd_Mod_goes_123 : decode zb_Mod_goes 123 = .ok (.ifCond .lt 41, 3) := by decide +kernel
theorem zd_Mod_goes_126 : decode zb_Mod_goes 126 = .ok (.aload_n 0, 1) := by decide +kernel
theorem zd_Mod_goes_127 : decode zb_Mod_goes 127 = .ok (.aload_n 0, 1) := by decide +kernel
theorem zd_Mod_goes_128 : decode zb_Mod_goes 128 = .ok (.iload 4, 2) := by decide +kernel
theorem zd_Mod_goes_130 : decode zb_Mod_goes 130 = .ok (.iconst 1, 1) := by decide +kernel
theorem zd_Mod_goes_131 : decode zb_Mod_goes 131 = .ok (.invokevirtual 74, 3) := by decide +kernel
theorem zd_Mod_goes_134 : decode zb_Mod_goes 134 = .ok (.putfield 129, 3) := by decide +kernel
theorem zd_Mod_goes_137 : decode zb_Mod_goes 137 = .ok (.aload_n 0, 1) := by decide +kernel
theorem zd_Mod_goes_138 : decode zb_Mod_goes 138 = .ok (.aload_n 0, 1) := by decide +kernel
theorem zd_Mod_goes_139 : decode zb_Mod_goes 139 = .ok (.getfield 7, 3) := by decide +kernel
theorem zd_Mod_goes_142 : decode zb_Mod_goes 142 = .ok (.bipush 6, 2) := by decide +kernel
theorem zd_Mod_goes_144 : decode zb_Mod_goes 144 = .ok (.iload_n 1, 1) := by decide +kernel
theorem zd_Mod_goes_145 : decode zb_Mod_goes 145 = .ok (.iadd, 1) := by decide +kernel
theorem zd_Mod_goes_146 : decode zb_Mod_goes 146 = .ok (.iaload, 1) := by decide +kernel
theorem zd_Mod_goes_147 : decode zb_Mod_goes 147 = .ok (.iconst 2, 1) := by decide +kernel
theorem zd_Mod_goes_148 : decode zb_Mod_goes 148 = .ok (.if_icmp .ne 8, 3) := by decide +kernel
theorem zd_Mod_goes_151 : decode zb_Mod_goes 151 = .ok (.bipush 6, 2) := by decide +kernel
theorem zd_Mod_goes_153 : decode zb_Mod_goes 153 = .ok (.goto 5, 3) := by decide +kernel
theorem zd_Mod_goes_156 : decode zb_Mod_goes 156 = .ok (.bipush 12, 2) := by decide +kernel
theorem zd_Mod_goes_158 : decode zb_Mod_goes 158 = .ok (.putfield 136, 3) := by decide +kernel
theorem zd_Mod_goes_161 : decode zb_Mod_goes 161 = .ok (.goto 39, 3) := by decide +kernel
theorem zd_Mod_goes_164 : decode zb_Mod_goes 164 = .ok (.aload_n 0, 1) := by decide +kernel
theorem zd_Mod_goes_165 : decode zb_Mod_goes 165 = .ok (.getfield 7, 3) := by decide +kernel
theorem zd_Mod_goes_168 : decode zb_Mod_goes 168 = .ok (.bipush 6, 2) := by decide +kernel
theorem zd_Mod_goes_170 : decode zb_Mod_goes 170 = .ok (.iload_n 1, 1) := by decide +kernel
theorem zd_Mod_goes_171 : decode zb_Mod_goes 171 = .ok (.iadd, 1) := by decide +kernel
theorem zd_Mod_goes_172 : decode zb_Mod_goes 172 = .ok (.iaload, 1) := by decide +kernel
theorem zd_Mod_goes_173 : decode zb_Mod_goes 173 = .ok (.iconst 3, 1) := by decide +kernel
theorem zd_Mod_goes_174 : decode zb_Mod_goes 174 = .ok (.if_icmp .ne 26, 3) := by decide +kernel
theorem zd_Mod_goes_177 : decode zb_Mod_goes 177 = .ok (.aload_n 0, 1) := by decide +kernel
theorem zd_Mod_goes_178 : decode zb_Mod_goes 178 = .ok (.iload_n 1, 1) := by decide +kernel
theorem zd_Mod_goes_179 : decode zb_Mod_goes 179 = .ok (.aload_n 0, 1) := by decide +kernel
theorem zd_Mod_goes_180 : decode zb_Mod_goes 180 = .ok (.getfield 7, 3) := by decide +kernel
theorem zd_Mod_goes_183 : decode zb_Mod_goes 183 = .ok (.iconst 3, 1) := by decide +kernel
theorem zd_Mod_goes_184 : decode zb_Mod_goes 184 = .ok (.iaload, 1) := by decide +kernel
theorem zd_Mod_goes_185 : decode zb_Mod_goes 185 = .ok (.if_icmp .ge 9, 3) := by decide +kernel
theorem zd_Mod_goes_188 : decode zb_Mod_goes 188 = .ok (.iload_n 1, 1) := by decide +kernel
theorem zd_Mod_goes_189 : decode zb_Mod_goes 189 = .ok (.iconst 1, 1) := by decide +kernel
theorem zd_Mod_goes_190 : decode zb_Mod_goes 190 = .ok (.iadd, 1) := by decide +kernel
theorem zd_Mod_goes_191 : decode zb_Mod_goes 191 = .ok (.goto 6, 3) := by decide +kernel
theorem zd_Mod_goes_194 : decode zb_Mod_goes 194 = .ok (.iload_n 1, 1) := by decide +kernel
theorem zd_Mod_goes_195 : decode zb_Mod_goes 195 = .ok (.iconst 1, 1) := by decide +kernel
theorem zd_Mod_goes_196 : decode zb_Mod_goes 196 = .ok (.isub, 1) := by decide +kernel
theorem zd_Mod_goes_197 : decode zb_Mod_goes 197 = .ok (.putfield 129, 3) := by decide +kernel
theorem zd_Mod_goes_200 : decode zb_Mod_goes 200 = .ok (.return_, 1) := by decide +kernel
set_option maxHeartbeats 4000000 in
theorem zl_Mod_goes_L200 {p : Program} {l : Launch} {e : Env} {s : State} {m : MethodId} {args : Array Value} {below : List Frame} {meth : Method} {c : Code} {D : va_G} {cA : Nat → ClassId} {ad : Nat → Nat} {A : Nat → Prop} (B : zu_B p s m args c zb_Mod_goes 6 "StonePostModel" D cA ad A) (hret : meth.sig.returnType = none) (hlk : meth.locks = false) {Y : LX} {res : IX} (X : IX) (H : Heap) (locs : List Loc) (ls : Array Slot) (hP : va_P D zu_cl (zu_pic cA ad X Y) H) (hS : va_S A s.heap H locs) (hl : lv_has ls 6 []) (hf : fn_Mod_goes_L200 X = some res) : W p l e zR_Mod_goes s m args below meth c H locs 0 0 (MQ below (zu_Qv D cA ad A res Y) args s 0 0 A) (F0 m 200 ls []) := by
  obtain ⟨hx, hb, hml, hown, hts, hST⟩ := id B
  unfold fn_Mod_goes_L200 at hf
  obtain rfl := Option.some.inj hf
  exact zr_vret hx hb hret hlk hP hS zd_Mod_goes_200
set_option maxHeartbeats 4000000 in
theorem zl_Mod_goes_L197 {p : Program} {l : Launch} {e : Env} {s : State} {m : MethodId} {args : Array Value} {below : List Frame} {meth : Method} {c : Code} {D : va_G} {cA : Nat → ClassId} {ad : Nat → Nat} {A : Nat → Prop} (B : zu_B p s m args c zb_Mod_goes 6 "StonePostModel" D cA ad A) (hret : meth.sig.returnType = none) (hlk : meth.locks = false) {Y : LX} {res : IX} (y0 : Int32) (X : IX) (H : Heap) (locs : List Loc) (ls : Array Slot) (hP : va_P D zu_cl (zu_pic cA ad X Y) H) (hS : va_S A s.heap H locs) (hl : lv_has ls 6 []) (hf : fn_Mod_goes_L197 y0 X = some res) : W p l e zR_Mod_goes s m args below meth c H locs 0 0 (MQ below (zu_Qv D cA ad A res Y) args s 0 0 A) (F0 m 197 ls [.int y0, .ref (ad 95)]) := by
  obtain ⟨hx, hb, hml, hown, hts, hST⟩ := id B
  unfold fn_Mod_goes_L197 at hf
  refine zp_Mod_first B hP hS hf rfl zq_866 zd_Mod_goes_197 (fun X36 H locs hf hP hS => ?_)
  exact zl_Mod_goes_L200 B hret hlk X36 _ _ _ hP hS (lv_sub hl [] rfl) hf
set_option maxHeartbeats 4000000 in
theorem zl_Mod_goes_L158 {p : Program} {l : Launch} {e : Env} {s : State} {m : MethodId} {args : Array Value} {below : List Frame} {meth : Method} {c : Code} {D : va_G} {cA : Nat → ClassId} {ad : Nat → Nat} {A : Nat → Prop} (B : zu_B p s m args c zb_Mod_goes 6 "StonePostModel" D cA ad A) (hret : meth.sig.returnType = none) (hlk : meth.locks = false) {Y : LX} {res : IX} (y0 : Int32) (X : IX) (H : Heap) (locs : List Loc) (ls : Array Slot) (hP : va_P D zu_cl (zu_pic cA ad X Y) H) (hS : va_S A s.heap H locs) (hl : lv_has ls 6 []) (hf : fn_Mod_goes_L158 y0 X = some res) : W p l e zR_Mod_goes s m args below meth c H locs 0 0 (MQ below (zu_Qv D cA ad A res Y) args s 0 0 A) (F0 m 158 ls [.int y0, .ref (ad 95)]) := by
  obtain ⟨hx, hb, hml, hown, hts, hST⟩ := id B
  unfold fn_Mod_goes_L158 at hf
  refine zp_Mod_twelfths B hP hS hf rfl zq_867 zd_Mod_goes_158 (fun X37 H locs hf hP hS => ?_)
  refine lv_goto (tgt := 200) hx hb zd_Mod_goes_161 (by decide) ?_
  exact zl_Mod_goes_L200 B hret hlk X37 _ _ _ hP hS (lv_sub hl [] rfl) hf
set_option maxHeartbeats 4000000 in
theorem zl_Mod_goes_L121 {p : Program} {l : Launch} {e : Env} {s : State} {m : MethodId} {args : Array Value} {below : List Frame} {meth : Method} {c : Code} {D : va_G} {cA : Nat → ClassId} {ad : Nat → Nat} {A : Nat → Prop} (B : zu_B p s m args c zb_Mod_goes 6 "StonePostModel" D cA ad A) (hret : meth.sig.returnType = none) (hlk : meth.locks = false) {Y : LX} {res : IX} (x1 : Int32) (x4 : Int32) (X : IX) (H : Heap) (locs : List Loc) (ls : Array Slot) (hP : va_P D zu_cl (zu_pic cA ad X Y) H) (hS : va_S A s.heap H locs) (hl : lv_has ls 6 [(0, .ref (ad 95)), (1, .int x1), (4, .int x4)]) (hf : fn_Mod_goes_L121 x1 x4 X = some res) : W p l e zR_Mod_goes s m args below meth c H locs 0 0 (MQ below (zu_Qv D cA ad A res Y) args s 0 0 A) (F0 m 121 ls []) := by
  obtain ⟨hx, hb, hml, hown, hts, hST⟩ := id B
  unfold fn_Mod_goes_L121 at hf
  refine lv_iload hx hb zd_Mod_goes_121 (lv_at hl 2 rfl) ?_
  refine lv_if_lt (tgt := 164) hx hb zd_Mod_goes_123 (by decide) (fun c17 => ?_) (fun c17 => ?_)
  · have hf := zu_t c17 hf
    refine lv_aload_n hx hb zd_Mod_goes_164 rfl (lv_at hl 0 rfl) ?_
    refine zg_Mod_s B hP rfl zq_861 zd_Mod_goes_165 ?_
    refine lv_bipush (v := 6) hx hb zd_Mod_goes_168 (by decide) ?_
    refine lv_iload_n hx hb zd_Mod_goes_170 rfl (lv_at hl 1 rfl) ?_
    refine lv_iadd hx hb zd_Mod_goes_171 ?_
    obtain ⟨hg18, hf⟩ := zu_gd_e hf
    refine zr_iald rfl B hP rfl (by decide) rfl hg18 zd_Mod_goes_172 ?_
    refine lv_iconst (v := 3) hx hb zd_Mod_goes_173 (by decide) ?_
    refine lv_icmp_ne (tgt := 200) hx hb zd_Mod_goes_174 (by decide) (fun c19 => ?_) (fun c19 => ?_)
    · have hf := zu_f c19 hf
      exact zl_Mod_goes_L200 B hret hlk X _ _ _ hP hS (lv_sub hl [] rfl) hf
    · have hf := zu_t c19 hf
      refine lv_aload_n hx hb zd_Mod_goes_177 rfl (lv_at hl 0 rfl) ?_
      refine lv_iload_n hx hb zd_Mod_goes_178 rfl (lv_at hl 1 rfl) ?_
      refine lv_aload_n hx hb zd_Mod_goes_179 rfl (lv_at hl 0 rfl) ?_
      refine zg_Mod_s B hP rfl zq_861 zd_Mod_goes_180 ?_
      refine lv_iconst (v := 3) hx hb zd_Mod_goes_183 (by decide) ?_
      refine zr_iald (j := 3) (by decide) B hP rfl (by decide) rfl (by decide) zd_Mod_goes_184 ?_
      refine lv_icmp_ge (tgt := 194) hx hb zd_Mod_goes_185 (by decide) (fun c20 => ?_) (fun c20 => ?_)
      · have hf := zu_t c20 hf
        refine lv_iload_n hx hb zd_Mod_goes_194 rfl (lv_at hl 1 rfl) ?_
        refine lv_iconst (v := 1) hx hb zd_Mod_goes_195 (by decide) ?_
        refine lv_isub hx hb zd_Mod_goes_196 ?_
        exact zl_Mod_goes_L197 B hret hlk (x1 - (1 : Int32)) X _ _ _ hP hS (lv_sub hl [] rfl) hf
      · have hf := zu_f c20 hf
        refine lv_iload_n hx hb zd_Mod_goes_188 rfl (lv_at hl 1 rfl) ?_
        refine lv_iconst (v := 1) hx hb zd_Mod_goes_189 (by decide) ?_
        refine lv_iadd hx hb zd_Mod_goes_190 ?_
        refine lv_goto (tgt := 197) hx hb zd_Mod_goes_191 (by decide) ?_
        exact zl_Mod_goes_L197 B hret hlk (x1 + (1 : Int32)) X _ _ _ hP hS (lv_sub hl [] rfl) hf
  · have hf := zu_f c17 hf
    refine lv_aload_n hx hb zd_Mod_goes_126 rfl (lv_at hl 0 rfl) ?_
    refine lv_aload_n hx hb zd_Mod_goes_127 rfl (lv_at hl 0 rfl) ?_
    refine lv_iload hx hb zd_Mod_goes_128 (lv_at hl 2 rfl) ?_
    refine lv_iconst (v := 1) hx hb zd_Mod_goes_130 (by decide) ?_
    obtain ⟨v21, hq22, hf⟩ := zu_b1_e hf
    refine zw_Mod_its (rest := [.ref (ad 95)]) B hP hS hq22 zq_962 (Nat.le_of_ble_eq_true rfl) (Nat.le_of_ble_eq_true rfl) hl.1 rfl (Nat.le_of_ble_eq_true rfl) zd_Mod_goes_131 (by decide) (fun H locs hP hS => ?_)
    clear hq22
    refine zp_Mod_first B hP hS hf rfl zq_866 zd_Mod_goes_134 (fun X23 H locs hf hP hS => ?_)
    refine lv_aload_n hx hb zd_Mod_goes_137 rfl (lv_at hl 0 rfl) ?_
    refine lv_aload_n hx hb zd_Mod_goes_138 rfl (lv_at hl 0 rfl) ?_
    refine zg_Mod_s B hP rfl zq_861 zd_Mod_goes_139 ?_
    refine lv_bipush (v := 6) hx hb zd_Mod_goes_142 (by decide) ?_
    refine lv_iload_n hx hb zd_Mod_goes_144 rfl (lv_at hl 1 rfl) ?_
    refine lv_iadd hx hb zd_Mod_goes_145 ?_
    obtain ⟨hg24, hf⟩ := zu_gd_e hf
    refine zr_iald rfl B hP rfl (by decide) rfl hg24 zd_Mod_goes_146 ?_
    refine lv_iconst (v := 2) hx hb zd_Mod_goes_147 (by decide) ?_
    refine lv_icmp_ne (tgt := 156) hx hb zd_Mod_goes_148 (by decide) (fun c25 => ?_) (fun c25 => ?_)
    · have hf := zu_f c25 hf
      refine lv_bipush (v := 12) hx hb zd_Mod_goes_156 (by decide) ?_
      exact zl_Mod_goes_L158 B hret hlk (12 : Int32) X23 _ _ _ hP hS (lv_sub hl [] rfl) hf
    · have hf := zu_t c25 hf
      refine lv_bipush (v := 6) hx hb zd_Mod_goes_151 (by decide) ?_
      refine lv_goto (tgt := 158) hx hb zd_Mod_goes_153 (by decide) ?_
      exact zl_Mod_goes_L158 B hret hlk (6 : Int32) X23 _ _ _ hP hS (lv_sub hl [] rfl) hf
set_option maxHeartbeats 4000000 in
theorem zl_Mod_goes_L69 {p : Program} {l : Launch} {e : Env} {s : State} {m : MethodId} {args : Array Value} {below : List Frame} {meth : Method} {c : Code} {D : va_G} {cA : Nat → ClassId} {ad : Nat → Nat} {A : Nat → Prop} (B : zu_B p s m args c zb_Mod_goes 6 "StonePostModel" D cA ad A) (hret : meth.sig.returnType = none) (hlk : meth.locks = false) {Y : LX} {res : IX} (x2 : Int32) (x4 : Int32) (y0 : Int32) (X : IX) (H : Heap) (locs : List Loc) (ls : Array Slot) (hP : va_P D zu_cl (zu_pic cA ad X Y) H) (hS : va_S A s.heap H locs) (hl : lv_has ls 6 [(0, .ref (ad 95)), (2, .int x2), (4, .int x4)]) (hf : fn_Mod_goes_L69 x2 x4 y0 X = some res) : W p l e zR_Mod_goes s m args below meth c H locs 0 0 (MQ below (zu_Qv D cA ad A res Y) args s 0 0 A) (F0 m 69 ls [.int y0]) := by
  obtain ⟨hx, hb, hml, hown, hts, hST⟩ := id B
  unfold fn_Mod_goes_L69 at hf
  refine lv_istore (lv' := [(5, .int y0), (0, .ref (ad 95)), (2, .int x2), (4, .int x4)]) hx hb zd_Mod_goes_69 hl (by decide) rfl (fun ls hl => ?_)
  refine lv_aload_n hx hb zd_Mod_goes_71 rfl (lv_at hl 1 rfl) ?_
  refine lv_iload hx hb zd_Mod_goes_72 (lv_at hl 3 rfl) ?_
  refine zp_Mod_throwing B hP hS hf rfl zq_869 zd_Mod_goes_74 (fun X26 H locs hf hP hS => ?_)
  refine lv_aload_n hx hb zd_Mod_goes_77 rfl (lv_at hl 1 rfl) ?_
  refine lv_aload_n hx hb zd_Mod_goes_78 rfl (lv_at hl 1 rfl) ?_
  refine lv_iload hx hb zd_Mod_goes_79 (lv_at hl 3 rfl) ?_
  refine lv_iload hx hb zd_Mod_goes_81 (lv_at hl 0 rfl) ?_
  refine lv_iload_n hx hb zd_Mod_goes_83 rfl (lv_at hl 2 rfl) ?_
  refine lv_iconst (v := 0) hx hb zd_Mod_goes_84 (by decide) ?_
  obtain ⟨v27, hq28, hf⟩ := zu_b1_e hf
  refine zw_Mod_landing (rest := [.ref (ad 95)]) B hP hS hq28 zq_1022 (Nat.le_of_ble_eq_true rfl) (Nat.le_of_ble_eq_true rfl) hl.1 rfl (Nat.le_of_ble_eq_true rfl) zd_Mod_goes_85 (by decide) (fun H locs hP hS => ?_)
  clear hq28
  refine zp_Mod_first B hP hS hf rfl zq_866 zd_Mod_goes_88 (fun X29 H locs hf hP hS => ?_)
  refine lv_aload_n hx hb zd_Mod_goes_91 rfl (lv_at hl 1 rfl) ?_
  refine lv_aload_n hx hb zd_Mod_goes_92 rfl (lv_at hl 1 rfl) ?_
  refine lv_iload hx hb zd_Mod_goes_93 (lv_at hl 3 rfl) ?_
  refine lv_iload hx hb zd_Mod_goes_95 (lv_at hl 0 rfl) ?_
  refine lv_iload_n hx hb zd_Mod_goes_97 rfl (lv_at hl 2 rfl) ?_
  refine lv_iconst (v := 1) hx hb zd_Mod_goes_98 (by decide) ?_
  obtain ⟨v30, hq31, hf⟩ := zu_b1_e hf
  refine zw_Mod_landing (rest := [.ref (ad 95)]) B hP hS hq31 zq_1022 (Nat.le_of_ble_eq_true rfl) (Nat.le_of_ble_eq_true rfl) hl.1 rfl (Nat.le_of_ble_eq_true rfl) zd_Mod_goes_99 (by decide) (fun H locs hP hS => ?_)
  clear hq31
  refine zp_Mod_second B hP hS hf rfl zq_868 zd_Mod_goes_102 (fun X32 H locs hf hP hS => ?_)
  refine lv_aload_n hx hb zd_Mod_goes_105 rfl (lv_at hl 1 rfl) ?_
  refine lv_aload_n hx hb zd_Mod_goes_106 rfl (lv_at hl 1 rfl) ?_
  refine lv_iload hx hb zd_Mod_goes_107 (lv_at hl 3 rfl) ?_
  refine lv_iload hx hb zd_Mod_goes_109 (lv_at hl 0 rfl) ?_
  refine lv_iload_n hx hb zd_Mod_goes_111 rfl (lv_at hl 2 rfl) ?_
  obtain ⟨v33, hq34, hf⟩ := zu_b1_e hf
  refine zw_Mod_sure (rest := [.ref (ad 95)]) B hP hS hq34 zq_1011 (Nat.le_of_ble_eq_true rfl) (Nat.le_of_ble_eq_true rfl) hl.1 rfl (Nat.le_of_ble_eq_true rfl) zd_Mod_goes_112 (by decide) (fun H locs hP hS => ?_)
  clear hq34
  refine zp_Mod_twelfths B hP hS hf rfl zq_867 zd_Mod_goes_115 (fun X35 H locs hf hP hS => ?_)
  refine lv_goto (tgt := 200) hx hb zd_Mod_goes_118 (by decide) ?_
  exact zl_Mod_goes_L200 B hret hlk X35 _ _ _ hP hS (lv_sub hl [] rfl) hf
set_option maxHeartbeats 4000000 in
theorem zl_Mod_goes {p : Program} {l : Launch} {e : Env} {s : State} {m : MethodId} {args : Array Value} {below : List Frame} {meth : Method} {c : Code} {D : va_G} {cA : Nat → ClassId} {ad : Nat → Nat} {A : Nat → Prop} (B : zu_B p s m args c zb_Mod_goes 6 "StonePostModel" D cA ad A) (hret : meth.sig.returnType = none) (hlk : meth.locks = false) {Y : LX} {res : IX} {a1 : Int32} {a2 : Int32} {a3 : Int32} {X : IX} (H : Heap) (locs : List Loc) (ls : Array Slot) (hP : va_P D zu_cl (zu_pic cA ad X Y) H) (hS : va_S A s.heap H locs) (hl : lv_has ls 6 [(0, .ref (ad 95)), (1, .int a1), (2, .int a2), (3, .int a3)]) (hf : fn_Mod_goes a1 a2 a3 X = some res) : W p l e zR_Mod_goes s m args below meth c H locs 0 0 (MQ below (zu_Qv D cA ad A res Y) args s 0 0 A) (F0 m 0 ls []) := by
  obtain ⟨hx, hb, hml, hown, hts, hST⟩ := id B
  unfold fn_Mod_goes at hf
  refine lv_aload_n hx hb zd_Mod_goes_0 rfl (lv_at hl 0 rfl) ?_
  refine lv_iload_n hx hb zd_Mod_goes_1 rfl (lv_at hl 1 rfl) ?_
  refine zp_Mod_first B hP hS hf rfl zq_866 zd_Mod_goes_2 (fun X1 H locs hf hP hS => ?_)
  refine lv_aload_n hx hb zd_Mod_goes_5 rfl (lv_at hl 0 rfl) ?_
  refine lv_iload_n hx hb zd_Mod_goes_6 rfl (lv_at hl 1 rfl) ?_
  refine zp_Mod_second B hP hS hf rfl zq_868 zd_Mod_goes_7 (fun X2 H locs hf hP hS => ?_)
  refine lv_aload_n hx hb zd_Mod_goes_10 rfl (lv_at hl 0 rfl) ?_
  refine lv_bipush (v := 12) hx hb zd_Mod_goes_11 (by decide) ?_
  refine zp_Mod_twelfths B hP hS hf rfl zq_867 zd_Mod_goes_13 (fun X3 H locs hf hP hS => ?_)
  refine lv_aload_n hx hb zd_Mod_goes_16 rfl (lv_at hl 0 rfl) ?_
  refine lv_iconst (v := -1) hx hb zd_Mod_goes_17 (by decide) ?_
  refine zp_Mod_throwing B hP hS hf rfl zq_869 zd_Mod_goes_18 (fun X4 H locs hf hP hS => ?_)
  refine lv_aload_n hx hb zd_Mod_goes_21 rfl (lv_at hl 0 rfl) ?_
  refine lv_iload_n hx hb zd_Mod_goes_22 rfl (lv_at hl 1 rfl) ?_
  obtain ⟨v5, hq6, hf⟩ := zu_b1_e hf
  refine zw_Mod_isStaying (rest := []) B hP hS hq6 zq_1030 (Nat.le_of_ble_eq_true rfl) (Nat.le_of_ble_eq_true rfl) hl.1 rfl (Nat.le_of_ble_eq_true rfl) zd_Mod_goes_23 (by decide) (fun H locs hP hS => ?_)
  clear hq6
  refine lv_if_eq (tgt := 30) hx hb zd_Mod_goes_26 (by decide) (fun c7 => ?_) (fun c7 => ?_)
  · have hf := zu_t c7 hf
    refine lv_aload_n hx hb zd_Mod_goes_30 rfl (lv_at hl 0 rfl) ?_
    refine lv_iload_n hx hb zd_Mod_goes_31 rfl (lv_at hl 1 rfl) ?_
    obtain ⟨v8, hq9, hf⟩ := zu_b1_e hf
    refine zw_Mod_nearest (rest := []) B hP hS hq9 zq_1034 (Nat.le_of_ble_eq_true rfl) (Nat.le_of_ble_eq_true rfl) hl.1 rfl (Nat.le_of_ble_eq_true rfl) zd_Mod_goes_32 (by decide) (fun H locs hP hS => ?_)
    clear hq9
    refine lv_istore (lv' := [(4, .int v8), (0, .ref (ad 95)), (1, .int a1), (2, .int a2), (3, .int a3)]) hx hb zd_Mod_goes_35 hl (by decide) rfl (fun ls hl => ?_)
    refine lv_iload hx hb zd_Mod_goes_37 (lv_at hl 0 rfl) ?_
    refine lv_if_lt (tgt := 121) hx hb zd_Mod_goes_39 (by decide) (fun c10 => ?_) (fun c10 => ?_)
    · have hf := zu_t c10 hf
      exact zl_Mod_goes_L121 B hret hlk a1 v8 X4 _ _ _ hP hS (lv_sub hl [1, 2, 0] rfl) hf
    · have hf := zu_f c10 hf
      refine lv_aload_n hx hb zd_Mod_goes_42 rfl (lv_at hl 1 rfl) ?_
      refine lv_iload hx hb zd_Mod_goes_43 (lv_at hl 0 rfl) ?_
      refine lv_iconst (v := 1) hx hb zd_Mod_goes_45 (by decide) ?_
      obtain ⟨v11, hq12, hf⟩ := zu_b1_e hf
      refine zw_Mod_its (rest := []) B hP hS hq12 zq_962 (Nat.le_of_ble_eq_true rfl) (Nat.le_of_ble_eq_true rfl) hl.1 rfl (Nat.le_of_ble_eq_true rfl) zd_Mod_goes_46 (by decide) (fun H locs hP hS => ?_)
      clear hq12
      refine lv_iload_n hx hb zd_Mod_goes_49 rfl (lv_at hl 2 rfl) ?_
      refine lv_icmp_ne (tgt := 121) hx hb zd_Mod_goes_50 (by decide) (fun c13 => ?_) (fun c13 => ?_)
      · have hf := zu_f c13 hf
        exact zl_Mod_goes_L121 B hret hlk a1 v8 X4 _ _ _ hP hS (lv_sub hl [1, 2, 0] rfl) hf
      · have hf := zu_t c13 hf
        refine lv_iload_n hx hb zd_Mod_goes_53 rfl (lv_at hl 4 rfl) ?_
        refine lv_if_ge (tgt := 68) hx hb zd_Mod_goes_54 (by decide) (fun c14 => ?_) (fun c14 => ?_)
        · have hf := zu_t c14 hf
          refine lv_iload_n hx hb zd_Mod_goes_68 rfl (lv_at hl 4 rfl) ?_
          exact zl_Mod_goes_L69 B hret hlk a2 v8 a3 X4 _ _ _ hP hS (lv_sub hl [1, 3, 0] rfl) hf
        · have hf := zu_f c14 hf
          refine lv_aload_n hx hb zd_Mod_goes_57 rfl (lv_at hl 1 rfl) ?_
          refine lv_iload hx hb zd_Mod_goes_58 (lv_at hl 0 rfl) ?_
          refine lv_bipush (v := 6) hx hb zd_Mod_goes_60 (by decide) ?_
          obtain ⟨v15, hq16, hf⟩ := zu_b1_e hf
          refine zw_Mod_its (rest := []) B hP hS hq16 zq_962 (Nat.le_of_ble_eq_true rfl) (Nat.le_of_ble_eq_true rfl) hl.1 rfl (Nat.le_of_ble_eq_true rfl) zd_Mod_goes_62 (by decide) (fun H locs hP hS => ?_)
          clear hq16
          refine lv_goto (tgt := 69) hx hb zd_Mod_goes_65 (by decide) ?_
          exact zl_Mod_goes_L69 B hret hlk a2 v8 v15 X4 _ _ _ hP hS (lv_sub hl [1, 3, 0] rfl) hf
  · have hf := zu_f c7 hf
    obtain rfl := Option.some.inj hf
    exact zr_vret hx hb hret hlk hP hS zd_Mod_goes_29
theorem zC_Mod_goes (l : Launch) {D : va_G} {cA : Nat → ClassId} {ad : Nat → Nat} {A : Nat → Prop} {a1 : Int32} {a2 : Int32} {a3 : Int32} {X : IX} {Y : LX} {res : IX} (hf : fn_Mod_goes a1 a2 a3 X = some res) : Met l zm_Mod_goes (zu_ws zm_Mod_goes zb_Mod_goes 6 none) zR_Mod_goes (va_Pc [.ref (ad 95), .int a1, .int a2, .int a3] (zu_Pre D cA ad A X Y)) (zu_Qv D cA ad A res Y) 0 0 A := by
  refine Met.ofW (cc := zb_Mod_goes) (maxL := 6) (ret := none) (by decide +kernel) rfl ?_
  intro p e s m args below meth c s₁ B0 hml hv
  obtain ⟨rfl, hP, hST⟩ := hv
  have B : zu_B p s m _ c zb_Mod_goes 6 "StonePostModel" D cA ad A := ⟨B0.exec, B0.bytes, hml, findClass_of_methodNamed B0.named, (fun w hw => atoms_spec (ws := zu_ws zm_Mod_goes zb_Mod_goes 6 none) B0.pre w (List.mem_cons_of_mem _ hw)), hST⟩
  have hl := lv_entry ([.ref (ad 95), .int a1, .int a2, .int a3]) (n := 6) (Nat.le_of_ble_eq_true rfl)
  rw [lg_entry_eq]
  generalize (lg_sl ([.ref (ad 95), .int a1, .int a2, .int a3]) ++ List.replicate (6 - (lg_sl ([.ref (ad 95), .int a1, .int a2, .int a3])).length) Slot.unset).toArray = ls at hl ⊢
  exact zl_Mod_goes B B0.returns B0.notSynchronized s.heap [] ls hP va_S.rf hl  hf
theorem zw_Mod_goes {p : Program} {l : Launch} {e : Env} {R : Room} {s : State} {m : MethodId} {args : Array Value} {below : List Frame} {meth : Method} {c : Code} {H : Heap} {locs : List Loc} {cells slots : Nat} {Q : State → Prop} {cc : ByteArray} {pc nL : Nat} {ls : Array Slot} {rest st0 : List Value} {D : va_G} {cA : Nat → ClassId} {ad : Nat → Nat} {A : Nat → Prop} {X : IX} {Y : LX} {own : String} {index : Nat} {a1 : Int32} {a2 : Int32} {a3 : Int32} {X1 : IX} (B : zu_B p s m args c cc nL own D cA ad A) (hP : va_P D zu_cl (zu_pic cA ad X Y) H) (hS : va_S A s.heap H locs) (hq : fn_Mod_goes a1 a2 a3 X = some X1) (m1 : Cond.methodLink own index zm_Mod_goes ∈ zu_TB) (hR1 : 4 + 1 ≤ R.frames) (hR2 : 8 + (6 + 11) + 94 ≤ R.locals) (hsz : ls.size = nL) (hst : st0 = .int a3 :: .int a2 :: .int a1 :: .ref (ad 95) :: rest) (hw : (rest.map fun v => v.category).sum ≤ 8) (hdg : decode cc pc = .ok (.invokevirtual index, 3)) (h00 : cells ≤ R.cells ∧ slots ≤ R.slots) (kk : ∀ (H1 : Heap) (locs1 : List Loc), va_P D zu_cl (zu_pic cA ad X1 Y) H1 → va_S A s.heap H1 locs1 → W p l e R s m args below meth c H1 locs1 cells slots Q (F0 m (pc + 3) ls (rest))) : W p l e R s m args below meth c H locs cells slots Q (F0 m pc ls st0) := by
  subst hst
  exact zr_cVv (As := [.int a1, .int a2, .int a3]) (rest := rest) (n := 3) (C := "StonePostModel") (T := zt_Mod) (N := 23) B hP hS (zC_Mod_goes l  hq) (K := 7) rfl (by decide) (by decide) rfl rfl m1 zq_1077 zqP_35 zq_8 zq_1078 (by decide +kernel) ⟨hR1, hR2⟩ rfl rfl rfl hsz rfl hw hdg h00 kk
abbrev zR_Mod_letter : Room := { frames := 2, cells := 0, slots := 0, locals := 45 }
theorem zd_Mod_letter_0 : decode zb_Mod_letter 0 = .ok (.iload_n 1, 1) := by decide +kernel
theorem zd_Mod_letter_1 : decode zb_Mod_letter 1 = .ok (.invokestatic 58, 3) := by decide +kernel
theorem zd_Mod_letter_4 : decode zb_Mod_letter 4 = .ok (.ifCond .ne 10, 3) := by decide +kernel
theorem zd_Mod_letter_7 : decode zb_Mod_letter 7 = .ok (.aload_n 0, 1) := by decide +kernel
theorem zd_Mod_letter_8 : decode zb_Mod_letter 8 = .ok (.ldc 50, 2) := by decide +kernel
theorem zd_Mod_letter_10 : decode zb_Mod_letter 10 = .ok (.invokevirtual 64, 3) := by decide +kernel
theorem zd_Mod_letter_13 : decode zb_Mod_letter 13 = .ok (.ireturn, 1) := by decide +kernel
theorem zd_Mod_letter_14 : decode zb_Mod_letter 14 = .ok (.aload_n 0, 1) := by decide +kernel
theorem zd_Mod_letter_15 : decode zb_Mod_letter 15 = .ok (.getfield 7, 3) := by decide +kernel
theorem zd_Mod_letter_18 : decode zb_Mod_letter 18 = .ok (.iconst 2, 1) := by decide +kernel
theorem zd_Mod_letter_19 : decode zb_Mod_letter 19 = .ok (.iaload, 1) := by decide +kernel
theorem zd_Mod_letter_20 : decode zb_Mod_letter 20 = .ok (.bipush 12, 2) := by decide +kernel
theorem zd_Mod_letter_22 : decode zb_Mod_letter 22 = .ok (.if_icmp .ne 10, 3) := by decide +kernel
theorem zd_Mod_letter_25 : decode zb_Mod_letter 25 = .ok (.aload_n 0, 1) := by decide +kernel
theorem zd_Mod_letter_26 : decode zb_Mod_letter 26 = .ok (.ldc 83, 2) := by decide +kernel
theorem zd_Mod_letter_28 : decode zb_Mod_letter 28 = .ok (.invokevirtual 64, 3) := by decide +kernel
theorem zd_Mod_letter_31 : decode zb_Mod_letter 31 = .ok (.ireturn, 1) := by decide +kernel
theorem zd_Mod_letter_32 : decode zb_Mod_letter 32 = .ok (.aload_n 0, 1) := by decide +kernel
theorem zd_Mod_letter_33 : decode zb_Mod_letter 33 = .ok (.getfield 7, 3) := by decide +kernel
theorem zd_Mod_letter_36 : decode zb_Mod_letter 36 = .ok (.bipush 120, 2) := by decide +kernel
theorem zd_Mod_letter_38 : decode zb_Mod_letter 38 = .ok (.aload_n 0, 1) := by decide +kernel
theorem zd_Mod_letter_39 : decode zb_Mod_letter 39 = .ok (.getfield 7, 3) := by decide +kernel
theorem zd_Mod_letter_42 : decode zb_Mod_letter 42 = .ok (.iconst 2, 1) := by decide +kernel
theorem zd_Mod_letter_43 : decode zb_Mod_letter 43 = .ok (.iaload, 1) := by decide +kernel
theorem zd_Mod_letter_44 : decode zb_Mod_letter 44 = .ok (.iadd, 1) := by decide +kernel
theorem zd_Mod_letter_45 : decode zb_Mod_letter 45 = .ok (.iload_n 1, 1) := by decide +kernel
theorem zd_Mod_letter_46 : decode zb_Mod_letter 46 = .ok (.iastore, 1) := by decide +kernel
theorem zd_Mod_letter_47 : decode zb_Mod_letter 47 = .ok (.aload_n 0, 1) := by decide +kernel
theorem zd_Mod_letter_48 : decode zb_Mod_letter 48 = .ok (.getfield 7, 3) := by decide +kernel
theorem zd_Mod_letter_51 : decode zb_Mod_letter 51 = .ok (.iconst 2, 1) := by decide +kernel
theorem zd_Mod_letter_52 : decode zb_Mod_letter 52 = .ok (.dup2, 1) := by decide +kernel
theorem zd_Mod_letter_53 : decode zb_Mod_letter 53 = .ok (.iaload, 1) := by decide +kernel
theorem zd_Mod_letter_54 : decode zb_Mod_letter 54 = .ok (.iconst 1, 1) := by decide +kernel
theorem zd_Mod_letter_55 : decode zb_Mod_letter 55 = .ok (.iadd, 1) := by decide +kernel
theorem zd_Mod_letter_56 : decode zb_Mod_letter 56 = .ok (.iastore, 1) := by decide +kernel
theorem zd_Mod_letter_57 : decode zb_Mod_letter 57 = .ok (.aload_n 0, 1) := by decide +kernel
theorem zd_Mod_letter_58 : decode zb_Mod_letter 58 = .ok (.getfield 7, 3) := by decide +kernel
theorem zd_Mod_letter_61 : decode zb_Mod_letter 61 = .ok (.iconst 2, 1) := by decide +kernel
theorem zd_Mod_letter_62 : decode zb_Mod_letter 62 = .ok (.iaload, 1) := by decide +kernel
theorem zd_Mod_letter_63 : decode zb_Mod_letter 63 = .ok (.iconst 1, 1) := by decide +kernel
theorem zd_Mod_letter_64 : decode zb_Mod_letter 64 = .ok (.isub, 1) := by decide +kernel
theorem zd_Mod_letter_65 : decode zb_Mod_letter 65 = .ok (.ireturn, 1) := by decide +kernel
set_option maxHeartbeats 4000000 in
theorem zl_Mod_letter {p : Program} {l : Launch} {e : Env} {s : State} {m : MethodId} {args : Array Value} {below : List Frame} {meth : Method} {c : Code} {D : va_G} {cA : Nat → ClassId} {ad : Nat → Nat} {A : Nat → Prop} (B : zu_B p s m args c zb_Mod_letter 2 "StonePostModel" D cA ad A) (hret : meth.sig.returnType = (some .int)) (hlk : meth.locks = false) {Y : LX} {res : Int32 × IX} {a1 : Int32} {X : IX} (H : Heap) (locs : List Loc) (ls : Array Slot) (hP : va_P D zu_cl (zu_pic cA ad X Y) H) (hS : va_S A s.heap H locs) (hl : lv_has ls 2 [(0, .ref (ad 95)), (1, .int a1)]) (hf : fn_Mod_letter a1 X = some res) : W p l e zR_Mod_letter s m args below meth c H locs 0 0 (MQ below (zu_Qi D cA ad A res.1 res.2 Y) args s 0 0 A) (F0 m 0 ls []) := by
  obtain ⟨hx, hb, hml, hown, hts, hST⟩ := id B
  unfold fn_Mod_letter at hf
  refine lv_iload_n hx hb zd_Mod_letter_0 rfl (lv_at hl 1 rfl) ?_
  obtain ⟨v1, hq2, hf⟩ := zu_b1_e hf
  refine zw_Mod_isCell (rest := []) B hP hS hq2 zq_935 (Nat.le_of_ble_eq_true rfl) (Nat.le_of_ble_eq_true rfl) hl.1 rfl (Nat.le_of_ble_eq_true rfl) zd_Mod_letter_1 (by decide) (fun H locs hP hS => ?_)
  clear hq2
  refine lv_if_ne (tgt := 14) hx hb zd_Mod_letter_4 (by decide) (fun c3 => ?_) (fun c3 => ?_)
  · have hf := zu_f c3 hf
    refine lv_aload_n hx hb zd_Mod_letter_14 rfl (lv_at hl 0 rfl) ?_
    refine zg_Mod_s B hP rfl zq_861 zd_Mod_letter_15 ?_
    refine lv_iconst (v := 2) hx hb zd_Mod_letter_18 (by decide) ?_
    refine zr_iald (j := 2) (by decide) B hP rfl (by decide) rfl (by decide) zd_Mod_letter_19 ?_
    refine lv_bipush (v := 12) hx hb zd_Mod_letter_20 (by decide) ?_
    refine lv_icmp_ne (tgt := 32) hx hb zd_Mod_letter_22 (by decide) (fun c4 => ?_) (fun c4 => ?_)
    · have hf := zu_f c4 hf
      refine lv_aload_n hx hb zd_Mod_letter_32 rfl (lv_at hl 0 rfl) ?_
      refine zg_Mod_s B hP rfl zq_861 zd_Mod_letter_33 ?_
      refine lv_bipush (v := 120) hx hb zd_Mod_letter_36 (by decide) ?_
      refine lv_aload_n hx hb zd_Mod_letter_38 rfl (lv_at hl 0 rfl) ?_
      refine zg_Mod_s B hP rfl zq_861 zd_Mod_letter_39 ?_
      refine lv_iconst (v := 2) hx hb zd_Mod_letter_42 (by decide) ?_
      refine zr_iald (j := 2) (by decide) B hP rfl (by decide) rfl (by decide) zd_Mod_letter_43 ?_
      refine lv_iadd hx hb zd_Mod_letter_44 ?_
      refine lv_iload_n hx hb zd_Mod_letter_45 rfl (lv_at hl 1 rfl) ?_
      obtain ⟨hg5, hf⟩ := zu_gd_e hf
      refine zr_iast rfl B hP hS hf rfl (by decide) rfl hg5 zd_Mod_letter_46 (fun X6 H locs hf hP hS => ?_)
      refine lv_aload_n hx hb zd_Mod_letter_47 rfl (lv_at hl 0 rfl) ?_
      refine zg_Mod_s B hP rfl zq_861 zd_Mod_letter_48 ?_
      refine lv_iconst (v := 2) hx hb zd_Mod_letter_51 (by decide) ?_
      refine lv_dup2_11 hx hb zd_Mod_letter_52 rfl rfl ?_
      refine zr_iald (j := 2) (by decide) B hP rfl (by decide) rfl (by decide) zd_Mod_letter_53 ?_
      refine lv_iconst (v := 1) hx hb zd_Mod_letter_54 (by decide) ?_
      refine lv_iadd hx hb zd_Mod_letter_55 ?_
      refine zr_iast (j := 2) (by decide) B hP hS hf rfl (by decide) rfl (by decide) zd_Mod_letter_56 (fun X7 H locs hf hP hS => ?_)
      refine lv_aload_n hx hb zd_Mod_letter_57 rfl (lv_at hl 0 rfl) ?_
      refine zg_Mod_s B hP rfl zq_861 zd_Mod_letter_58 ?_
      refine lv_iconst (v := 2) hx hb zd_Mod_letter_61 (by decide) ?_
      refine zr_iald (j := 2) (by decide) B hP rfl (by decide) rfl (by decide) zd_Mod_letter_62 ?_
      refine lv_iconst (v := 1) hx hb zd_Mod_letter_63 (by decide) ?_
      refine lv_isub hx hb zd_Mod_letter_64 ?_
      obtain rfl := Option.some.inj hf
      exact zr_iret hx hb hret hlk hP hS zd_Mod_letter_65
    · have hf := zu_t c4 hf
      refine lv_aload_n hx hb zd_Mod_letter_25 rfl (lv_at hl 0 rfl) ?_
      refine lv_ldc (v := -1000002) hx hb hown (hts _ zq_970) zd_Mod_letter_26 ?_
      obtain ⟨v8, X9, hq10, hf⟩ := zu_b2_e hf
      refine zw_Mod_finds (rest := []) B hP hS hq10 zq_944 (Nat.le_of_ble_eq_true rfl) (Nat.le_of_ble_eq_true rfl) hl.1 rfl (Nat.le_of_ble_eq_true rfl) zd_Mod_letter_28 (by decide) (fun H locs hP hS => ?_)
      clear hq10
      obtain rfl := Option.some.inj hf
      exact zr_iret hx hb hret hlk hP hS zd_Mod_letter_31
  · have hf := zu_t c3 hf
    refine lv_aload_n hx hb zd_Mod_letter_7 rfl (lv_at hl 0 rfl) ?_
    refine lv_ldc (v := -1000001) hx hb hown (hts _ zq_943) zd_Mod_letter_8 ?_
    obtain ⟨v11, X12, hq13, hf⟩ := zu_b2_e hf
    refine zw_Mod_finds (rest := []) B hP hS hq13 zq_944 (Nat.le_of_ble_eq_true rfl) (Nat.le_of_ble_eq_true rfl) hl.1 rfl (Nat.le_of_ble_eq_true rfl) zd_Mod_letter_10 (by decide) (fun H locs hP hS => ?_)
    clear hq13
    obtain rfl := Option.some.inj hf
    exact zr_iret hx hb hret hlk hP hS zd_Mod_letter_13
theorem zC_Mod_letter (l : Launch) {D : va_G} {cA : Nat → ClassId} {ad : Nat → Nat} {A : Nat → Prop} {a1 : Int32} {X : IX} {Y : LX} {res : Int32 × IX} (hf : fn_Mod_letter a1 X = some res) : Met l zm_Mod_letter (zu_ws zm_Mod_letter zb_Mod_letter 2 (some .int)) zR_Mod_letter (va_Pc [.ref (ad 95), .int a1] (zu_Pre D cA ad A X Y)) (zu_Qi D cA ad A res.1 res.2 Y) 0 0 A := by
  refine Met.ofW (cc := zb_Mod_letter) (maxL := 2) (ret := (some .int)) (by decide +kernel) rfl ?_
  intro p e s m args below meth c s₁ B0 hml hv
  obtain ⟨rfl, hP, hST⟩ := hv
  have B : zu_B p s m _ c zb_Mod_letter 2 "StonePostModel" D cA ad A := ⟨B0.exec, B0.bytes, hml, findClass_of_methodNamed B0.named, (fun w hw => atoms_spec (ws := zu_ws zm_Mod_letter zb_Mod_letter 2 (some .int)) B0.pre w (List.mem_cons_of_mem _ hw)), hST⟩
  have hl := lv_entry ([.ref (ad 95), .int a1]) (n := 2) (Nat.le_of_ble_eq_true rfl)
  rw [lg_entry_eq]
  generalize (lg_sl ([.ref (ad 95), .int a1]) ++ List.replicate (2 - (lg_sl ([.ref (ad 95), .int a1])).length) Slot.unset).toArray = ls at hl ⊢
  exact zl_Mod_letter B B0.returns B0.notSynchronized s.heap [] ls hP va_S.rf hl  hf
theorem zw_Mod_letter {p : Program} {l : Launch} {e : Env} {R : Room} {s : State} {m : MethodId} {args : Array Value} {below : List Frame} {meth : Method} {c : Code} {H : Heap} {locs : List Loc} {cells slots : Nat} {Q : State → Prop} {cc : ByteArray} {pc nL : Nat} {ls : Array Slot} {rest st0 : List Value} {D : va_G} {cA : Nat → ClassId} {ad : Nat → Nat} {A : Nat → Prop} {X : IX} {Y : LX} {own : String} {index : Nat} {a1 : Int32} {v1 : Int32} {X1 : IX} (B : zu_B p s m args c cc nL own D cA ad A) (hP : va_P D zu_cl (zu_pic cA ad X Y) H) (hS : va_S A s.heap H locs) (hq : fn_Mod_letter a1 X = some (v1, X1)) (m1 : Cond.methodLink own index zm_Mod_letter ∈ zu_TB) (hR1 : 2 + 1 ≤ R.frames) (hR2 : 8 + (2 + 11) + 45 ≤ R.locals) (hsz : ls.size = nL) (hst : st0 = .int a1 :: .ref (ad 95) :: rest) (hw : (rest.map fun v => v.category).sum ≤ 8) (hdg : decode cc pc = .ok (.invokevirtual index, 3)) (h00 : cells ≤ R.cells ∧ slots ≤ R.slots) (kk : ∀ (H1 : Heap) (locs1 : List Loc), va_P D zu_cl (zu_pic cA ad X1 Y) H1 → va_S A s.heap H1 locs1 → W p l e R s m args below meth c H1 locs1 cells slots Q (F0 m (pc + 3) ls (.int v1 :: rest))) : W p l e R s m args below meth c H locs cells slots Q (F0 m pc ls st0) := by
  subst hst
  exact zr_cVi (As := [.int a1]) (rest := rest) (n := 1) (C := "StonePostModel") (T := zt_Mod) (N := 23) B hP hS (zC_Mod_letter l  hq) (K := 7) rfl (by decide) (by decide) rfl rfl m1 zq_1043 zq_1044 zq_8 zq_1045 (by decide +kernel) ⟨hR1, hR2⟩ rfl rfl rfl hsz rfl hw hdg h00 kk
abbrev zR_Mod_where : Room := { frames := 2, cells := 0, slots := 0, locals := 46 }
theorem zd_Mod_where_0 : decode zb_Mod_where 0 = .ok (.aload_n 0, 1) := by decide +kernel
theorem zd_Mod_where_1 : decode zb_Mod_where 1 = .ok (.iload_n 1, 1) := by decide +kernel
theorem zd_Mod_where_2 : decode zb_Mod_where 2 = .ok (.invokevirtual 142, 3) := by decide +kernel
theorem zd_Mod_where_5 : decode zb_Mod_where 5 = .ok (.ifCond .eq 15, 3) := by decide +kernel
theorem zd_Mod_where_8 : decode zb_Mod_where 8 = .ok (.aload_n 0, 1) := by decide +kernel
theorem zd_Mod_where_9 : decode zb_Mod_where 9 = .ok (.getfield 7, 3) := by decide +kernel
theorem zd_Mod_where_12 : decode zb_Mod_where 12 = .ok (.bipush 120, 2) := by decide +kernel
theorem zd_Mod_where_14 : decode zb_Mod_where 14 = .ok (.iload_n 1, 1) := by decide +kernel
theorem zd_Mod_where_15 : decode zb_Mod_where 15 = .ok (.iadd, 1) := by decide +kernel
theorem zd_Mod_where_16 : decode zb_Mod_where 16 = .ok (.iaload, 1) := by decide +kernel
theorem zd_Mod_where_17 : decode zb_Mod_where 17 = .ok (.goto 9, 3) := by decide +kernel
theorem zd_Mod_where_20 : decode zb_Mod_where 20 = .ok (.aload_n 0, 1) := by decide +kernel
theorem zd_Mod_where_21 : decode zb_Mod_where 21 = .ok (.ldc 50, 2) := by decide +kernel
theorem zd_Mod_where_23 : decode zb_Mod_where 23 = .ok (.invokevirtual 64, 3) := by decide +kernel
theorem zd_Mod_where_26 : decode zb_Mod_where 26 = .ok (.ireturn, 1) := by decide +kernel
set_option maxHeartbeats 4000000 in
theorem zl_Mod_where_L26 {p : Program} {l : Launch} {e : Env} {s : State} {m : MethodId} {args : Array Value} {below : List Frame} {meth : Method} {c : Code} {D : va_G} {cA : Nat → ClassId} {ad : Nat → Nat} {A : Nat → Prop} (B : zu_B p s m args c zb_Mod_where 2 "StonePostModel" D cA ad A) (hret : meth.sig.returnType = (some .int)) (hlk : meth.locks = false) {Y : LX} {res : Int32 × IX} (y0 : Int32) (X : IX) (H : Heap) (locs : List Loc) (ls : Array Slot) (hP : va_P D zu_cl (zu_pic cA ad X Y) H) (hS : va_S A s.heap H locs) (hl : lv_has ls 2 []) (hf : fn_Mod_where_L26 y0 X = some res) : W p l e zR_Mod_where s m args below meth c H locs 0 0 (MQ below (zu_Qi D cA ad A res.1 res.2 Y) args s 0 0 A) (F0 m 26 ls [.int y0]) := by
  obtain ⟨hx, hb, hml, hown, hts, hST⟩ := id B
  unfold fn_Mod_where_L26 at hf
  obtain rfl := Option.some.inj hf
  exact zr_iret hx hb hret hlk hP hS zd_Mod_where_26
set_option maxHeartbeats 4000000 in
theorem zl_Mod_where {p : Program} {l : Launch} {e : Env} {s : State} {m : MethodId} {args : Array Value} {below : List Frame} {meth : Method} {c : Code} {D : va_G} {cA : Nat → ClassId} {ad : Nat → Nat} {A : Nat → Prop} (B : zu_B p s m args c zb_Mod_where 2 "StonePostModel" D cA ad A) (hret : meth.sig.returnType = (some .int)) (hlk : meth.locks = false) {Y : LX} {res : Int32 × IX} {a1 : Int32} {X : IX} (H : Heap) (locs : List Loc) (ls : Array Slot) (hP : va_P D zu_cl (zu_pic cA ad X Y) H) (hS : va_S A s.heap H locs) (hl : lv_has ls 2 [(0, .ref (ad 95)), (1, .int a1)]) (hf : fn_Mod_where a1 X = some res) : W p l e zR_Mod_where s m args below meth c H locs 0 0 (MQ below (zu_Qi D cA ad A res.1 res.2 Y) args s 0 0 A) (F0 m 0 ls []) := by
  obtain ⟨hx, hb, hml, hown, hts, hST⟩ := id B
  unfold fn_Mod_where at hf
  refine lv_aload_n hx hb zd_Mod_where_0 rfl (lv_at hl 0 rfl) ?_
  refine lv_iload_n hx hb zd_Mod_where_1 rfl (lv_at hl 1 rfl) ?_
  obtain ⟨v1, hq2, hf⟩ := zu_b1_e hf
  refine zw_Mod_isLetter (rest := []) B hP hS hq2 zq_1050 (Nat.le_of_ble_eq_true rfl) (Nat.le_of_ble_eq_true rfl) hl.1 rfl (Nat.le_of_ble_eq_true rfl) zd_Mod_where_2 (by decide) (fun H locs hP hS => ?_)
  clear hq2
  refine lv_if_eq (tgt := 20) hx hb zd_Mod_where_5 (by decide) (fun c3 => ?_) (fun c3 => ?_)
  · have hf := zu_t c3 hf
    refine lv_aload_n hx hb zd_Mod_where_20 rfl (lv_at hl 0 rfl) ?_
    refine lv_ldc (v := -1000001) hx hb hown (hts _ zq_943) zd_Mod_where_21 ?_
    obtain ⟨v4, X5, hq6, hf⟩ := zu_b2_e hf
    refine zw_Mod_finds (rest := []) B hP hS hq6 zq_944 (Nat.le_of_ble_eq_true rfl) (Nat.le_of_ble_eq_true rfl) hl.1 rfl (Nat.le_of_ble_eq_true rfl) zd_Mod_where_23 (by decide) (fun H locs hP hS => ?_)
    clear hq6
    exact zl_Mod_where_L26 B hret hlk v4 X5 _ _ _ hP hS (lv_sub hl [] rfl) hf
  · have hf := zu_f c3 hf
    refine lv_aload_n hx hb zd_Mod_where_8 rfl (lv_at hl 0 rfl) ?_
    refine zg_Mod_s B hP rfl zq_861 zd_Mod_where_9 ?_
    refine lv_bipush (v := 120) hx hb zd_Mod_where_12 (by decide) ?_
    refine lv_iload_n hx hb zd_Mod_where_14 rfl (lv_at hl 1 rfl) ?_
    refine lv_iadd hx hb zd_Mod_where_15 ?_
    obtain ⟨hg7, hf⟩ := zu_gd_e hf
    refine zr_iald rfl B hP rfl (by decide) rfl hg7 zd_Mod_where_16 ?_
    refine lv_goto (tgt := 26) hx hb zd_Mod_where_17 (by decide) ?_
    exact zl_Mod_where_L26 B hret hlk (X 96 (((120 : Int32) + a1).toNatClampNeg)) X _ _ _ hP hS (lv_sub hl [] rfl) hf
theorem zC_Mod_where (l : Launch) {D : va_G} {cA : Nat → ClassId} {ad : Nat → Nat} {A : Nat → Prop} {a1 : Int32} {X : IX} {Y : LX} {res : Int32 × IX} (hf : fn_Mod_where a1 X = some res) : Met l zm_Mod_where (zu_ws zm_Mod_where zb_Mod_where 2 (some .int)) zR_Mod_where (va_Pc [.ref (ad 95), .int a1] (zu_Pre D cA ad A X Y)) (zu_Qi D cA ad A res.1 res.2 Y) 0 0 A := by
  refine Met.ofW (cc := zb_Mod_where) (maxL := 2) (ret := (some .int)) (by decide +kernel) rfl ?_
  intro p e s m args below meth c s₁ B0 hml hv
  obtain ⟨rfl, hP, hST⟩ := hv
  have B : zu_B p s m _ c zb_Mod_where 2 "StonePostModel" D cA ad A := ⟨B0.exec, B0.bytes, hml, findClass_of_methodNamed B0.named, (fun w hw => atoms_spec (ws := zu_ws zm_Mod_where zb_Mod_where 2 (some .int)) B0.pre w (List.mem_cons_of_mem _ hw)), hST⟩
  have hl := lv_entry ([.ref (ad 95), .int a1]) (n := 2) (Nat.le_of_ble_eq_true rfl)
  rw [lg_entry_eq]
  generalize (lg_sl ([.ref (ad 95), .int a1]) ++ List.replicate (2 - (lg_sl ([.ref (ad 95), .int a1])).length) Slot.unset).toArray = ls at hl ⊢
  exact zl_Mod_where B B0.returns B0.notSynchronized s.heap [] ls hP va_S.rf hl  hf
theorem zw_Mod_where {p : Program} {l : Launch} {e : Env} {R : Room} {s : State} {m : MethodId} {args : Array Value} {below : List Frame} {meth : Method} {c : Code} {H : Heap} {locs : List Loc} {cells slots : Nat} {Q : State → Prop} {cc : ByteArray} {pc nL : Nat} {ls : Array Slot} {rest st0 : List Value} {D : va_G} {cA : Nat → ClassId} {ad : Nat → Nat} {A : Nat → Prop} {X : IX} {Y : LX} {own : String} {index : Nat} {a1 : Int32} {v1 : Int32} {X1 : IX} (B : zu_B p s m args c cc nL own D cA ad A) (hP : va_P D zu_cl (zu_pic cA ad X Y) H) (hS : va_S A s.heap H locs) (hq : fn_Mod_where a1 X = some (v1, X1)) (m1 : Cond.methodLink own index zm_Mod_where ∈ zu_TB) (hR1 : 2 + 1 ≤ R.frames) (hR2 : 8 + (2 + 11) + 46 ≤ R.locals) (hsz : ls.size = nL) (hst : st0 = .int a1 :: .ref (ad 95) :: rest) (hw : (rest.map fun v => v.category).sum ≤ 8) (hdg : decode cc pc = .ok (.invokevirtual index, 3)) (h00 : cells ≤ R.cells ∧ slots ≤ R.slots) (kk : ∀ (H1 : Heap) (locs1 : List Loc), va_P D zu_cl (zu_pic cA ad X1 Y) H1 → va_S A s.heap H1 locs1 → W p l e R s m args below meth c H1 locs1 cells slots Q (F0 m (pc + 3) ls (.int v1 :: rest))) : W p l e R s m args below meth c H locs cells slots Q (F0 m pc ls st0) := by
  subst hst
  exact zr_cVi (As := [.int a1]) (rest := rest) (n := 1) (C := "StonePostModel") (T := zt_Mod) (N := 23) B hP hS (zC_Mod_where l  hq) (K := 7) rfl (by decide) (by decide) rfl rfl m1 zq_1047 zq_1048 zq_8 zq_1049 (by decide +kernel) ⟨hR1, hR2⟩ rfl rfl rfl hsz rfl hw hdg h00 kk
abbrev zR_Mod_take : Room := { frames := 2, cells := 0, slots := 0, locals := 46 }
theorem zd_Mod_take_0 : decode zb_Mod_take 0 = .ok (.aload_n 0, 1) := by decide +kernel
theorem zd_Mod_take_1 : decode zb_Mod_take 1 = .ok (.iload_n 1, 1) := by decide +kernel
theorem zd_Mod_take_2 : decode zb_Mod_take 2 = .ok (.invokevirtual 142, 3) := by decide +kernel
theorem zd_Mod_take_5 : decode zb_Mod_take 5 = .ok (.ifCond .ne 10, 3) := by decide +kernel
theorem zd_Mod_take_8 : decode zb_Mod_take 8 = .ok (.aload_n 0, 1) := by decide +kernel
theorem zd_Mod_take_9 : decode zb_Mod_take 9 = .ok (.ldc 50, 2) := by decide +kernel
theorem zd_Mod_take_11 : decode zb_Mod_take 11 = .ok (.invokevirtual 64, 3) := by decide +kernel
theorem zd_Mod_take_14 : decode zb_Mod_take 14 = .ok (.ireturn, 1) := by decide +kernel
theorem zd_Mod_take_15 : decode zb_Mod_take 15 = .ok (.aload_n 0, 1) := by decide +kernel
theorem zd_Mod_take_16 : decode zb_Mod_take 16 = .ok (.getfield 7, 3) := by decide +kernel
theorem zd_Mod_take_19 : decode zb_Mod_take 19 = .ok (.bipush 120, 2) := by decide +kernel
theorem zd_Mod_take_21 : decode zb_Mod_take 21 = .ok (.iload_n 1, 1) := by decide +kernel
theorem zd_Mod_take_22 : decode zb_Mod_take 22 = .ok (.iadd, 1) := by decide +kernel
theorem zd_Mod_take_23 : decode zb_Mod_take 23 = .ok (.iaload, 1) := by decide +kernel
theorem zd_Mod_take_24 : decode zb_Mod_take 24 = .ok (.istore_n 2, 1) := by decide +kernel
theorem zd_Mod_take_25 : decode zb_Mod_take 25 = .ok (.aload_n 0, 1) := by decide +kernel
theorem zd_Mod_take_26 : decode zb_Mod_take 26 = .ok (.getfield 7, 3) := by decide +kernel
theorem zd_Mod_take_29 : decode zb_Mod_take 29 = .ok (.iconst 2, 1) := by decide +kernel
theorem zd_Mod_take_30 : decode zb_Mod_take 30 = .ok (.dup2, 1) := by decide +kernel
theorem zd_Mod_take_31 : decode zb_Mod_take 31 = .ok (.iaload, 1) := by decide +kernel
theorem zd_Mod_take_32 : decode zb_Mod_take 32 = .ok (.iconst 1, 1) := by decide +kernel
theorem zd_Mod_take_33 : decode zb_Mod_take 33 = .ok (.isub, 1) := by decide +kernel
theorem zd_Mod_take_34 : decode zb_Mod_take 34 = .ok (.iastore, 1) := by decide +kernel
theorem zd_Mod_take_35 : decode zb_Mod_take 35 = .ok (.iload_n 1, 1) := by decide +kernel
theorem zd_Mod_take_36 : decode zb_Mod_take 36 = .ok (.istore_n 3, 1) := by decide +kernel
theorem zd_Mod_take_37 : decode zb_Mod_take 37 = .ok (.iload_n 3, 1) := by decide +kernel
theorem zd_Mod_take_38 : decode zb_Mod_take 38 = .ok (.aload_n 0, 1) := by decide +kernel
theorem zd_Mod_take_39 : decode zb_Mod_take 39 = .ok (.getfield 7, 3) := by decide +kernel
theorem zd_Mod_take_42 : decode zb_Mod_take 42 = .ok (.iconst 2, 1) := by decide +kernel
theorem zd_Mod_take_43 : decode zb_Mod_take 43 = .ok (.iaload, 1) := by decide +kernel
theorem zd_Mod_take_44 : decode zb_Mod_take 44 = .ok (.if_icmp .ge 29, 3) := by decide +kernel
theorem zd_Mod_take_47 : decode zb_Mod_take 47 = .ok (.aload_n 0, 1) := by decide +kernel
theorem zd_Mod_take_48 : decode zb_Mod_take 48 = .ok (.getfield 7, 3) := by decide +kernel
theorem zd_Mod_take_51 : decode zb_Mod_take 51 = .ok (.bipush 120, 2) := by decide +kernel
theorem zd_Mod_take_53 : decode zb_Mod_take 53 = .ok (.iload_n 3, 1) := by decide +kernel
theorem zd_Mod_take_54 : decode zb_Mod_take 54 = .ok (.iadd, 1) := by decide +kernel
theorem zd_Mod_take_55 : decode zb_Mod_take 55 = .ok (.aload_n 0, 1) := by decide +kernel
theorem zd_Mod_take_56 : decode zb_Mod_take 56 = .ok (.getfield 7, 3) := by decide +kernel
theorem zd_Mod_take_59 : decode zb_Mod_take 59 = .ok (.bipush 120, 2) := by decide +kernel
theorem zd_Mod_take_61 : decode zb_Mod_take 61 = .ok (.iload_n 3, 1) := by decide +kernel
theorem zd_Mod_take_62 : decode zb_Mod_take 62 = .ok (.iadd, 1) := by decide +kernel
theorem zd_Mod_take_63 : decode zb_Mod_take 63 = .ok (.iconst 1, 1) := by decide +kernel
theorem zd_Mod_take_64 : decode zb_Mod_take 64 = .ok (.iadd, 1) := by decide +kernel
theorem zd_Mod_take_65 : decode zb_Mod_take 65 = .ok (.iaload, 1) := by decide +kernel
theorem zd_Mod_take_66 : decode zb_Mod_take 66 = .ok (.iastore, 1) := by decide +kernel
theorem zd_Mod_take_67 : decode zb_Mod_take 67 = .ok (.iinc 3 1, 3) := by decide +kernel
theorem zd_Mod_take_70 : decode zb_Mod_take 70 = .ok (.goto (-33), 3) := by decide +kernel
theorem zd_Mod_take_73 : decode zb_Mod_take 73 = .ok (.iload_n 2, 1) := by decide +kernel
theorem zd_Mod_take_74 : decode zb_Mod_take 74 = .ok (.ireturn, 1) := by decide +kernel
set_option maxHeartbeats 4000000 in
theorem zl_Mod_take_B37 {p : Program} {l : Launch} {e : Env} {s : State} {m : MethodId} {args : Array Value} {below : List Frame} {meth : Method} {c : Code} {D : va_G} {cA : Nat → ClassId} {ad : Nat → Nat} {A : Nat → Prop} (B : zu_B p s m args c zb_Mod_take 4 "StonePostModel" D cA ad A) (hret : meth.sig.returnType = (some .int)) (hlk : meth.locks = false) {Y : LX} {res : Int32 × IX} {k37 : Int32 → Int32 → IX → Option (Int32 × IX)} (hk37 : ∀ (x2 : Int32) (x3 : Int32) (X : IX) (H : Heap) (locs : List Loc) (ls : Array Slot), va_P D zu_cl (zu_pic cA ad X Y) H → va_S A s.heap H locs → lv_has ls 4 [(0, .ref (ad 95)), (2, .int x2), (3, .int x3)] → k37 x2 x3 X = some res → W p l e zR_Mod_take s m args below meth c H locs 0 0 (MQ below (zu_Qi D cA ad A res.1 res.2 Y) args s 0 0 A) (F0 m 37 ls [])) (x2 : Int32) (x3 : Int32) (X : IX) (H : Heap) (locs : List Loc) (ls : Array Slot) (hP : va_P D zu_cl (zu_pic cA ad X Y) H) (hS : va_S A s.heap H locs) (hl : lv_has ls 4 [(0, .ref (ad 95)), (2, .int x2), (3, .int x3)]) (hf : fn_Mod_take_B37 k37 x2 x3 X = some res) : W p l e zR_Mod_take s m args below meth c H locs 0 0 (MQ below (zu_Qi D cA ad A res.1 res.2 Y) args s 0 0 A) (F0 m 37 ls []) := by
  obtain ⟨hx, hb, hml, hown, hts, hST⟩ := id B
  unfold fn_Mod_take_B37 at hf
  refine lv_iload_n hx hb zd_Mod_take_37 rfl (lv_at hl 2 rfl) ?_
  refine lv_aload_n hx hb zd_Mod_take_38 rfl (lv_at hl 0 rfl) ?_
  refine zg_Mod_s B hP rfl zq_861 zd_Mod_take_39 ?_
  refine lv_iconst (v := 2) hx hb zd_Mod_take_42 (by decide) ?_
  refine zr_iald (j := 2) (by decide) B hP rfl (by decide) rfl (by decide) zd_Mod_take_43 ?_
  refine lv_icmp_ge (tgt := 73) hx hb zd_Mod_take_44 (by decide) (fun c10 => ?_) (fun c10 => ?_)
  · have hf := zu_t c10 hf
    refine lv_iload_n hx hb zd_Mod_take_73 rfl (lv_at hl 1 rfl) ?_
    obtain rfl := Option.some.inj hf
    exact zr_iret hx hb hret hlk hP hS zd_Mod_take_74
  · have hf := zu_f c10 hf
    refine lv_aload_n hx hb zd_Mod_take_47 rfl (lv_at hl 0 rfl) ?_
    refine zg_Mod_s B hP rfl zq_861 zd_Mod_take_48 ?_
    refine lv_bipush (v := 120) hx hb zd_Mod_take_51 (by decide) ?_
    refine lv_iload_n hx hb zd_Mod_take_53 rfl (lv_at hl 2 rfl) ?_
    refine lv_iadd hx hb zd_Mod_take_54 ?_
    refine lv_aload_n hx hb zd_Mod_take_55 rfl (lv_at hl 0 rfl) ?_
    refine zg_Mod_s B hP rfl zq_861 zd_Mod_take_56 ?_
    refine lv_bipush (v := 120) hx hb zd_Mod_take_59 (by decide) ?_
    refine lv_iload_n hx hb zd_Mod_take_61 rfl (lv_at hl 2 rfl) ?_
    refine lv_iadd hx hb zd_Mod_take_62 ?_
    refine lv_iconst (v := 1) hx hb zd_Mod_take_63 (by decide) ?_
    refine lv_iadd hx hb zd_Mod_take_64 ?_
    obtain ⟨hg11, hf⟩ := zu_gd_e hf
    refine zr_iald rfl B hP rfl (by decide) rfl hg11 zd_Mod_take_65 ?_
    obtain ⟨hg12, hf⟩ := zu_gd_e hf
    refine zr_iast rfl B hP hS hf rfl (by decide) rfl hg12 zd_Mod_take_66 (fun X13 H locs hf hP hS => ?_)
    obtain ⟨v14, ev14, hf⟩ := zu_nx_e hf
    refine lv_iinc (v := v14) (lv' := [(3, .int v14), (0, .ref (ad 95)), (2, .int x2)]) hx hb zd_Mod_take_67 hl (k := 2) rfl (by rw [ev14]; rfl) (by decide) rfl (fun ls hl => ?_)
    clear ev14
    refine lv_goto (tgt := 37) hx hb zd_Mod_take_70 (by decide) ?_
    exact hk37 x2 v14 X13 _ _ _ hP hS (lv_sub hl [1, 2, 0] rfl) hf
theorem zl_Mod_take_L37 {p : Program} {l : Launch} {e : Env} {s : State} {m : MethodId} {args : Array Value} {below : List Frame} {meth : Method} {c : Code} {D : va_G} {cA : Nat → ClassId} {ad : Nat → Nat} {A : Nat → Prop} (B : zu_B p s m args c zb_Mod_take 4 "StonePostModel" D cA ad A) (hret : meth.sig.returnType = (some .int)) (hlk : meth.locks = false) {Y : LX} {res : Int32 × IX} : ∀ (n : Nat) (x2 : Int32) (x3 : Int32) (X : IX) (H : Heap) (locs : List Loc) (ls : Array Slot), va_P D zu_cl (zu_pic cA ad X Y) H → va_S A s.heap H locs → lv_has ls 4 [(0, .ref (ad 95)), (2, .int x2), (3, .int x3)] → fn_Mod_take_L37 n x2 x3 X = some res → W p l e zR_Mod_take s m args below meth c H locs 0 0 (MQ below (zu_Qi D cA ad A res.1 res.2 Y) args s 0 0 A) (F0 m 37 ls []) := by
  intro n
  induction n with
  | zero =>
    intro x2 x3 X H locs ls hP hS hl hf
    exact (Option.some_ne_none _ hf.symm).elim
  | succ n ih =>
    intro x2 x3 X H locs ls hP hS hl hf
    exact zl_Mod_take_B37 B hret hlk ih x2 x3 X H locs ls hP hS hl  hf
set_option maxHeartbeats 4000000 in
theorem zl_Mod_take {p : Program} {l : Launch} {e : Env} {s : State} {m : MethodId} {args : Array Value} {below : List Frame} {meth : Method} {c : Code} {D : va_G} {cA : Nat → ClassId} {ad : Nat → Nat} {A : Nat → Prop} (B : zu_B p s m args c zb_Mod_take 4 "StonePostModel" D cA ad A) (hret : meth.sig.returnType = (some .int)) (hlk : meth.locks = false) {Y : LX} {res : Int32 × IX} {a1 : Int32} {X : IX} (H : Heap) (locs : List Loc) (ls : Array Slot) (hP : va_P D zu_cl (zu_pic cA ad X Y) H) (hS : va_S A s.heap H locs) (hl : lv_has ls 4 [(0, .ref (ad 95)), (1, .int a1)]) (hf : fn_Mod_take a1 X = some res) : W p l e zR_Mod_take s m args below meth c H locs 0 0 (MQ below (zu_Qi D cA ad A res.1 res.2 Y) args s 0 0 A) (F0 m 0 ls []) := by
  obtain ⟨hx, hb, hml, hown, hts, hST⟩ := id B
  unfold fn_Mod_take at hf
  refine lv_aload_n hx hb zd_Mod_take_0 rfl (lv_at hl 0 rfl) ?_
  refine lv_iload_n hx hb zd_Mod_take_1 rfl (lv_at hl 1 rfl) ?_
  obtain ⟨v1, hq2, hf⟩ := zu_b1_e hf
  refine zw_Mod_isLetter (rest := []) B hP hS hq2 zq_1050 (Nat.le_of_ble_eq_true rfl) (Nat.le_of_ble_eq_true rfl) hl.1 rfl (Nat.le_of_ble_eq_true rfl) zd_Mod_take_2 (by decide) (fun H locs hP hS => ?_)
  clear hq2
  refine lv_if_ne (tgt := 15) hx hb zd_Mod_take_5 (by decide) (fun c3 => ?_) (fun c3 => ?_)
  · have hf := zu_f c3 hf
    refine lv_aload_n hx hb zd_Mod_take_15 rfl (lv_at hl 0 rfl) ?_
    refine zg_Mod_s B hP rfl zq_861 zd_Mod_take_16 ?_
    refine lv_bipush (v := 120) hx hb zd_Mod_take_19 (by decide) ?_
    refine lv_iload_n hx hb zd_Mod_take_21 rfl (lv_at hl 1 rfl) ?_
    refine lv_iadd hx hb zd_Mod_take_22 ?_
    obtain ⟨hg4, hf⟩ := zu_gd_e hf
    refine zr_iald rfl B hP rfl (by decide) rfl hg4 zd_Mod_take_23 ?_
    refine zr_nxi hf (fun v5 hf => ?_)
    refine lv_istore_n (lv' := [(2, .int v5), (0, .ref (ad 95)), (1, .int a1)]) hx hb zd_Mod_take_24 rfl hl (by decide) rfl (fun ls hl => ?_)
    refine lv_aload_n hx hb zd_Mod_take_25 rfl (lv_at hl 1 rfl) ?_
    refine zg_Mod_s B hP rfl zq_861 zd_Mod_take_26 ?_
    refine lv_iconst (v := 2) hx hb zd_Mod_take_29 (by decide) ?_
    refine lv_dup2_11 hx hb zd_Mod_take_30 rfl rfl ?_
    refine zr_iald (j := 2) (by decide) B hP rfl (by decide) rfl (by decide) zd_Mod_take_31 ?_
    refine lv_iconst (v := 1) hx hb zd_Mod_take_32 (by decide) ?_
    refine lv_isub hx hb zd_Mod_take_33 ?_
    refine zr_iast (j := 2) (by decide) B hP hS hf rfl (by decide) rfl (by decide) zd_Mod_take_34 (fun X6 H locs hf hP hS => ?_)
    refine lv_iload_n hx hb zd_Mod_take_35 rfl (lv_at hl 2 rfl) ?_
    refine lv_istore_n (lv' := [(3, .int a1), (2, .int v5), (0, .ref (ad 95)), (1, .int a1)]) hx hb zd_Mod_take_36 rfl hl (by decide) rfl (fun ls hl => ?_)
    exact zl_Mod_take_L37 B hret hlk 400 v5 a1 X6 _ _ _ hP hS (lv_sub hl [2, 1, 0] rfl) hf
  · have hf := zu_t c3 hf
    refine lv_aload_n hx hb zd_Mod_take_8 rfl (lv_at hl 0 rfl) ?_
    refine lv_ldc (v := -1000001) hx hb hown (hts _ zq_943) zd_Mod_take_9 ?_
    obtain ⟨v7, X8, hq9, hf⟩ := zu_b2_e hf
    refine zw_Mod_finds (rest := []) B hP hS hq9 zq_944 (Nat.le_of_ble_eq_true rfl) (Nat.le_of_ble_eq_true rfl) hl.1 rfl (Nat.le_of_ble_eq_true rfl) zd_Mod_take_11 (by decide) (fun H locs hP hS => ?_)
    clear hq9
    obtain rfl := Option.some.inj hf
    exact zr_iret hx hb hret hlk hP hS zd_Mod_take_14
theorem zC_Mod_take (l : Launch) {D : va_G} {cA : Nat → ClassId} {ad : Nat → Nat} {A : Nat → Prop} {a1 : Int32} {X : IX} {Y : LX} {res : Int32 × IX} (hf : fn_Mod_take a1 X = some res) : Met l zm_Mod_take (zu_ws zm_Mod_take zb_Mod_take 4 (some .int)) zR_Mod_take (va_Pc [.ref (ad 95), .int a1] (zu_Pre D cA ad A X Y)) (zu_Qi D cA ad A res.1 res.2 Y) 0 0 A := by
  refine Met.ofW (cc := zb_Mod_take) (maxL := 4) (ret := (some .int)) (by decide +kernel) rfl ?_
  intro p e s m args below meth c s₁ B0 hml hv
  obtain ⟨rfl, hP, hST⟩ := hv
  have B : zu_B p s m _ c zb_Mod_take 4 "StonePostModel" D cA ad A := ⟨B0.exec, B0.bytes, hml, findClass_of_methodNamed B0.named, (fun w hw => atoms_spec (ws := zu_ws zm_Mod_take zb_Mod_take 4 (some .int)) B0.pre w (List.mem_cons_of_mem _ hw)), hST⟩
  have hl := lv_entry ([.ref (ad 95), .int a1]) (n := 4) (Nat.le_of_ble_eq_true rfl)
  rw [lg_entry_eq]
  generalize (lg_sl ([.ref (ad 95), .int a1]) ++ List.replicate (4 - (lg_sl ([.ref (ad 95), .int a1])).length) Slot.unset).toArray = ls at hl ⊢
  exact zl_Mod_take B B0.returns B0.notSynchronized s.heap [] ls hP va_S.rf hl  hf
theorem zw_Mod_take {p : Program} {l : Launch} {e : Env} {R : Room} {s : State} {m : MethodId} {args : Array Value} {below : List Frame} {meth : Method} {c : Code} {H : Heap} {locs : List Loc} {cells slots : Nat} {Q : State → Prop} {cc : ByteArray} {pc nL : Nat} {ls : Array Slot} {rest st0 : List Value} {D : va_G} {cA : Nat → ClassId} {ad : Nat → Nat} {A : Nat → Prop} {X : IX} {Y : LX} {own : String} {index : Nat} {a1 : Int32} {v1 : Int32} {X1 : IX} (B : zu_B p s m args c cc nL own D cA ad A) (hP : va_P D zu_cl (zu_pic cA ad X Y) H) (hS : va_S A s.heap H locs) (hq : fn_Mod_take a1 X = some (v1, X1)) (m1 : Cond.methodLink own index zm_Mod_take ∈ zu_TB) (hR1 : 2 + 1 ≤ R.frames) (hR2 : 8 + (4 + 11) + 46 ≤ R.locals) (hsz : ls.size = nL) (hst : st0 = .int a1 :: .ref (ad 95) :: rest) (hw : (rest.map fun v => v.category).sum ≤ 8) (hdg : decode cc pc = .ok (.invokevirtual index, 3)) (h00 : cells ≤ R.cells ∧ slots ≤ R.slots) (kk : ∀ (H1 : Heap) (locs1 : List Loc), va_P D zu_cl (zu_pic cA ad X1 Y) H1 → va_S A s.heap H1 locs1 → W p l e R s m args below meth c H1 locs1 cells slots Q (F0 m (pc + 3) ls (.int v1 :: rest))) : W p l e R s m args below meth c H locs cells slots Q (F0 m pc ls st0) := by
  subst hst
  exact zr_cVi (As := [.int a1]) (rest := rest) (n := 1) (C := "StonePostModel") (T := zt_Mod) (N := 23) B hP hS (zC_Mod_take l  hq) (K := 7) rfl (by decide) (by decide) rfl rfl m1 zq_1055 zq_1056 zq_8 zq_1057 (by decide +kernel) ⟨hR1, hR2⟩ rfl rfl rfl hsz rfl hw hdg h00 kk
abbrev zR_Mod_clockIn : Room := { frames := 0, cells := 0, slots := 0, locals := 0 }
theorem zd_Mod_clockIn_0 : decode zb_Mod_clockIn 0 = .ok (.aload_n 0, 1) := by decide +kernel
theorem zd_Mod_clockIn_1 : decode zb_Mod_clockIn 1 = .ok (.getfield 7, 3) := by decide +kernel
theorem zd_Mod_clockIn_4 : decode zb_Mod_clockIn 4 = .ok (.iconst 0, 1) := by decide +kernel
theorem zd_Mod_clockIn_5 : decode zb_Mod_clockIn 5 = .ok (.iaload, 1) := by decide +kernel
theorem zd_Mod_clockIn_6 : decode zb_Mod_clockIn 6 = .ok (.iload_n 1, 1) := by decide +kernel
theorem zd_Mod_clockIn_7 : decode zb_Mod_clockIn 7 = .ok (.iadd, 1) := by decide +kernel
theorem zd_Mod_clockIn_8 : decode zb_Mod_clockIn 8 = .ok (.bipush 24, 2) := by decide +kernel
theorem zd_Mod_clockIn_10 : decode zb_Mod_clockIn 10 = .ok (.irem, 1) := by decide +kernel
theorem zd_Mod_clockIn_11 : decode zb_Mod_clockIn 11 = .ok (.ireturn, 1) := by decide +kernel
set_option maxHeartbeats 4000000 in
theorem zl_Mod_clockIn {p : Program} {l : Launch} {e : Env} {s : State} {m : MethodId} {args : Array Value} {below : List Frame} {meth : Method} {c : Code} {D : va_G} {cA : Nat → ClassId} {ad : Nat → Nat} {A : Nat → Prop} (B : zu_B p s m args c zb_Mod_clockIn 2 "StonePostModel" D cA ad A) (hret : meth.sig.returnType = (some .int)) (hlk : meth.locks = false) {X : IX} {Y : LX} {res : Int32} {a1 : Int32} (H : Heap) (locs : List Loc) (ls : Array Slot) (hP : va_P D zu_cl (zu_pic cA ad X Y) H) (hS : va_S A s.heap H locs) (hl : lv_has ls 2 [(0, .ref (ad 95)), (1, .int a1)]) (hf : fn_Mod_clockIn X a1 = res) : W p l e zR_Mod_clockIn s m args below meth c H locs 0 0 (MQ below (zu_Qi D cA ad A res X Y) args s 0 0 A) (F0 m 0 ls []) := by
  obtain ⟨hx, hb, hml, hown, hts, hST⟩ := id B
  unfold fn_Mod_clockIn at hf
  refine lv_aload_n hx hb zd_Mod_clockIn_0 rfl (lv_at hl 0 rfl) ?_
  refine zg_Mod_s B hP rfl zq_861 zd_Mod_clockIn_1 ?_
  refine lv_iconst (v := 0) hx hb zd_Mod_clockIn_4 (by decide) ?_
  refine zr_iald (j := 0) (by decide) B hP rfl (by decide) rfl (by decide) zd_Mod_clockIn_5 ?_
  refine lv_iload_n hx hb zd_Mod_clockIn_6 rfl (lv_at hl 1 rfl) ?_
  refine lv_iadd hx hb zd_Mod_clockIn_7 ?_
  refine lv_bipush (v := 24) hx hb zd_Mod_clockIn_8 (by decide) ?_
  refine lv_irem hx hb zd_Mod_clockIn_10 (by decide) ?_
  obtain rfl := hf
  exact zr_iret hx hb hret hlk hP hS zd_Mod_clockIn_11
theorem zC_Mod_clockIn (l : Launch) {D : va_G} {cA : Nat → ClassId} {ad : Nat → Nat} {A : Nat → Prop} {a1 : Int32} {X : IX} {Y : LX} {res : Int32} (hf : fn_Mod_clockIn X a1 = res) : Met l zm_Mod_clockIn (zu_ws zm_Mod_clockIn zb_Mod_clockIn 2 (some .int)) zR_Mod_clockIn (va_Pc [.ref (ad 95), .int a1] (zu_Pre D cA ad A X Y)) (zu_Qi D cA ad A res X Y) 0 0 A := by
  refine Met.ofW (cc := zb_Mod_clockIn) (maxL := 2) (ret := (some .int)) (by decide +kernel) rfl ?_
  intro p e s m args below meth c s₁ B0 hml hv
  obtain ⟨rfl, hP, hST⟩ := hv
  have B : zu_B p s m _ c zb_Mod_clockIn 2 "StonePostModel" D cA ad A := ⟨B0.exec, B0.bytes, hml, findClass_of_methodNamed B0.named, (fun w hw => atoms_spec (ws := zu_ws zm_Mod_clockIn zb_Mod_clockIn 2 (some .int)) B0.pre w (List.mem_cons_of_mem _ hw)), hST⟩
  have hl := lv_entry ([.ref (ad 95), .int a1]) (n := 2) (Nat.le_of_ble_eq_true rfl)
  rw [lg_entry_eq]
  generalize (lg_sl ([.ref (ad 95), .int a1]) ++ List.replicate (2 - (lg_sl ([.ref (ad 95), .int a1])).length) Slot.unset).toArray = ls at hl ⊢
  exact zl_Mod_clockIn B B0.returns B0.notSynchronized s.heap [] ls hP va_S.rf hl  hf
theorem zw_Mod_clockIn {p : Program} {l : Launch} {e : Env} {R : Room} {s : State} {m : MethodId} {args : Array Value} {below : List Frame} {meth : Method} {c : Code} {H : Heap} {locs : List Loc} {cells slots : Nat} {Q : State → Prop} {cc : ByteArray} {pc nL : Nat} {ls : Array Slot} {rest st0 : List Value} {D : va_G} {cA : Nat → ClassId} {ad : Nat → Nat} {A : Nat → Prop} {X : IX} {Y : LX} {own : String} {index : Nat} {a1 : Int32} {v1 : Int32} (B : zu_B p s m args c cc nL own D cA ad A) (hP : va_P D zu_cl (zu_pic cA ad X Y) H) (hS : va_S A s.heap H locs) (hq : fn_Mod_clockIn X a1 = v1) (m1 : Cond.methodLink own index zm_Mod_clockIn ∈ zu_TB) (hR1 : 0 + 1 ≤ R.frames) (hR2 : 8 + (2 + 11) + 0 ≤ R.locals) (hsz : ls.size = nL) (hst : st0 = .int a1 :: .ref (ad 95) :: rest) (hw : (rest.map fun v => v.category).sum ≤ 8) (hdg : decode cc pc = .ok (.invokevirtual index, 3)) (h00 : cells ≤ R.cells ∧ slots ≤ R.slots) (kk : ∀ (H1 : Heap) (locs1 : List Loc), va_P D zu_cl (zu_pic cA ad X Y) H1 → va_S A s.heap H1 locs1 → W p l e R s m args below meth c H1 locs1 cells slots Q (F0 m (pc + 3) ls (.int v1 :: rest))) : W p l e R s m args below meth c H locs cells slots Q (F0 m pc ls st0) := by
  subst hst
  exact zr_cVi (As := [.int a1]) (rest := rest) (n := 1) (C := "StonePostModel") (T := zt_Mod) (N := 23) B hP hS (zC_Mod_clockIn l  hq) (K := 7) rfl (by decide) (by decide) rfl rfl m1 zq_1073 zqP_34 zq_8 zq_1074 (by decide +kernel) ⟨hR1, hR2⟩ rfl rfl rfl hsz rfl hw hdg h00 kk
abbrev zR_Mod_hour : Room := { frames := 5, cells := 0, slots := 0, locals := 119 }
theorem zd_Mod_hour_0 : decode zb_Mod_hour 0 = .ok (.iconst 0, 1) := by decide +kernel
theorem zd_Mod_hour_1 : decode zb_Mod_hour 1 = .ok (.istore_n 1, 1) := by decide +kernel
theorem zd_Mod_hour_2 : decode zb_Mod_hour 2 = .ok (.iload_n 1, 1) := by decide +kernel
theorem zd_Mod_hour_3 : decode zb_Mod_hour 3 = .ok (.aload_n 0, 1) := by decide +kernel
theorem zd_Mod_hour_4 : decode zb_Mod_hour 4 = .ok (.getfield 7, 3) := by decide +kernel
theorem zd_Mod_hour_7 : decode zb_Mod_hour 7 = .ok (.iconst 2, 1) := by decide +kernel
theorem zd_Mod_hour_8 : decode zb_Mod_hour 8 = .ok (.iaload, 1) := by decide +kernel
theorem zd_Mod_hour_9 : decode zb_Mod_hour 9 = .ok (.if_icmp .ge 127, 3) := by decide +kernel
theorem zd_Mod_hour_12 : decode zb_Mod_hour 12 = .ok (.aload_n 0, 1) := by decide +kernel
theorem zd_Mod_hour_13 : decode zb_Mod_hour 13 = .ok (.aload_n 0, 1) := by decide +kernel
theorem zd_Mod_hour_14 : decode zb_Mod_hour 14 = .ok (.getfield 7, 3) := by decide +kernel
theorem zd_Mod_hour_17 : decode zb_Mod_hour 17 = .ok (.bipush 120, 2) := by decide +kernel
theorem zd_Mod_hour_19 : decode zb_Mod_hour 19 = .ok (.iload_n 1, 1) := by decide +kernel
theorem zd_Mod_hour_20 : decode zb_Mod_hour 20 = .ok (.iadd, 1) := by decide +kernel
theorem zd_Mod_hour_21 : decode zb_Mod_hour 21 = .ok (.iaload, 1) := by decide +kernel
theorem zd_Mod_hour_22 : decode zb_Mod_hour 22 = .ok (.aload_n 0, 1) := by decide +kernel
theorem zd_Mod_hour_23 : decode zb_Mod_hour 23 = .ok (.iconst 0, 1) := by decide +kernel
theorem zd_Mod_hour_24 : decode zb_Mod_hour 24 = .ok (.invokevirtual 145, 3) := by decide +kernel
theorem zd_Mod_hour_27 : decode zb_Mod_hour 27 = .ok (.iconst (-1), 1) := by decide +kernel
theorem zd_Mod_hour_28 : decode zb_Mod_hour 28 = .ok (.invokevirtual 148, 3) := by decide +kernel
theorem zd_Mod_hour_31 : decode zb_Mod_hour 31 = .ok (.aload_n 0, 1) := by decide +kernel
theorem zd_Mod_hour_32 : decode zb_Mod_hour 32 = .ok (.getfield 136, 3) := by decide +kernel
theorem zd_Mod_hour_35 : decode zb_Mod_hour 35 = .ok (.bipush 12, 2) := by decide +kernel
theorem zd_Mod_hour_37 : decode zb_Mod_hour 37 = .ok (.if_icmp .ne 7, 3) := by decide +kernel
theorem zd_Mod_hour_40 : decode zb_Mod_hour 40 = .ok (.iconst 1, 1) := by decide +kernel
theorem zd_Mod_hour_41 : decode zb_Mod_hour 41 = .ok (.goto 4, 3) := by decide +kernel
theorem zd_Mod_hour_44 : decode zb_Mod_hour 44 = .ok (.iconst 0, 1) := by decide +kernel
theorem zd_Mod_hour_45 : decode zb_Mod_hour 45 = .ok (.istore_n 2, 1) := by decide +kernel
theorem zd_Mod_hour_46 : decode zb_Mod_hour 46 = .ok (.aload_n 0, 1) := by decide +kernel
theorem zd_Mod_hour_47 : decode zb_Mod_hour 47 = .ok (.getfield 136, 3) := by decide +kernel
theorem zd_Mod_hour_50 : decode zb_Mod_hour 50 = .ok (.i2l, 1) := by decide +kernel
theorem zd_Mod_hour_51 : decode zb_Mod_hour 51 = .ok (.lconst 1, 1) := by decide +kernel
theorem zd_Mod_hour_52 : decode zb_Mod_hour 52 = .ok (.ldc2_w 152, 3) := by decide +kernel
theorem zd_Mod_hour_55 : decode zb_Mod_hour 55 = .ok (.invokestatic 53, 3) := by decide +kernel
theorem zd_Mod_hour_58 : decode zb_Mod_hour 58 = .ok (.ifCond .eq 23, 3) := by decide +kernel
theorem zd_Mod_hour_61 : decode zb_Mod_hour 61 = .ok (.aload_n 0, 1) := by decide +kernel
theorem zd_Mod_hour_62 : decode zb_Mod_hour 62 = .ok (.invokevirtual 154, 3) := by decide +kernel
theorem zd_Mod_hour_65 : decode zb_Mod_hour 65 = .ok (.bipush 12, 2) := by decide +kernel
theorem zd_Mod_hour_67 : decode zb_Mod_hour 67 = .ok (.irem, 1) := by decide +kernel
theorem zd_Mod_hour_68 : decode zb_Mod_hour 68 = .ok (.aload_n 0, 1) := by decide +kernel
theorem zd_Mod_hour_69 : decode zb_Mod_hour 69 = .ok (.getfield 136, 3) := by decide +kernel
theorem zd_Mod_hour_72 : decode zb_Mod_hour 72 = .ok (.if_icmp .ge 7, 3) := by decide +kernel
theorem zd_Mod_hour_75 : decode zb_Mod_hour 75 = .ok (.iconst 1, 1) := by decide +kernel
theorem zd_Mod_hour_76 : decode zb_Mod_hour 76 = .ok (.goto 4, 3) := by decide +kernel
theorem zd_Mod_hour_79 : decode zb_Mod_hour 79 = .ok (.iconst 0, 1) := by decide +kernel
theorem zd_Mod_hour_80 : decode zb_Mod_hour 80 = .ok (.istore_n 2, 1) := by decide +kernel
theorem zd_Mod_hour_81 : decode zb_Mod_hour 81 = .ok (.aload_n 0, 1) := by decide +kernel
theorem zd_Mod_hour_82 : decode zb_Mod_hour 82 = .ok (.getfield 139, 3) := by decide +kernel
theorem zd_Mod_hour_85 : decode zb_Mod_hour 85 = .ok (.ifCond .lt 21, 3) := by decide +kernel
theorem zd_Mod_hour_88 : decode zb_Mod_hour 88 = .ok (.aload_n 0, 1) := by decide +kernel
theorem zd_Mod_hour_89 : decode zb_Mod_hour 89 = .ok (.getfield 7, 3) := by decide +kernel
theorem zd_Mod_hour_92 : decode zb_Mod_hour 92 = .ok (.aload_n 0, 1) := by decide +kernel
theorem zd_Mod_hour_93 : decode zb_Mod_hour 93 = .ok (.getfield 139, 3) := by decide +kernel
theorem zd_Mod_hour_96 : decode zb_Mod_hour 96 = .ok (.bipush 8, 2) := by decide +kernel
theorem zd_Mod_hour_98 : decode zb_Mod_hour 98 = .ok (.invokestatic 70, 3) := by decide +kernel
theorem zd_Mod_hour_101 : decode zb_Mod_hour 101 = .ok (.dup2, 1) := by decide +kernel
theorem zd_Mod_hour_102 : decode zb_Mod_hour 102 = .ok (.iaload, 1) := by decide +kernel
theorem zd_Mod_hour_103 : decode zb_Mod_hour 103 = .ok (.iconst 1, 1) := by decide +kernel
theorem zd_Mod_hour_104 : decode zb_Mod_hour 104 = .ok (.iadd, 1) := by decide +kernel
theorem zd_Mod_hour_105 : decode zb_Mod_hour 105 = .ok (.iastore, 1) := by decide +kernel
theorem zd_Mod_hour_106 : decode zb_Mod_hour 106 = .ok (.aload_n 0, 1) := by decide +kernel
theorem zd_Mod_hour_107 : decode zb_Mod_hour 107 = .ok (.getfield 7, 3) := by decide +kernel
theorem zd_Mod_hour_110 : decode zb_Mod_hour 110 = .ok (.bipush 120, 2) := by decide +kernel
theorem zd_Mod_hour_112 : decode zb_Mod_hour 112 = .ok (.iload_n 1, 1) := by decide +kernel
theorem zd_Mod_hour_113 : decode zb_Mod_hour 113 = .ok (.iadd, 1) := by decide +kernel
theorem zd_Mod_hour_114 : decode zb_Mod_hour 114 = .ok (.iload_n 2, 1) := by decide +kernel
theorem zd_Mod_hour_115 : decode zb_Mod_hour 115 = .ok (.ifCond .eq 10, 3) := by decide +kernel
theorem zd_Mod_hour_118 : decode zb_Mod_hour 118 = .ok (.aload_n 0, 1) := by decide +kernel
theorem zd_Mod_hour_119 : decode zb_Mod_hour 119 = .ok (.getfield 129, 3) := by decide +kernel
theorem zd_Mod_hour_122 : decode zb_Mod_hour 122 = .ok (.goto 7, 3) := by decide +kernel
theorem zd_Mod_hour_125 : decode zb_Mod_hour 125 = .ok (.aload_n 0, 1) := by decide +kernel
theorem zd_Mod_hour_126 : decode zb_Mod_hour 126 = .ok (.getfield 133, 3) := by decide +kernel
theorem zd_Mod_hour_129 : decode zb_Mod_hour 129 = .ok (.iastore, 1) := by decide +kernel
theorem zd_Mod_hour_130 : decode zb_Mod_hour 130 = .ok (.iinc 1 1, 3) := by decide +kernel
theorem zd_Mod_hour_133 : decode zb_Mod_hour 133 = .ok (.goto (-131), 3) := by decide +kernel
theorem zd_Mod_hour_136 : decode zb_Mod_hour 136 = .ok (.aload_n 0, 1) := by decide +kernel
theorem zd_Mod_hour_137 : decode zb_Mod_hour 137 = .ok (.getfield 7, 3) := by decide +kernel
theorem zd_Mod_hour_140 : decode zb_Mod_hour 140 = .ok (.iconst 0, 1) := by decide +kernel
theorem zd_Mod_hour_141 : decode zb_Mod_hour 141 = .ok (.dup2, 1) := by decide +kernel
theorem zd_Mod_hour_142 : decode zb_Mod_hour 142 = .ok (.iaload, 1) := by decide +kernel
theorem zd_Mod_hour_143 : decode zb_Mod_hour 143 = .ok (.iconst 1, 1) := by decide +kernel
theorem zd_Mod_hour_144 : decode zb_Mod_hour 144 = .ok (.iadd, 1) := by decide +kernel
theorem zd_Mod_hour_145 : decode zb_Mod_hour 145 = .ok (.iastore, 1) := by decide +kernel
theorem zd_Mod_hour_146 : decode zb_Mod_hour 146 = .ok (.return_, 1) := by decide +kernel
set_option maxHeartbeats 4000000 in
theorem zl_Mod_hour_L129 {p : Program} {l : Launch} {e : Env} {s : State} {m : MethodId} {args : Array Value} {below : List Frame} {meth : Method} {c : Code} {D : va_G} {cA : Nat → ClassId} {ad : Nat → Nat} {A : Nat → Prop} (B : zu_B p s m args c zb_Mod_hour 3 "StonePostModel" D cA ad A) (hret : meth.sig.returnType = none) (hlk : meth.locks = false) {Y : LX} {res : IX} {k2 : Int32 → IX → Option IX} (hk2 : ∀ (x1 : Int32) (X : IX) (H : Heap) (locs : List Loc) (ls : Array Slot), va_P D zu_cl (zu_pic cA ad X Y) H → va_S A s.heap H locs → lv_has ls 3 [(0, .ref (ad 95)), (1, .int x1)] → k2 x1 X = some res → W p l e zR_Mod_hour s m args below meth c H locs 0 0 (MQ below (zu_Qv D cA ad A res Y) args s 0 0 A) (F0 m 2 ls [])) (x1 : Int32) (y0 : Int32) (y1 : Int32) (X : IX) (H : Heap) (locs : List Loc) (ls : Array Slot) (hP : va_P D zu_cl (zu_pic cA ad X Y) H) (hS : va_S A s.heap H locs) (hl : lv_has ls 3 [(0, .ref (ad 95)), (1, .int x1)]) (hf : fn_Mod_hour_L129 k2 x1 y0 y1 X = some res) : W p l e zR_Mod_hour s m args below meth c H locs 0 0 (MQ below (zu_Qv D cA ad A res Y) args s 0 0 A) (F0 m 129 ls [.int y0, .int y1, .ref (ad 96)]) := by
  obtain ⟨hx, hb, hml, hown, hts, hST⟩ := id B
  unfold fn_Mod_hour_L129 at hf
  obtain ⟨hg23, hf⟩ := zu_gd_e hf
  refine zr_iast rfl B hP hS hf rfl (by decide) rfl hg23 zd_Mod_hour_129 (fun X24 H locs hf hP hS => ?_)
  obtain ⟨v25, ev25, hf⟩ := zu_nx_e hf
  refine lv_iinc (v := v25) (lv' := [(1, .int v25), (0, .ref (ad 95))]) hx hb zd_Mod_hour_130 hl (k := 1) rfl (by rw [ev25]; rfl) (by decide) rfl (fun ls hl => ?_)
  clear ev25
  refine lv_goto (tgt := 2) hx hb zd_Mod_hour_133 (by decide) ?_
  exact hk2 v25 X24 _ _ _ hP hS (lv_sub hl [1, 0] rfl) hf
set_option maxHeartbeats 4000000 in
theorem zl_Mod_hour_L106 {p : Program} {l : Launch} {e : Env} {s : State} {m : MethodId} {args : Array Value} {below : List Frame} {meth : Method} {c : Code} {D : va_G} {cA : Nat → ClassId} {ad : Nat → Nat} {A : Nat → Prop} (B : zu_B p s m args c zb_Mod_hour 3 "StonePostModel" D cA ad A) (hret : meth.sig.returnType = none) (hlk : meth.locks = false) {Y : LX} {res : IX} {k2 : Int32 → IX → Option IX} (hk2 : ∀ (x1 : Int32) (X : IX) (H : Heap) (locs : List Loc) (ls : Array Slot), va_P D zu_cl (zu_pic cA ad X Y) H → va_S A s.heap H locs → lv_has ls 3 [(0, .ref (ad 95)), (1, .int x1)] → k2 x1 X = some res → W p l e zR_Mod_hour s m args below meth c H locs 0 0 (MQ below (zu_Qv D cA ad A res Y) args s 0 0 A) (F0 m 2 ls [])) (x1 : Int32) (x2 : Int32) (X : IX) (H : Heap) (locs : List Loc) (ls : Array Slot) (hP : va_P D zu_cl (zu_pic cA ad X Y) H) (hS : va_S A s.heap H locs) (hl : lv_has ls 3 [(0, .ref (ad 95)), (1, .int x1), (2, .int x2)]) (hf : fn_Mod_hour_L106 k2 x1 x2 X = some res) : W p l e zR_Mod_hour s m args below meth c H locs 0 0 (MQ below (zu_Qv D cA ad A res Y) args s 0 0 A) (F0 m 106 ls []) := by
  obtain ⟨hx, hb, hml, hown, hts, hST⟩ := id B
  unfold fn_Mod_hour_L106 at hf
  refine lv_aload_n hx hb zd_Mod_hour_106 rfl (lv_at hl 0 rfl) ?_
  refine zg_Mod_s B hP rfl zq_861 zd_Mod_hour_107 ?_
  refine lv_bipush (v := 120) hx hb zd_Mod_hour_110 (by decide) ?_
  refine lv_iload_n hx hb zd_Mod_hour_112 rfl (lv_at hl 1 rfl) ?_
  refine lv_iadd hx hb zd_Mod_hour_113 ?_
  refine lv_iload_n hx hb zd_Mod_hour_114 rfl (lv_at hl 2 rfl) ?_
  refine lv_if_eq (tgt := 125) hx hb zd_Mod_hour_115 (by decide) (fun c22 => ?_) (fun c22 => ?_)
  · have hf := zu_t c22 hf
    refine lv_aload_n hx hb zd_Mod_hour_125 rfl (lv_at hl 0 rfl) ?_
    refine zg_Mod_second B hP rfl zq_868 zd_Mod_hour_126 ?_
    exact zl_Mod_hour_L129 B hret hlk hk2 x1 (X 95 7) ((120 : Int32) + x1) X _ _ _ hP hS (lv_sub hl [0, 1] rfl) hf
  · have hf := zu_f c22 hf
    refine lv_aload_n hx hb zd_Mod_hour_118 rfl (lv_at hl 0 rfl) ?_
    refine zg_Mod_first B hP rfl zq_866 zd_Mod_hour_119 ?_
    refine lv_goto (tgt := 129) hx hb zd_Mod_hour_122 (by decide) ?_
    exact zl_Mod_hour_L129 B hret hlk hk2 x1 (X 95 5) ((120 : Int32) + x1) X _ _ _ hP hS (lv_sub hl [0, 1] rfl) hf
set_option maxHeartbeats 4000000 in
theorem zl_Mod_hour_L81 {p : Program} {l : Launch} {e : Env} {s : State} {m : MethodId} {args : Array Value} {below : List Frame} {meth : Method} {c : Code} {D : va_G} {cA : Nat → ClassId} {ad : Nat → Nat} {A : Nat → Prop} (B : zu_B p s m args c zb_Mod_hour 3 "StonePostModel" D cA ad A) (hret : meth.sig.returnType = none) (hlk : meth.locks = false) {Y : LX} {res : IX} {k2 : Int32 → IX → Option IX} (hk2 : ∀ (x1 : Int32) (X : IX) (H : Heap) (locs : List Loc) (ls : Array Slot), va_P D zu_cl (zu_pic cA ad X Y) H → va_S A s.heap H locs → lv_has ls 3 [(0, .ref (ad 95)), (1, .int x1)] → k2 x1 X = some res → W p l e zR_Mod_hour s m args below meth c H locs 0 0 (MQ below (zu_Qv D cA ad A res Y) args s 0 0 A) (F0 m 2 ls [])) (x1 : Int32) (x2 : Int32) (X : IX) (H : Heap) (locs : List Loc) (ls : Array Slot) (hP : va_P D zu_cl (zu_pic cA ad X Y) H) (hS : va_S A s.heap H locs) (hl : lv_has ls 3 [(0, .ref (ad 95)), (1, .int x1), (2, .int x2)]) (hf : fn_Mod_hour_L81 k2 x1 x2 X = some res) : W p l e zR_Mod_hour s m args below meth c H locs 0 0 (MQ below (zu_Qv D cA ad A res Y) args s 0 0 A) (F0 m 81 ls []) := by
  obtain ⟨hx, hb, hml, hown, hts, hST⟩ := id B
  unfold fn_Mod_hour_L81 at hf
  refine lv_aload_n hx hb zd_Mod_hour_81 rfl (lv_at hl 0 rfl) ?_
  refine zg_Mod_throwing B hP rfl zq_869 zd_Mod_hour_82 ?_
  refine lv_if_lt (tgt := 106) hx hb zd_Mod_hour_85 (by decide) (fun c16 => ?_) (fun c16 => ?_)
  · have hf := zu_t c16 hf
    exact zl_Mod_hour_L106 B hret hlk hk2 x1 x2 X _ _ _ hP hS (lv_sub hl [0, 1, 2] rfl) hf
  · have hf := zu_f c16 hf
    refine lv_aload_n hx hb zd_Mod_hour_88 rfl (lv_at hl 0 rfl) ?_
    refine zg_Mod_s B hP rfl zq_861 zd_Mod_hour_89 ?_
    refine lv_aload_n hx hb zd_Mod_hour_92 rfl (lv_at hl 0 rfl) ?_
    refine zg_Mod_throwing B hP rfl zq_869 zd_Mod_hour_93 ?_
    refine lv_bipush (v := 8) hx hb zd_Mod_hour_96 (by decide) ?_
    obtain ⟨v17, ehq18, hf⟩ := zu_nx_e hf
    have hq18 := ehq18.symm
    refine zw_Mod_at (rest := [.ref (ad 96)]) B hP hS hq18 zq_966 (Nat.le_of_ble_eq_true rfl) (Nat.le_of_ble_eq_true rfl) hl.1 rfl (Nat.le_of_ble_eq_true rfl) zd_Mod_hour_98 (by decide) (fun H locs hP hS => ?_)
    clear hq18 ehq18
    refine lv_dup2_11 hx hb zd_Mod_hour_101 rfl rfl ?_
    obtain ⟨hg19, hf⟩ := zu_gd_e hf
    refine zr_iald rfl B hP rfl (by decide) rfl hg19 zd_Mod_hour_102 ?_
    refine lv_iconst (v := 1) hx hb zd_Mod_hour_103 (by decide) ?_
    refine lv_iadd hx hb zd_Mod_hour_104 ?_
    obtain ⟨hg20, hf⟩ := zu_gd_e hf
    refine zr_iast rfl B hP hS hf rfl (by decide) rfl hg20 zd_Mod_hour_105 (fun X21 H locs hf hP hS => ?_)
    exact zl_Mod_hour_L106 B hret hlk hk2 x1 x2 X21 _ _ _ hP hS (lv_sub hl [0, 1, 2] rfl) hf
set_option maxHeartbeats 4000000 in
theorem zl_Mod_hour_L80 {p : Program} {l : Launch} {e : Env} {s : State} {m : MethodId} {args : Array Value} {below : List Frame} {meth : Method} {c : Code} {D : va_G} {cA : Nat → ClassId} {ad : Nat → Nat} {A : Nat → Prop} (B : zu_B p s m args c zb_Mod_hour 3 "StonePostModel" D cA ad A) (hret : meth.sig.returnType = none) (hlk : meth.locks = false) {Y : LX} {res : IX} {k2 : Int32 → IX → Option IX} (hk2 : ∀ (x1 : Int32) (X : IX) (H : Heap) (locs : List Loc) (ls : Array Slot), va_P D zu_cl (zu_pic cA ad X Y) H → va_S A s.heap H locs → lv_has ls 3 [(0, .ref (ad 95)), (1, .int x1)] → k2 x1 X = some res → W p l e zR_Mod_hour s m args below meth c H locs 0 0 (MQ below (zu_Qv D cA ad A res Y) args s 0 0 A) (F0 m 2 ls [])) (x1 : Int32) (y0 : Int32) (X : IX) (H : Heap) (locs : List Loc) (ls : Array Slot) (hP : va_P D zu_cl (zu_pic cA ad X Y) H) (hS : va_S A s.heap H locs) (hl : lv_has ls 3 [(0, .ref (ad 95)), (1, .int x1)]) (hf : fn_Mod_hour_L80 k2 x1 y0 X = some res) : W p l e zR_Mod_hour s m args below meth c H locs 0 0 (MQ below (zu_Qv D cA ad A res Y) args s 0 0 A) (F0 m 80 ls [.int y0]) := by
  obtain ⟨hx, hb, hml, hown, hts, hST⟩ := id B
  unfold fn_Mod_hour_L80 at hf
  refine lv_istore_n (lv' := [(2, .int y0), (0, .ref (ad 95)), (1, .int x1)]) hx hb zd_Mod_hour_80 rfl hl (by decide) rfl (fun ls hl => ?_)
  exact zl_Mod_hour_L81 B hret hlk hk2 x1 y0 X _ _ _ hP hS (lv_sub hl [1, 2, 0] rfl) hf
set_option maxHeartbeats 4000000 in
theorem zl_Mod_hour_L45 {p : Program} {l : Launch} {e : Env} {s : State} {m : MethodId} {args : Array Value} {below : List Frame} {meth : Method} {c : Code} {D : va_G} {cA : Nat → ClassId} {ad : Nat → Nat} {A : Nat → Prop} (B : zu_B p s m args c zb_Mod_hour 3 "StonePostModel" D cA ad A) (hret : meth.sig.returnType = none) (hlk : meth.locks = false) {Y : LX} {res : IX} {k2 : Int32 → IX → Option IX} (hk2 : ∀ (x1 : Int32) (X : IX) (H : Heap) (locs : List Loc) (ls : Array Slot), va_P D zu_cl (zu_pic cA ad X Y) H → va_S A s.heap H locs → lv_has ls 3 [(0, .ref (ad 95)), (1, .int x1)] → k2 x1 X = some res → W p l e zR_Mod_hour s m args below meth c H locs 0 0 (MQ below (zu_Qv D cA ad A res Y) args s 0 0 A) (F0 m 2 ls [])) (x1 : Int32) (y0 : Int32) (X : IX) (H : Heap) (locs : List Loc) (ls : Array Slot) (hP : va_P D zu_cl (zu_pic cA ad X Y) H) (hS : va_S A s.heap H locs) (hl : lv_has ls 3 [(0, .ref (ad 95)), (1, .int x1)]) (hf : fn_Mod_hour_L45 k2 x1 y0 X = some res) : W p l e zR_Mod_hour s m args below meth c H locs 0 0 (MQ below (zu_Qv D cA ad A res Y) args s 0 0 A) (F0 m 45 ls [.int y0]) := by
  obtain ⟨hx, hb, hml, hown, hts, hST⟩ := id B
  unfold fn_Mod_hour_L45 at hf
  refine lv_istore_n (lv' := [(2, .int y0), (0, .ref (ad 95)), (1, .int x1)]) hx hb zd_Mod_hour_45 rfl hl (by decide) rfl (fun ls hl => ?_)
  refine lv_aload_n hx hb zd_Mod_hour_46 rfl (lv_at hl 1 rfl) ?_
  refine zg_Mod_twelfths B hP rfl zq_867 zd_Mod_hour_47 ?_
  refine lv_i2l hx hb zd_Mod_hour_50 rfl ?_
  refine lv_lconst (v := 1) hx hb zd_Mod_hour_51 (by decide) ?_
  refine lv_ldc2 (v := 11) hx hb hown (hts _ zq_1079) zd_Mod_hour_52 ?_
  obtain ⟨v9, hq10, hf⟩ := zu_b1_e hf
  refine zw_Mod_in (rest := []) B hP hS hq10 zq_939 (Nat.le_of_ble_eq_true rfl) (Nat.le_of_ble_eq_true rfl) hl.1 rfl (Nat.le_of_ble_eq_true rfl) zd_Mod_hour_55 (by decide) (fun H locs hP hS => ?_)
  clear hq10
  refine lv_if_eq (tgt := 81) hx hb zd_Mod_hour_58 (by decide) (fun c11 => ?_) (fun c11 => ?_)
  · have hf := zu_t c11 hf
    exact zl_Mod_hour_L81 B hret hlk hk2 x1 y0 X _ _ _ hP hS (lv_sub hl [1, 2, 0] rfl) hf
  · have hf := zu_f c11 hf
    refine lv_aload_n hx hb zd_Mod_hour_61 rfl (lv_at hl 1 rfl) ?_
    obtain ⟨v12, X13, hq14, hf⟩ := zu_b2_e hf
    refine zw_Mod_draw (rest := []) B hP hS hq14 zq_1080 (Nat.le_of_ble_eq_true rfl) (Nat.le_of_ble_eq_true rfl) hl.1 rfl (Nat.le_of_ble_eq_true rfl) zd_Mod_hour_62 (by decide) (fun H locs hP hS => ?_)
    clear hq14
    refine lv_bipush (v := 12) hx hb zd_Mod_hour_65 (by decide) ?_
    refine lv_irem hx hb zd_Mod_hour_67 (by decide) ?_
    refine lv_aload_n hx hb zd_Mod_hour_68 rfl (lv_at hl 1 rfl) ?_
    refine zg_Mod_twelfths B hP rfl zq_867 zd_Mod_hour_69 ?_
    refine lv_icmp_ge (tgt := 79) hx hb zd_Mod_hour_72 (by decide) (fun c15 => ?_) (fun c15 => ?_)
    · have hf := zu_t c15 hf
      refine lv_iconst (v := 0) hx hb zd_Mod_hour_79 (by decide) ?_
      exact zl_Mod_hour_L80 B hret hlk hk2 x1 (0 : Int32) X13 _ _ _ hP hS (lv_sub hl [1, 2] rfl) hf
    · have hf := zu_f c15 hf
      refine lv_iconst (v := 1) hx hb zd_Mod_hour_75 (by decide) ?_
      refine lv_goto (tgt := 80) hx hb zd_Mod_hour_76 (by decide) ?_
      exact zl_Mod_hour_L80 B hret hlk hk2 x1 (1 : Int32) X13 _ _ _ hP hS (lv_sub hl [1, 2] rfl) hf
set_option maxHeartbeats 4000000 in
theorem zl_Mod_hour_B2 {p : Program} {l : Launch} {e : Env} {s : State} {m : MethodId} {args : Array Value} {below : List Frame} {meth : Method} {c : Code} {D : va_G} {cA : Nat → ClassId} {ad : Nat → Nat} {A : Nat → Prop} (B : zu_B p s m args c zb_Mod_hour 3 "StonePostModel" D cA ad A) (hret : meth.sig.returnType = none) (hlk : meth.locks = false) {Y : LX} {res : IX} {k2 : Int32 → IX → Option IX} (hk2 : ∀ (x1 : Int32) (X : IX) (H : Heap) (locs : List Loc) (ls : Array Slot), va_P D zu_cl (zu_pic cA ad X Y) H → va_S A s.heap H locs → lv_has ls 3 [(0, .ref (ad 95)), (1, .int x1)] → k2 x1 X = some res → W p l e zR_Mod_hour s m args below meth c H locs 0 0 (MQ below (zu_Qv D cA ad A res Y) args s 0 0 A) (F0 m 2 ls [])) (x1 : Int32) (X : IX) (H : Heap) (locs : List Loc) (ls : Array Slot) (hP : va_P D zu_cl (zu_pic cA ad X Y) H) (hS : va_S A s.heap H locs) (hl : lv_has ls 3 [(0, .ref (ad 95)), (1, .int x1)]) (hf : fn_Mod_hour_B2 k2 x1 X = some res) : W p l e zR_Mod_hour s m args below meth c H locs 0 0 (MQ below (zu_Qv D cA ad A res Y) args s 0 0 A) (F0 m 2 ls []) := by
  obtain ⟨hx, hb, hml, hown, hts, hST⟩ := id B
  unfold fn_Mod_hour_B2 at hf
  refine lv_iload_n hx hb zd_Mod_hour_2 rfl (lv_at hl 1 rfl) ?_
  refine lv_aload_n hx hb zd_Mod_hour_3 rfl (lv_at hl 0 rfl) ?_
  refine zg_Mod_s B hP rfl zq_861 zd_Mod_hour_4 ?_
  refine lv_iconst (v := 2) hx hb zd_Mod_hour_7 (by decide) ?_
  refine zr_iald (j := 2) (by decide) B hP rfl (by decide) rfl (by decide) zd_Mod_hour_8 ?_
  refine lv_icmp_ge (tgt := 136) hx hb zd_Mod_hour_9 (by decide) (fun c1 => ?_) (fun c1 => ?_)
  · have hf := zu_t c1 hf
    refine lv_aload_n hx hb zd_Mod_hour_136 rfl (lv_at hl 0 rfl) ?_
    refine zg_Mod_s B hP rfl zq_861 zd_Mod_hour_137 ?_
    refine lv_iconst (v := 0) hx hb zd_Mod_hour_140 (by decide) ?_
    refine lv_dup2_11 hx hb zd_Mod_hour_141 rfl rfl ?_
    refine zr_iald (j := 0) (by decide) B hP rfl (by decide) rfl (by decide) zd_Mod_hour_142 ?_
    refine lv_iconst (v := 1) hx hb zd_Mod_hour_143 (by decide) ?_
    refine lv_iadd hx hb zd_Mod_hour_144 ?_
    refine zr_iast (j := 0) (by decide) B hP hS hf rfl (by decide) rfl (by decide) zd_Mod_hour_145 (fun X2 H locs hf hP hS => ?_)
    obtain rfl := Option.some.inj hf
    exact zr_vret hx hb hret hlk hP hS zd_Mod_hour_146
  · have hf := zu_f c1 hf
    refine lv_aload_n hx hb zd_Mod_hour_12 rfl (lv_at hl 0 rfl) ?_
    refine lv_aload_n hx hb zd_Mod_hour_13 rfl (lv_at hl 0 rfl) ?_
    refine zg_Mod_s B hP rfl zq_861 zd_Mod_hour_14 ?_
    refine lv_bipush (v := 120) hx hb zd_Mod_hour_17 (by decide) ?_
    refine lv_iload_n hx hb zd_Mod_hour_19 rfl (lv_at hl 1 rfl) ?_
    refine lv_iadd hx hb zd_Mod_hour_20 ?_
    obtain ⟨hg3, hf⟩ := zu_gd_e hf
    refine zr_iald rfl B hP rfl (by decide) rfl hg3 zd_Mod_hour_21 ?_
    refine lv_aload_n hx hb zd_Mod_hour_22 rfl (lv_at hl 0 rfl) ?_
    refine lv_iconst (v := 0) hx hb zd_Mod_hour_23 (by decide) ?_
    obtain ⟨v4, ehq5, hf⟩ := zu_nx_e hf
    have hq5 := ehq5.symm
    refine zw_Mod_clockIn (rest := [.int (X 96 (((120 : Int32) + x1).toNatClampNeg)), .ref (ad 95)]) B hP hS hq5 zq_1071 (Nat.le_of_ble_eq_true rfl) (Nat.le_of_ble_eq_true rfl) hl.1 rfl (Nat.le_of_ble_eq_true rfl) zd_Mod_hour_24 (by decide) (fun H locs hP hS => ?_)
    clear hq5 ehq5
    refine lv_iconst (v := -1) hx hb zd_Mod_hour_27 (by decide) ?_
    obtain ⟨X6, hq7, hf⟩ := zu_b1_e hf
    refine zw_Mod_goes (rest := []) B hP hS hq7 zq_1075 (Nat.le_of_ble_eq_true rfl) (Nat.le_of_ble_eq_true rfl) hl.1 rfl (Nat.le_of_ble_eq_true rfl) zd_Mod_hour_28 (by decide) (fun H locs hP hS => ?_)
    clear hq7
    refine lv_aload_n hx hb zd_Mod_hour_31 rfl (lv_at hl 0 rfl) ?_
    refine zg_Mod_twelfths B hP rfl zq_867 zd_Mod_hour_32 ?_
    refine lv_bipush (v := 12) hx hb zd_Mod_hour_35 (by decide) ?_
    refine lv_icmp_ne (tgt := 44) hx hb zd_Mod_hour_37 (by decide) (fun c8 => ?_) (fun c8 => ?_)
    · have hf := zu_f c8 hf
      refine lv_iconst (v := 0) hx hb zd_Mod_hour_44 (by decide) ?_
      exact zl_Mod_hour_L45 B hret hlk hk2 x1 (0 : Int32) X6 _ _ _ hP hS (lv_sub hl [0, 1] rfl) hf
    · have hf := zu_t c8 hf
      refine lv_iconst (v := 1) hx hb zd_Mod_hour_40 (by decide) ?_
      refine lv_goto (tgt := 45) hx hb zd_Mod_hour_41 (by decide) ?_
      exact zl_Mod_hour_L45 B hret hlk hk2 x1 (1 : Int32) X6 _ _ _ hP hS (lv_sub hl [0, 1] rfl) hf
theorem zl_Mod_hour_L2 {p : Program} {l : Launch} {e : Env} {s : State} {m : MethodId} {args : Array Value} {below : List Frame} {meth : Method} {c : Code} {D : va_G} {cA : Nat → ClassId} {ad : Nat → Nat} {A : Nat → Prop} (B : zu_B p s m args c zb_Mod_hour 3 "StonePostModel" D cA ad A) (hret : meth.sig.returnType = none) (hlk : meth.locks = false) {Y : LX} {res : IX} : ∀ (n : Nat) (x1 : Int32) (X : IX) (H : Heap) (locs : List Loc) (ls : Array Slot), va_P D zu_cl (zu_pic cA ad X Y) H → va_S A s.heap H locs → lv_has ls 3 [(0, .ref (ad 95)), (1, .int x1)] → fn_Mod_hour_L2 n x1 X = some res → W p l e zR_Mod_hour s m args below meth c H locs 0 0 (MQ below (zu_Qv D cA ad A res Y) args s 0 0 A) (F0 m 2 ls []) := by
  intro n
  induction n with
  | zero =>
    intro x1 X H locs ls hP hS hl hf
    exact (Option.some_ne_none _ hf.symm).elim
  | succ n ih =>
    intro x1 X H locs ls hP hS hl hf
    exact zl_Mod_hour_B2 B hret hlk ih x1 X H locs ls hP hS hl  hf
set_option maxHeartbeats 4000000 in
theorem zl_Mod_hour {p : Program} {l : Launch} {e : Env} {s : State} {m : MethodId} {args : Array Value} {below : List Frame} {meth : Method} {c : Code} {D : va_G} {cA : Nat → ClassId} {ad : Nat → Nat} {A : Nat → Prop} (B : zu_B p s m args c zb_Mod_hour 3 "StonePostModel" D cA ad A) (hret : meth.sig.returnType = none) (hlk : meth.locks = false) {Y : LX} {res : IX} {X : IX} (H : Heap) (locs : List Loc) (ls : Array Slot) (hP : va_P D zu_cl (zu_pic cA ad X Y) H) (hS : va_S A s.heap H locs) (hl : lv_has ls 3 [(0, .ref (ad 95))]) (hf : fn_Mod_hour X = some res) : W p l e zR_Mod_hour s m args below meth c H locs 0 0 (MQ below (zu_Qv D cA ad A res Y) args s 0 0 A) (F0 m 0 ls []) := by
  obtain ⟨hx, hb, hml, hown, hts, hST⟩ := id B
  unfold fn_Mod_hour at hf
  refine lv_iconst (v := 0) hx hb zd_Mod_hour_0 (by decide) ?_
  refine lv_istore_n (lv' := [(1, .int (0 : Int32)), (0, .ref (ad 95))]) hx hb zd_Mod_hour_1 rfl hl (by decide) rfl (fun ls hl => ?_)
  exact zl_Mod_hour_L2 B hret hlk 400 (0 : Int32) X _ _ _ hP hS (lv_sub hl [1, 0] rfl) hf
theorem zC_Mod_hour (l : Launch) {D : va_G} {cA : Nat → ClassId} {ad : Nat → Nat} {A : Nat → Prop} {X : IX} {Y : LX} {res : IX} (hf : fn_Mod_hour X = some res) : Met l zm_Mod_hour (zu_ws zm_Mod_hour zb_Mod_hour 3 none) zR_Mod_hour (va_Pc [.ref (ad 95)] (zu_Pre D cA ad A X Y)) (zu_Qv D cA ad A res Y) 0 0 A := by
  refine Met.ofW (cc := zb_Mod_hour) (maxL := 3) (ret := none) (by decide +kernel) rfl ?_
  intro p e s m args below meth c s₁ B0 hml hv
  obtain ⟨rfl, hP, hST⟩ := hv
  have B : zu_B p s m _ c zb_Mod_hour 3 "StonePostModel" D cA ad A := ⟨B0.exec, B0.bytes, hml, findClass_of_methodNamed B0.named, (fun w hw => atoms_spec (ws := zu_ws zm_Mod_hour zb_Mod_hour 3 none) B0.pre w (List.mem_cons_of_mem _ hw)), hST⟩
  have hl := lv_entry ([.ref (ad 95)]) (n := 3) (Nat.le_of_ble_eq_true rfl)
  rw [lg_entry_eq]
  generalize (lg_sl ([.ref (ad 95)]) ++ List.replicate (3 - (lg_sl ([.ref (ad 95)])).length) Slot.unset).toArray = ls at hl ⊢
  exact zl_Mod_hour B B0.returns B0.notSynchronized s.heap [] ls hP va_S.rf hl  hf
theorem zw_Mod_hour {p : Program} {l : Launch} {e : Env} {R : Room} {s : State} {m : MethodId} {args : Array Value} {below : List Frame} {meth : Method} {c : Code} {H : Heap} {locs : List Loc} {cells slots : Nat} {Q : State → Prop} {cc : ByteArray} {pc nL : Nat} {ls : Array Slot} {rest st0 : List Value} {D : va_G} {cA : Nat → ClassId} {ad : Nat → Nat} {A : Nat → Prop} {X : IX} {Y : LX} {own : String} {index : Nat} {X1 : IX} (B : zu_B p s m args c cc nL own D cA ad A) (hP : va_P D zu_cl (zu_pic cA ad X Y) H) (hS : va_S A s.heap H locs) (hq : fn_Mod_hour X = some X1) (m1 : Cond.methodLink own index zm_Mod_hour ∈ zu_TB) (hR1 : 5 + 1 ≤ R.frames) (hR2 : 8 + (3 + 11) + 119 ≤ R.locals) (hsz : ls.size = nL) (hst : st0 = .ref (ad 95) :: rest) (hw : (rest.map fun v => v.category).sum ≤ 8) (hdg : decode cc pc = .ok (.invokevirtual index, 3)) (h00 : cells ≤ R.cells ∧ slots ≤ R.slots) (kk : ∀ (H1 : Heap) (locs1 : List Loc), va_P D zu_cl (zu_pic cA ad X1 Y) H1 → va_S A s.heap H1 locs1 → W p l e R s m args below meth c H1 locs1 cells slots Q (F0 m (pc + 3) ls (rest))) : W p l e R s m args below meth c H locs cells slots Q (F0 m pc ls st0) := by
  subst hst
  exact zr_cVv (As := []) (rest := rest) (n := 0) (C := "StonePostModel") (T := zt_Mod) (N := 23) B hP hS (zC_Mod_hour l  hq) (K := 7) rfl (by decide) (by decide) rfl rfl m1 zq_1069 zqP_33 zq_8 zq_1070 (by decide +kernel) ⟨hR1, hR2⟩ rfl rfl rfl hsz rfl hw hdg h00 kk
abbrev zR_Mod_lettersHome : Room := { frames := 0, cells := 0, slots := 0, locals := 0 }
theorem zd_Mod_lettersHome_0 : decode zb_Mod_lettersHome 0 = .ok (.iconst 0, 1) := by decide +kernel
theorem zd_Mod_lettersHome_1 : decode zb_Mod_lettersHome 1 = .ok (.istore_n 1, 1) := by decide +kernel
theorem zd_Mod_lettersHome_2 : decode zb_Mod_lettersHome 2 = .ok (.iconst 0, 1) := by decide +kernel
theorem zd_Mod_lettersHome_3 : decode zb_Mod_lettersHome 3 = .ok (.istore_n 2, 1) := by decide +kernel
theorem zd_Mod_lettersHome_4 : decode zb_Mod_lettersHome 4 = .ok (.iload_n 2, 1) := by decide +kernel
theorem zd_Mod_lettersHome_5 : decode zb_Mod_lettersHome 5 = .ok (.aload_n 0, 1) := by decide +kernel
theorem zd_Mod_lettersHome_6 : decode zb_Mod_lettersHome 6 = .ok (.getfield 7, 3) := by decide +kernel
theorem zd_Mod_lettersHome_9 : decode zb_Mod_lettersHome 9 = .ok (.iconst 2, 1) := by decide +kernel
theorem zd_Mod_lettersHome_10 : decode zb_Mod_lettersHome 10 = .ok (.iaload, 1) := by decide +kernel
theorem zd_Mod_lettersHome_11 : decode zb_Mod_lettersHome 11 = .ok (.if_icmp .ge 35, 3) := by decide +kernel
theorem zd_Mod_lettersHome_14 : decode zb_Mod_lettersHome 14 = .ok (.iload_n 1, 1) := by decide +kernel
theorem zd_Mod_lettersHome_15 : decode zb_Mod_lettersHome 15 = .ok (.aload_n 0, 1) := by decide +kernel
theorem zd_Mod_lettersHome_16 : decode zb_Mod_lettersHome 16 = .ok (.getfield 7, 3) := by decide +kernel
theorem zd_Mod_lettersHome_19 : decode zb_Mod_lettersHome 19 = .ok (.bipush 120, 2) := by decide +kernel
theorem zd_Mod_lettersHome_21 : decode zb_Mod_lettersHome 21 = .ok (.iload_n 2, 1) := by decide +kernel
theorem zd_Mod_lettersHome_22 : decode zb_Mod_lettersHome 22 = .ok (.iadd, 1) := by decide +kernel
theorem zd_Mod_lettersHome_23 : decode zb_Mod_lettersHome 23 = .ok (.iaload, 1) := by decide +kernel
theorem zd_Mod_lettersHome_24 : decode zb_Mod_lettersHome 24 = .ok (.aload_n 0, 1) := by decide +kernel
theorem zd_Mod_lettersHome_25 : decode zb_Mod_lettersHome 25 = .ok (.getfield 7, 3) := by decide +kernel
theorem zd_Mod_lettersHome_28 : decode zb_Mod_lettersHome 28 = .ok (.iconst 3, 1) := by decide +kernel
theorem zd_Mod_lettersHome_29 : decode zb_Mod_lettersHome 29 = .ok (.iaload, 1) := by decide +kernel
theorem zd_Mod_lettersHome_30 : decode zb_Mod_lettersHome 30 = .ok (.if_icmp .ne 7, 3) := by decide +kernel
theorem zd_Mod_lettersHome_33 : decode zb_Mod_lettersHome 33 = .ok (.iconst 1, 1) := by decide +kernel
theorem zd_Mod_lettersHome_34 : decode zb_Mod_lettersHome 34 = .ok (.goto 4, 3) := by decide +kernel
theorem zd_Mod_lettersHome_37 : decode zb_Mod_lettersHome 37 = .ok (.iconst 0, 1) := by decide +kernel
theorem zd_Mod_lettersHome_38 : decode zb_Mod_lettersHome 38 = .ok (.iadd, 1) := by decide +kernel
theorem zd_Mod_lettersHome_39 : decode zb_Mod_lettersHome 39 = .ok (.istore_n 1, 1) := by decide +kernel
theorem zd_Mod_lettersHome_40 : decode zb_Mod_lettersHome 40 = .ok (.iinc 2 1, 3) := by decide +kernel
theorem zd_Mod_lettersHome_43 : decode zb_Mod_lettersHome 43 = .ok (.goto (-39), 3) := by decide +kernel
theorem zd_Mod_lettersHome_46 : decode zb_Mod_lettersHome 46 = .ok (.iload_n 1, 1) := by decide +kernel
theorem zd_Mod_lettersHome_47 : decode zb_Mod_lettersHome 47 = .ok (.ireturn, 1) := by decide +kernel
set_option maxHeartbeats 4000000 in
theorem zl_Mod_lettersHome_L38 {p : Program} {l : Launch} {e : Env} {s : State} {m : MethodId} {args : Array Value} {below : List Frame} {meth : Method} {c : Code} {D : va_G} {cA : Nat → ClassId} {ad : Nat → Nat} {A : Nat → Prop} (B : zu_B p s m args c zb_Mod_lettersHome 3 "StonePostModel" D cA ad A) (hret : meth.sig.returnType = (some .int)) (hlk : meth.locks = false) {X : IX} {Y : LX} {res : Int32} {k4 : Int32 → Int32 → Option Int32} (hk4 : ∀ (x1 : Int32) (x2 : Int32) (H : Heap) (locs : List Loc) (ls : Array Slot), va_P D zu_cl (zu_pic cA ad X Y) H → va_S A s.heap H locs → lv_has ls 3 [(0, .ref (ad 95)), (1, .int x1), (2, .int x2)] → k4 x1 x2 = some res → W p l e zR_Mod_lettersHome s m args below meth c H locs 0 0 (MQ below (zu_Qi D cA ad A res X Y) args s 0 0 A) (F0 m 4 ls [])) (x2 : Int32) (y0 : Int32) (y1 : Int32) (H : Heap) (locs : List Loc) (ls : Array Slot) (hP : va_P D zu_cl (zu_pic cA ad X Y) H) (hS : va_S A s.heap H locs) (hl : lv_has ls 3 [(0, .ref (ad 95)), (2, .int x2)]) (hf : fn_Mod_lettersHome_L38 X k4 x2 y0 y1 = some res) : W p l e zR_Mod_lettersHome s m args below meth c H locs 0 0 (MQ below (zu_Qi D cA ad A res X Y) args s 0 0 A) (F0 m 38 ls [.int y0, .int y1]) := by
  obtain ⟨hx, hb, hml, hown, hts, hST⟩ := id B
  unfold fn_Mod_lettersHome_L38 at hf
  refine lv_iadd hx hb zd_Mod_lettersHome_38 ?_
  refine zr_nxi hf (fun v4 hf => ?_)
  refine lv_istore_n (lv' := [(1, .int v4), (0, .ref (ad 95)), (2, .int x2)]) hx hb zd_Mod_lettersHome_39 rfl hl (by decide) rfl (fun ls hl => ?_)
  obtain ⟨v5, ev5, hf⟩ := zu_nx_e hf
  refine lv_iinc (v := v5) (lv' := [(2, .int v5), (1, .int v4), (0, .ref (ad 95))]) hx hb zd_Mod_lettersHome_40 hl (k := 2) rfl (by rw [ev5]; rfl) (by decide) rfl (fun ls hl => ?_)
  clear ev5
  refine lv_goto (tgt := 4) hx hb zd_Mod_lettersHome_43 (by decide) ?_
  exact hk4 v4 v5 _ _ _ hP hS (lv_sub hl [2, 1, 0] rfl) hf
set_option maxHeartbeats 4000000 in
theorem zl_Mod_lettersHome_B4 {p : Program} {l : Launch} {e : Env} {s : State} {m : MethodId} {args : Array Value} {below : List Frame} {meth : Method} {c : Code} {D : va_G} {cA : Nat → ClassId} {ad : Nat → Nat} {A : Nat → Prop} (B : zu_B p s m args c zb_Mod_lettersHome 3 "StonePostModel" D cA ad A) (hret : meth.sig.returnType = (some .int)) (hlk : meth.locks = false) {X : IX} {Y : LX} {res : Int32} {k4 : Int32 → Int32 → Option Int32} (hk4 : ∀ (x1 : Int32) (x2 : Int32) (H : Heap) (locs : List Loc) (ls : Array Slot), va_P D zu_cl (zu_pic cA ad X Y) H → va_S A s.heap H locs → lv_has ls 3 [(0, .ref (ad 95)), (1, .int x1), (2, .int x2)] → k4 x1 x2 = some res → W p l e zR_Mod_lettersHome s m args below meth c H locs 0 0 (MQ below (zu_Qi D cA ad A res X Y) args s 0 0 A) (F0 m 4 ls [])) (x1 : Int32) (x2 : Int32) (H : Heap) (locs : List Loc) (ls : Array Slot) (hP : va_P D zu_cl (zu_pic cA ad X Y) H) (hS : va_S A s.heap H locs) (hl : lv_has ls 3 [(0, .ref (ad 95)), (1, .int x1), (2, .int x2)]) (hf : fn_Mod_lettersHome_B4 X k4 x1 x2 = some res) : W p l e zR_Mod_lettersHome s m args below meth c H locs 0 0 (MQ below (zu_Qi D cA ad A res X Y) args s 0 0 A) (F0 m 4 ls []) := by
  obtain ⟨hx, hb, hml, hown, hts, hST⟩ := id B
  unfold fn_Mod_lettersHome_B4 at hf
  refine lv_iload_n hx hb zd_Mod_lettersHome_4 rfl (lv_at hl 2 rfl) ?_
  refine lv_aload_n hx hb zd_Mod_lettersHome_5 rfl (lv_at hl 0 rfl) ?_
  refine zg_Mod_s B hP rfl zq_861 zd_Mod_lettersHome_6 ?_
  refine lv_iconst (v := 2) hx hb zd_Mod_lettersHome_9 (by decide) ?_
  refine zr_iald (j := 2) (by decide) B hP rfl (by decide) rfl (by decide) zd_Mod_lettersHome_10 ?_
  refine lv_icmp_ge (tgt := 46) hx hb zd_Mod_lettersHome_11 (by decide) (fun c1 => ?_) (fun c1 => ?_)
  · have hf := zu_t c1 hf
    refine lv_iload_n hx hb zd_Mod_lettersHome_46 rfl (lv_at hl 1 rfl) ?_
    obtain rfl := Option.some.inj hf
    exact zr_iret hx hb hret hlk hP hS zd_Mod_lettersHome_47
  · have hf := zu_f c1 hf
    refine lv_iload_n hx hb zd_Mod_lettersHome_14 rfl (lv_at hl 1 rfl) ?_
    refine lv_aload_n hx hb zd_Mod_lettersHome_15 rfl (lv_at hl 0 rfl) ?_
    refine zg_Mod_s B hP rfl zq_861 zd_Mod_lettersHome_16 ?_
    refine lv_bipush (v := 120) hx hb zd_Mod_lettersHome_19 (by decide) ?_
    refine lv_iload_n hx hb zd_Mod_lettersHome_21 rfl (lv_at hl 2 rfl) ?_
    refine lv_iadd hx hb zd_Mod_lettersHome_22 ?_
    obtain ⟨hg2, hf⟩ := zu_gd_e hf
    refine zr_iald rfl B hP rfl (by decide) rfl hg2 zd_Mod_lettersHome_23 ?_
    refine lv_aload_n hx hb zd_Mod_lettersHome_24 rfl (lv_at hl 0 rfl) ?_
    refine zg_Mod_s B hP rfl zq_861 zd_Mod_lettersHome_25 ?_
    refine lv_iconst (v := 3) hx hb zd_Mod_lettersHome_28 (by decide) ?_
    refine zr_iald (j := 3) (by decide) B hP rfl (by decide) rfl (by decide) zd_Mod_lettersHome_29 ?_
    refine lv_icmp_ne (tgt := 37) hx hb zd_Mod_lettersHome_30 (by decide) (fun c3 => ?_) (fun c3 => ?_)
    · have hf := zu_f c3 hf
      refine lv_iconst (v := 0) hx hb zd_Mod_lettersHome_37 (by decide) ?_
      exact zl_Mod_lettersHome_L38 B hret hlk hk4 x2 (0 : Int32) x1 _ _ _ hP hS (lv_sub hl [0, 2] rfl) hf
    · have hf := zu_t c3 hf
      refine lv_iconst (v := 1) hx hb zd_Mod_lettersHome_33 (by decide) ?_
      refine lv_goto (tgt := 38) hx hb zd_Mod_lettersHome_34 (by decide) ?_
      exact zl_Mod_lettersHome_L38 B hret hlk hk4 x2 (1 : Int32) x1 _ _ _ hP hS (lv_sub hl [0, 2] rfl) hf
theorem zl_Mod_lettersHome_L4 {p : Program} {l : Launch} {e : Env} {s : State} {m : MethodId} {args : Array Value} {below : List Frame} {meth : Method} {c : Code} {D : va_G} {cA : Nat → ClassId} {ad : Nat → Nat} {A : Nat → Prop} (B : zu_B p s m args c zb_Mod_lettersHome 3 "StonePostModel" D cA ad A) (hret : meth.sig.returnType = (some .int)) (hlk : meth.locks = false) {X : IX} {Y : LX} {res : Int32} : ∀ (n : Nat) (x1 : Int32) (x2 : Int32) (H : Heap) (locs : List Loc) (ls : Array Slot), va_P D zu_cl (zu_pic cA ad X Y) H → va_S A s.heap H locs → lv_has ls 3 [(0, .ref (ad 95)), (1, .int x1), (2, .int x2)] → fn_Mod_lettersHome_L4 X n x1 x2 = some res → W p l e zR_Mod_lettersHome s m args below meth c H locs 0 0 (MQ below (zu_Qi D cA ad A res X Y) args s 0 0 A) (F0 m 4 ls []) := by
  intro n
  induction n with
  | zero =>
    intro x1 x2 H locs ls hP hS hl hf
    exact (Option.some_ne_none _ hf.symm).elim
  | succ n ih =>
    intro x1 x2 H locs ls hP hS hl hf
    exact zl_Mod_lettersHome_B4 B hret hlk ih x1 x2 H locs ls hP hS hl  hf
set_option maxHeartbeats 4000000 in
theorem zl_Mod_lettersHome {p : Program} {l : Launch} {e : Env} {s : State} {m : MethodId} {args : Array Value} {below : List Frame} {meth : Method} {c : Code} {D : va_G} {cA : Nat → ClassId} {ad : Nat → Nat} {A : Nat → Prop} (B : zu_B p s m args c zb_Mod_lettersHome 3 "StonePostModel" D cA ad A) (hret : meth.sig.returnType = (some .int)) (hlk : meth.locks = false) {X : IX} {Y : LX} {res : Int32} (H : Heap) (locs : List Loc) (ls : Array Slot) (hP : va_P D zu_cl (zu_pic cA ad X Y) H) (hS : va_S A s.heap H locs) (hl : lv_has ls 3 [(0, .ref (ad 95))]) (hf : fn_Mod_lettersHome X = some res) : W p l e zR_Mod_lettersHome s m args below meth c H locs 0 0 (MQ below (zu_Qi D cA ad A res X Y) args s 0 0 A) (F0 m 0 ls []) := by
  obtain ⟨hx, hb, hml, hown, hts, hST⟩ := id B
  unfold fn_Mod_lettersHome at hf
  refine lv_iconst (v := 0) hx hb zd_Mod_lettersHome_0 (by decide) ?_
  refine lv_istore_n (lv' := [(1, .int (0 : Int32)), (0, .ref (ad 95))]) hx hb zd_Mod_lettersHome_1 rfl hl (by decide) rfl (fun ls hl => ?_)
  refine lv_iconst (v := 0) hx hb zd_Mod_lettersHome_2 (by decide) ?_
  refine lv_istore_n (lv' := [(2, .int (0 : Int32)), (1, .int (0 : Int32)), (0, .ref (ad 95))]) hx hb zd_Mod_lettersHome_3 rfl hl (by decide) rfl (fun ls hl => ?_)
  exact zl_Mod_lettersHome_L4 B hret hlk 400 (0 : Int32) (0 : Int32) _ _ _ hP hS (lv_sub hl [2, 1, 0] rfl) hf
theorem zC_Mod_lettersHome (l : Launch) {D : va_G} {cA : Nat → ClassId} {ad : Nat → Nat} {A : Nat → Prop} {X : IX} {Y : LX} {res : Int32} (hf : fn_Mod_lettersHome X = some res) : Met l zm_Mod_lettersHome (zu_ws zm_Mod_lettersHome zb_Mod_lettersHome 3 (some .int)) zR_Mod_lettersHome (va_Pc [.ref (ad 95)] (zu_Pre D cA ad A X Y)) (zu_Qi D cA ad A res X Y) 0 0 A := by
  refine Met.ofW (cc := zb_Mod_lettersHome) (maxL := 3) (ret := (some .int)) (by decide +kernel) rfl ?_
  intro p e s m args below meth c s₁ B0 hml hv
  obtain ⟨rfl, hP, hST⟩ := hv
  have B : zu_B p s m _ c zb_Mod_lettersHome 3 "StonePostModel" D cA ad A := ⟨B0.exec, B0.bytes, hml, findClass_of_methodNamed B0.named, (fun w hw => atoms_spec (ws := zu_ws zm_Mod_lettersHome zb_Mod_lettersHome 3 (some .int)) B0.pre w (List.mem_cons_of_mem _ hw)), hST⟩
  have hl := lv_entry ([.ref (ad 95)]) (n := 3) (Nat.le_of_ble_eq_true rfl)
  rw [lg_entry_eq]
  generalize (lg_sl ([.ref (ad 95)]) ++ List.replicate (3 - (lg_sl ([.ref (ad 95)])).length) Slot.unset).toArray = ls at hl ⊢
  exact zl_Mod_lettersHome B B0.returns B0.notSynchronized s.heap [] ls hP va_S.rf hl  hf
theorem zw_Mod_lettersHome {p : Program} {l : Launch} {e : Env} {R : Room} {s : State} {m : MethodId} {args : Array Value} {below : List Frame} {meth : Method} {c : Code} {H : Heap} {locs : List Loc} {cells slots : Nat} {Q : State → Prop} {cc : ByteArray} {pc nL : Nat} {ls : Array Slot} {rest st0 : List Value} {D : va_G} {cA : Nat → ClassId} {ad : Nat → Nat} {A : Nat → Prop} {X : IX} {Y : LX} {own : String} {index : Nat} {v1 : Int32} (B : zu_B p s m args c cc nL own D cA ad A) (hP : va_P D zu_cl (zu_pic cA ad X Y) H) (hS : va_S A s.heap H locs) (hq : fn_Mod_lettersHome X = some v1) (m1 : Cond.methodLink own index zm_Mod_lettersHome ∈ zu_TB) (hR1 : 0 + 1 ≤ R.frames) (hR2 : 8 + (3 + 11) + 0 ≤ R.locals) (hsz : ls.size = nL) (hst : st0 = .ref (ad 95) :: rest) (hw : (rest.map fun v => v.category).sum ≤ 8) (hdg : decode cc pc = .ok (.invokevirtual index, 3)) (h00 : cells ≤ R.cells ∧ slots ≤ R.slots) (kk : ∀ (H1 : Heap) (locs1 : List Loc), va_P D zu_cl (zu_pic cA ad X Y) H1 → va_S A s.heap H1 locs1 → W p l e R s m args below meth c H1 locs1 cells slots Q (F0 m (pc + 3) ls (.int v1 :: rest))) : W p l e R s m args below meth c H locs cells slots Q (F0 m pc ls st0) := by
  subst hst
  exact zr_cVi (As := []) (rest := rest) (n := 0) (C := "StonePostModel") (T := zt_Mod) (N := 23) B hP hS (zC_Mod_lettersHome l  hq) (K := 7) rfl (by decide) (by decide) rfl rfl m1 zq_1065 zqP_32 zq_8 zq_1066 (by decide +kernel) ⟨hR1, hR2⟩ rfl rfl rfl hsz rfl hw hdg h00 kk
abbrev zR_Mod_hours : Room := { frames := 6, cells := 0, slots := 0, locals := 141 }
theorem zd_Mod_hours_0 : decode zb_Mod_hours 0 = .ok (.iload_n 1, 1) := by decide +kernel
theorem zd_Mod_hours_1 : decode zb_Mod_hours 1 = .ok (.i2l, 1) := by decide +kernel
theorem zd_Mod_hours_2 : decode zb_Mod_hours 2 = .ok (.lconst 1, 1) := by decide +kernel
theorem zd_Mod_hours_3 : decode zb_Mod_hours 3 = .ok (.ldc2_w 158, 3) := by decide +kernel
theorem zd_Mod_hours_6 : decode zb_Mod_hours 6 = .ok (.invokestatic 53, 3) := by decide +kernel
theorem zd_Mod_hours_9 : decode zb_Mod_hours 9 = .ok (.ifCond .ne 10, 3) := by decide +kernel
theorem zd_Mod_hours_12 : decode zb_Mod_hours 12 = .ok (.aload_n 0, 1) := by decide +kernel
theorem zd_Mod_hours_13 : decode zb_Mod_hours 13 = .ok (.ldc 50, 2) := by decide +kernel
theorem zd_Mod_hours_15 : decode zb_Mod_hours 15 = .ok (.invokevirtual 64, 3) := by decide +kernel
theorem zd_Mod_hours_18 : decode zb_Mod_hours 18 = .ok (.ireturn, 1) := by decide +kernel
theorem zd_Mod_hours_19 : decode zb_Mod_hours 19 = .ok (.aload_n 0, 1) := by decide +kernel
theorem zd_Mod_hours_20 : decode zb_Mod_hours 20 = .ok (.getfield 7, 3) := by decide +kernel
theorem zd_Mod_hours_23 : decode zb_Mod_hours 23 = .ok (.iconst 0, 1) := by decide +kernel
theorem zd_Mod_hours_24 : decode zb_Mod_hours 24 = .ok (.iaload, 1) := by decide +kernel
theorem zd_Mod_hours_25 : decode zb_Mod_hours 25 = .ok (.iload_n 1, 1) := by decide +kernel
theorem zd_Mod_hours_26 : decode zb_Mod_hours 26 = .ok (.iadd, 1) := by decide +kernel
theorem zd_Mod_hours_27 : decode zb_Mod_hours 27 = .ok (.sipush 9999, 3) := by decide +kernel
theorem zd_Mod_hours_30 : decode zb_Mod_hours 30 = .ok (.if_icmp .le 10, 3) := by decide +kernel
theorem zd_Mod_hours_33 : decode zb_Mod_hours 33 = .ok (.aload_n 0, 1) := by decide +kernel
theorem zd_Mod_hours_34 : decode zb_Mod_hours 34 = .ok (.ldc 82, 2) := by decide +kernel
theorem zd_Mod_hours_36 : decode zb_Mod_hours 36 = .ok (.invokevirtual 64, 3) := by decide +kernel
theorem zd_Mod_hours_39 : decode zb_Mod_hours 39 = .ok (.ireturn, 1) := by decide +kernel
theorem zd_Mod_hours_40 : decode zb_Mod_hours 40 = .ok (.aload_n 0, 1) := by decide +kernel
theorem zd_Mod_hours_41 : decode zb_Mod_hours 41 = .ok (.invokevirtual 160, 3) := by decide +kernel
theorem zd_Mod_hours_44 : decode zb_Mod_hours 44 = .ok (.istore_n 2, 1) := by decide +kernel
theorem zd_Mod_hours_45 : decode zb_Mod_hours 45 = .ok (.iconst 0, 1) := by decide +kernel
theorem zd_Mod_hours_46 : decode zb_Mod_hours 46 = .ok (.istore_n 3, 1) := by decide +kernel
theorem zd_Mod_hours_47 : decode zb_Mod_hours 47 = .ok (.iload_n 3, 1) := by decide +kernel
theorem zd_Mod_hours_48 : decode zb_Mod_hours 48 = .ok (.iload_n 1, 1) := by decide +kernel
theorem zd_Mod_hours_49 : decode zb_Mod_hours 49 = .ok (.if_icmp .ge 13, 3) := by decide +kernel
theorem zd_Mod_hours_52 : decode zb_Mod_hours 52 = .ok (.aload_n 0, 1) := by decide +kernel
theorem zd_Mod_hours_53 : decode zb_Mod_hours 53 = .ok (.invokevirtual 163, 3) := by decide +kernel
theorem zd_Mod_hours_56 : decode zb_Mod_hours 56 = .ok (.iinc 3 1, 3) := by decide +kernel
theorem zd_Mod_hours_59 : decode zb_Mod_hours 59 = .ok (.goto (-12), 3) := by decide +kernel
theorem zd_Mod_hours_62 : decode zb_Mod_hours 62 = .ok (.aload_n 0, 1) := by decide +kernel
theorem zd_Mod_hours_63 : decode zb_Mod_hours 63 = .ok (.invokevirtual 160, 3) := by decide +kernel
theorem zd_Mod_hours_66 : decode zb_Mod_hours 66 = .ok (.iload_n 2, 1) := by decide +kernel
theorem zd_Mod_hours_67 : decode zb_Mod_hours 67 = .ok (.isub, 1) := by decide +kernel
theorem zd_Mod_hours_68 : decode zb_Mod_hours 68 = .ok (.ireturn, 1) := by decide +kernel
set_option maxHeartbeats 4000000 in
theorem zl_Mod_hours_B47 {p : Program} {l : Launch} {e : Env} {s : State} {m : MethodId} {args : Array Value} {below : List Frame} {meth : Method} {c : Code} {D : va_G} {cA : Nat → ClassId} {ad : Nat → Nat} {A : Nat → Prop} (B : zu_B p s m args c zb_Mod_hours 4 "StonePostModel" D cA ad A) (hret : meth.sig.returnType = (some .int)) (hlk : meth.locks = false) {Y : LX} {res : Int32 × IX} {k47 : Int32 → Int32 → Int32 → IX → Option (Int32 × IX)} (hk47 : ∀ (x1 : Int32) (x2 : Int32) (x3 : Int32) (X : IX) (H : Heap) (locs : List Loc) (ls : Array Slot), va_P D zu_cl (zu_pic cA ad X Y) H → va_S A s.heap H locs → lv_has ls 4 [(0, .ref (ad 95)), (1, .int x1), (2, .int x2), (3, .int x3)] → k47 x1 x2 x3 X = some res → W p l e zR_Mod_hours s m args below meth c H locs 0 0 (MQ below (zu_Qi D cA ad A res.1 res.2 Y) args s 0 0 A) (F0 m 47 ls [])) (x1 : Int32) (x2 : Int32) (x3 : Int32) (X : IX) (H : Heap) (locs : List Loc) (ls : Array Slot) (hP : va_P D zu_cl (zu_pic cA ad X Y) H) (hS : va_S A s.heap H locs) (hl : lv_has ls 4 [(0, .ref (ad 95)), (1, .int x1), (2, .int x2), (3, .int x3)]) (hf : fn_Mod_hours_B47 k47 x1 x2 x3 X = some res) : W p l e zR_Mod_hours s m args below meth c H locs 0 0 (MQ below (zu_Qi D cA ad A res.1 res.2 Y) args s 0 0 A) (F0 m 47 ls []) := by
  obtain ⟨hx, hb, hml, hown, hts, hST⟩ := id B
  unfold fn_Mod_hours_B47 at hf
  refine lv_iload_n hx hb zd_Mod_hours_47 rfl (lv_at hl 3 rfl) ?_
  refine lv_iload_n hx hb zd_Mod_hours_48 rfl (lv_at hl 1 rfl) ?_
  refine lv_icmp_ge (tgt := 62) hx hb zd_Mod_hours_49 (by decide) (fun c13 => ?_) (fun c13 => ?_)
  · have hf := zu_t c13 hf
    refine lv_aload_n hx hb zd_Mod_hours_62 rfl (lv_at hl 0 rfl) ?_
    obtain ⟨v14, hq15, hf⟩ := zu_b1_e hf
    refine zw_Mod_lettersHome (rest := []) B hP hS hq15 zq_1063 (Nat.le_of_ble_eq_true rfl) (Nat.le_of_ble_eq_true rfl) hl.1 rfl (Nat.le_of_ble_eq_true rfl) zd_Mod_hours_63 (by decide) (fun H locs hP hS => ?_)
    clear hq15
    refine lv_iload_n hx hb zd_Mod_hours_66 rfl (lv_at hl 2 rfl) ?_
    refine lv_isub hx hb zd_Mod_hours_67 ?_
    obtain rfl := Option.some.inj hf
    exact zr_iret hx hb hret hlk hP hS zd_Mod_hours_68
  · have hf := zu_f c13 hf
    refine lv_aload_n hx hb zd_Mod_hours_52 rfl (lv_at hl 0 rfl) ?_
    obtain ⟨X16, hq17, hf⟩ := zu_b1_e hf
    refine zw_Mod_hour (rest := []) B hP hS hq17 zq_1067 (Nat.le_of_ble_eq_true rfl) (Nat.le_of_ble_eq_true rfl) hl.1 rfl (Nat.le_of_ble_eq_true rfl) zd_Mod_hours_53 (by decide) (fun H locs hP hS => ?_)
    clear hq17
    obtain ⟨v18, ev18, hf⟩ := zu_nx_e hf
    refine lv_iinc (v := v18) (lv' := [(3, .int v18), (0, .ref (ad 95)), (1, .int x1), (2, .int x2)]) hx hb zd_Mod_hours_56 hl (k := 3) rfl (by rw [ev18]; rfl) (by decide) rfl (fun ls hl => ?_)
    clear ev18
    refine lv_goto (tgt := 47) hx hb zd_Mod_hours_59 (by decide) ?_
    exact hk47 x1 x2 v18 X16 _ _ _ hP hS (lv_sub hl [1, 2, 3, 0] rfl) hf
theorem zl_Mod_hours_L47 {p : Program} {l : Launch} {e : Env} {s : State} {m : MethodId} {args : Array Value} {below : List Frame} {meth : Method} {c : Code} {D : va_G} {cA : Nat → ClassId} {ad : Nat → Nat} {A : Nat → Prop} (B : zu_B p s m args c zb_Mod_hours 4 "StonePostModel" D cA ad A) (hret : meth.sig.returnType = (some .int)) (hlk : meth.locks = false) {Y : LX} {res : Int32 × IX} : ∀ (n : Nat) (x1 : Int32) (x2 : Int32) (x3 : Int32) (X : IX) (H : Heap) (locs : List Loc) (ls : Array Slot), va_P D zu_cl (zu_pic cA ad X Y) H → va_S A s.heap H locs → lv_has ls 4 [(0, .ref (ad 95)), (1, .int x1), (2, .int x2), (3, .int x3)] → fn_Mod_hours_L47 n x1 x2 x3 X = some res → W p l e zR_Mod_hours s m args below meth c H locs 0 0 (MQ below (zu_Qi D cA ad A res.1 res.2 Y) args s 0 0 A) (F0 m 47 ls []) := by
  intro n
  induction n with
  | zero =>
    intro x1 x2 x3 X H locs ls hP hS hl hf
    exact (Option.some_ne_none _ hf.symm).elim
  | succ n ih =>
    intro x1 x2 x3 X H locs ls hP hS hl hf
    exact zl_Mod_hours_B47 B hret hlk ih x1 x2 x3 X H locs ls hP hS hl  hf
set_option maxHeartbeats 4000000 in
theorem zl_Mod_hours {p : Program} {l : Launch} {e : Env} {s : State} {m : MethodId} {args : Array Value} {below : List Frame} {meth : Method} {c : Code} {D : va_G} {cA : Nat → ClassId} {ad : Nat → Nat} {A : Nat → Prop} (B : zu_B p s m args c zb_Mod_hours 4 "StonePostModel" D cA ad A) (hret : meth.sig.returnType = (some .int)) (hlk : meth.locks = false) {Y : LX} {res : Int32 × IX} {a1 : Int32} {X : IX} (H : Heap) (locs : List Loc) (ls : Array Slot) (hP : va_P D zu_cl (zu_pic cA ad X Y) H) (hS : va_S A s.heap H locs) (hl : lv_has ls 4 [(0, .ref (ad 95)), (1, .int a1)]) (hf : fn_Mod_hours a1 X = some res) : W p l e zR_Mod_hours s m args below meth c H locs 0 0 (MQ below (zu_Qi D cA ad A res.1 res.2 Y) args s 0 0 A) (F0 m 0 ls []) := by
  obtain ⟨hx, hb, hml, hown, hts, hST⟩ := id B
  unfold fn_Mod_hours at hf
  refine lv_iload_n hx hb zd_Mod_hours_0 rfl (lv_at hl 1 rfl) ?_
  refine lv_i2l hx hb zd_Mod_hours_1 rfl ?_
  refine lv_lconst (v := 1) hx hb zd_Mod_hours_2 (by decide) ?_
  refine lv_ldc2 (v := 48) hx hb hown (hts _ zq_1062) zd_Mod_hours_3 ?_
  obtain ⟨v1, hq2, hf⟩ := zu_b1_e hf
  refine zw_Mod_in (rest := []) B hP hS hq2 zq_939 (Nat.le_of_ble_eq_true rfl) (Nat.le_of_ble_eq_true rfl) hl.1 rfl (Nat.le_of_ble_eq_true rfl) zd_Mod_hours_6 (by decide) (fun H locs hP hS => ?_)
  clear hq2
  refine lv_if_ne (tgt := 19) hx hb zd_Mod_hours_9 (by decide) (fun c3 => ?_) (fun c3 => ?_)
  · have hf := zu_f c3 hf
    refine lv_aload_n hx hb zd_Mod_hours_19 rfl (lv_at hl 0 rfl) ?_
    refine zg_Mod_s B hP rfl zq_861 zd_Mod_hours_20 ?_
    refine lv_iconst (v := 0) hx hb zd_Mod_hours_23 (by decide) ?_
    refine zr_iald (j := 0) (by decide) B hP rfl (by decide) rfl (by decide) zd_Mod_hours_24 ?_
    refine lv_iload_n hx hb zd_Mod_hours_25 rfl (lv_at hl 1 rfl) ?_
    refine lv_iadd hx hb zd_Mod_hours_26 ?_
    refine lv_sipush (v := 9999) hx hb zd_Mod_hours_27 (by decide) ?_
    refine lv_icmp_le (tgt := 40) hx hb zd_Mod_hours_30 (by decide) (fun c4 => ?_) (fun c4 => ?_)
    · have hf := zu_t c4 hf
      refine lv_aload_n hx hb zd_Mod_hours_40 rfl (lv_at hl 0 rfl) ?_
      obtain ⟨v5, hq6, hf⟩ := zu_b1_e hf
      refine zw_Mod_lettersHome (rest := []) B hP hS hq6 zq_1063 (Nat.le_of_ble_eq_true rfl) (Nat.le_of_ble_eq_true rfl) hl.1 rfl (Nat.le_of_ble_eq_true rfl) zd_Mod_hours_41 (by decide) (fun H locs hP hS => ?_)
      clear hq6
      refine lv_istore_n (lv' := [(2, .int v5), (0, .ref (ad 95)), (1, .int a1)]) hx hb zd_Mod_hours_44 rfl hl (by decide) rfl (fun ls hl => ?_)
      refine lv_iconst (v := 0) hx hb zd_Mod_hours_45 (by decide) ?_
      refine lv_istore_n (lv' := [(3, .int (0 : Int32)), (2, .int v5), (0, .ref (ad 95)), (1, .int a1)]) hx hb zd_Mod_hours_46 rfl hl (by decide) rfl (fun ls hl => ?_)
      exact zl_Mod_hours_L47 B hret hlk 400 a1 v5 (0 : Int32) X _ _ _ hP hS (lv_sub hl [2, 3, 1, 0] rfl) hf
    · have hf := zu_f c4 hf
      refine lv_aload_n hx hb zd_Mod_hours_33 rfl (lv_at hl 0 rfl) ?_
      refine lv_ldc (v := -1000005) hx hb hown (hts _ zq_969) zd_Mod_hours_34 ?_
      obtain ⟨v7, X8, hq9, hf⟩ := zu_b2_e hf
      refine zw_Mod_finds (rest := []) B hP hS hq9 zq_944 (Nat.le_of_ble_eq_true rfl) (Nat.le_of_ble_eq_true rfl) hl.1 rfl (Nat.le_of_ble_eq_true rfl) zd_Mod_hours_36 (by decide) (fun H locs hP hS => ?_)
      clear hq9
      obtain rfl := Option.some.inj hf
      exact zr_iret hx hb hret hlk hP hS zd_Mod_hours_39
  · have hf := zu_t c3 hf
    refine lv_aload_n hx hb zd_Mod_hours_12 rfl (lv_at hl 0 rfl) ?_
    refine lv_ldc (v := -1000001) hx hb hown (hts _ zq_943) zd_Mod_hours_13 ?_
    obtain ⟨v10, X11, hq12, hf⟩ := zu_b2_e hf
    refine zw_Mod_finds (rest := []) B hP hS hq12 zq_944 (Nat.le_of_ble_eq_true rfl) (Nat.le_of_ble_eq_true rfl) hl.1 rfl (Nat.le_of_ble_eq_true rfl) zd_Mod_hours_15 (by decide) (fun H locs hP hS => ?_)
    clear hq12
    obtain rfl := Option.some.inj hf
    exact zr_iret hx hb hret hlk hP hS zd_Mod_hours_18
theorem zC_Mod_hours (l : Launch) {D : va_G} {cA : Nat → ClassId} {ad : Nat → Nat} {A : Nat → Prop} {a1 : Int32} {X : IX} {Y : LX} {res : Int32 × IX} (hf : fn_Mod_hours a1 X = some res) : Met l zm_Mod_hours (zu_ws zm_Mod_hours zb_Mod_hours 4 (some .int)) zR_Mod_hours (va_Pc [.ref (ad 95), .int a1] (zu_Pre D cA ad A X Y)) (zu_Qi D cA ad A res.1 res.2 Y) 0 0 A := by
  refine Met.ofW (cc := zb_Mod_hours) (maxL := 4) (ret := (some .int)) (by decide +kernel) rfl ?_
  intro p e s m args below meth c s₁ B0 hml hv
  obtain ⟨rfl, hP, hST⟩ := hv
  have B : zu_B p s m _ c zb_Mod_hours 4 "StonePostModel" D cA ad A := ⟨B0.exec, B0.bytes, hml, findClass_of_methodNamed B0.named, (fun w hw => atoms_spec (ws := zu_ws zm_Mod_hours zb_Mod_hours 4 (some .int)) B0.pre w (List.mem_cons_of_mem _ hw)), hST⟩
  have hl := lv_entry ([.ref (ad 95), .int a1]) (n := 4) (Nat.le_of_ble_eq_true rfl)
  rw [lg_entry_eq]
  generalize (lg_sl ([.ref (ad 95), .int a1]) ++ List.replicate (4 - (lg_sl ([.ref (ad 95), .int a1])).length) Slot.unset).toArray = ls at hl ⊢
  exact zl_Mod_hours B B0.returns B0.notSynchronized s.heap [] ls hP va_S.rf hl  hf
theorem zw_Mod_hours {p : Program} {l : Launch} {e : Env} {R : Room} {s : State} {m : MethodId} {args : Array Value} {below : List Frame} {meth : Method} {c : Code} {H : Heap} {locs : List Loc} {cells slots : Nat} {Q : State → Prop} {cc : ByteArray} {pc nL : Nat} {ls : Array Slot} {rest st0 : List Value} {D : va_G} {cA : Nat → ClassId} {ad : Nat → Nat} {A : Nat → Prop} {X : IX} {Y : LX} {own : String} {index : Nat} {a1 : Int32} {v1 : Int32} {X1 : IX} (B : zu_B p s m args c cc nL own D cA ad A) (hP : va_P D zu_cl (zu_pic cA ad X Y) H) (hS : va_S A s.heap H locs) (hq : fn_Mod_hours a1 X = some (v1, X1)) (m1 : Cond.methodLink own index zm_Mod_hours ∈ zu_TB) (hR1 : 6 + 1 ≤ R.frames) (hR2 : 8 + (4 + 11) + 141 ≤ R.locals) (hsz : ls.size = nL) (hst : st0 = .int a1 :: .ref (ad 95) :: rest) (hw : (rest.map fun v => v.category).sum ≤ 8) (hdg : decode cc pc = .ok (.invokevirtual index, 3)) (h00 : cells ≤ R.cells ∧ slots ≤ R.slots) (kk : ∀ (H1 : Heap) (locs1 : List Loc), va_P D zu_cl (zu_pic cA ad X1 Y) H1 → va_S A s.heap H1 locs1 → W p l e R s m args below meth c H1 locs1 cells slots Q (F0 m (pc + 3) ls (.int v1 :: rest))) : W p l e R s m args below meth c H locs cells slots Q (F0 m pc ls st0) := by
  subst hst
  exact zr_cVi (As := [.int a1]) (rest := rest) (n := 1) (C := "StonePostModel") (T := zt_Mod) (N := 23) B hP hS (zC_Mod_hours l  hq) (K := 7) rfl (by decide) (by decide) rfl rfl m1 zq_1059 zq_1060 zq_8 zq_1061 (by decide +kernel) ⟨hR1, hR2⟩ rfl rfl rfl hsz rfl hw hdg h00 kk
abbrev zR_Mod_letters : Room := { frames := 1, cells := 0, slots := 0, locals := 25 }
theorem zd_Mod_letters_0 : decode zb_Mod_letters 0 = .ok (.iload_n 1, 1) := by decide +kernel
theorem zd_Mod_letters_1 : decode zb_Mod_letters 1 = .ok (.i2l, 1) := by decide +kernel
theorem zd_Mod_letters_2 : decode zb_Mod_letters 2 = .ok (.lconst 0, 1) := by decide +kernel
theorem zd_Mod_letters_3 : decode zb_Mod_letters 3 = .ok (.ldc2_w 166, 3) := by decide +kernel
theorem zd_Mod_letters_6 : decode zb_Mod_letters 6 = .ok (.invokestatic 53, 3) := by decide +kernel
theorem zd_Mod_letters_9 : decode zb_Mod_letters 9 = .ok (.ifCond .ne 10, 3) := by decide +kernel
theorem zd_Mod_letters_12 : decode zb_Mod_letters 12 = .ok (.aload_n 0, 1) := by decide +kernel
theorem zd_Mod_letters_13 : decode zb_Mod_letters 13 = .ok (.ldc 50, 2) := by decide +kernel
theorem zd_Mod_letters_15 : decode zb_Mod_letters 15 = .ok (.invokevirtual 64, 3) := by decide +kernel
theorem zd_Mod_letters_18 : decode zb_Mod_letters 18 = .ok (.ireturn, 1) := by decide +kernel
theorem zd_Mod_letters_19 : decode zb_Mod_letters 19 = .ok (.iconst 0, 1) := by decide +kernel
theorem zd_Mod_letters_20 : decode zb_Mod_letters 20 = .ok (.istore_n 2, 1) := by decide +kernel
theorem zd_Mod_letters_21 : decode zb_Mod_letters 21 = .ok (.iconst 0, 1) := by decide +kernel
theorem zd_Mod_letters_22 : decode zb_Mod_letters 22 = .ok (.istore_n 3, 1) := by decide +kernel
theorem zd_Mod_letters_23 : decode zb_Mod_letters 23 = .ok (.iload_n 3, 1) := by decide +kernel
theorem zd_Mod_letters_24 : decode zb_Mod_letters 24 = .ok (.aload_n 0, 1) := by decide +kernel
theorem zd_Mod_letters_25 : decode zb_Mod_letters 25 = .ok (.getfield 7, 3) := by decide +kernel
theorem zd_Mod_letters_28 : decode zb_Mod_letters 28 = .ok (.iconst 2, 1) := by decide +kernel
theorem zd_Mod_letters_29 : decode zb_Mod_letters 29 = .ok (.iaload, 1) := by decide +kernel
theorem zd_Mod_letters_30 : decode zb_Mod_letters 30 = .ok (.if_icmp .ge 70, 3) := by decide +kernel
theorem zd_Mod_letters_33 : decode zb_Mod_letters 33 = .ok (.aload_n 0, 1) := by decide +kernel
theorem zd_Mod_letters_34 : decode zb_Mod_letters 34 = .ok (.getfield 7, 3) := by decide +kernel
theorem zd_Mod_letters_37 : decode zb_Mod_letters 37 = .ok (.bipush 120, 2) := by decide +kernel
theorem zd_Mod_letters_39 : decode zb_Mod_letters 39 = .ok (.iload_n 3, 1) := by decide +kernel
theorem zd_Mod_letters_40 : decode zb_Mod_letters 40 = .ok (.iadd, 1) := by decide +kernel
theorem zd_Mod_letters_41 : decode zb_Mod_letters 41 = .ok (.iaload, 1) := by decide +kernel
theorem zd_Mod_letters_42 : decode zb_Mod_letters 42 = .ok (.istore 4, 2) := by decide +kernel
theorem zd_Mod_letters_44 : decode zb_Mod_letters 44 = .ok (.iload 4, 2) := by decide +kernel
theorem zd_Mod_letters_46 : decode zb_Mod_letters 46 = .ok (.aload_n 0, 1) := by decide +kernel
theorem zd_Mod_letters_47 : decode zb_Mod_letters 47 = .ok (.getfield 7, 3) := by decide +kernel
theorem zd_Mod_letters_50 : decode zb_Mod_letters 50 = .ok (.iconst 3, 1) := by decide +kernel
theorem zd_Mod_letters_51 : decode zb_Mod_letters 51 = .ok (.iaload, 1) := by decide +kernel
theorem zd_Mod_letters_52 : decode zb_Mod_letters 52 = .ok (.if_icmp .ne 7, 3) := by decide +kernel
theorem zd_Mod_letters_55 : decode zb_Mod_letters 55 = .ok (.iconst 0, 1) := by decide +kernel
theorem zd_Mod_letters_56 : decode zb_Mod_letters 56 = .ok (.goto 22, 3) := by decide +kernel
theorem zd_Mod_letters_59 : decode zb_Mod_letters 59 = .ok (.aload_n 0, 1) := by decide +kernel
theorem zd_Mod_letters_60 : decode zb_Mod_letters 60 = .ok (.getfield 7, 3) := by decide +kernel
theorem zd_Mod_letters_63 : decode zb_Mod_letters 63 = .ok (.bipush 6, 2) := by decide +kernel
theorem zd_Mod_letters_65 : decode zb_Mod_letters 65 = .ok (.iload 4, 2) := by decide +kernel
theorem zd_Mod_letters_67 : decode zb_Mod_letters 67 = .ok (.iadd, 1) := by decide +kernel
theorem zd_Mod_letters_68 : decode zb_Mod_letters 68 = .ok (.iaload, 1) := by decide +kernel
theorem zd_Mod_letters_69 : decode zb_Mod_letters 69 = .ok (.iconst 1, 1) := by decide +kernel
theorem zd_Mod_letters_70 : decode zb_Mod_letters 70 = .ok (.if_icmp .ne 7, 3) := by decide +kernel
theorem zd_Mod_letters_73 : decode zb_Mod_letters 73 = .ok (.iconst 1, 1) := by decide +kernel
theorem zd_Mod_letters_74 : decode zb_Mod_letters 74 = .ok (.goto 4, 3) := by decide +kernel
theorem zd_Mod_letters_77 : decode zb_Mod_letters 77 = .ok (.iconst 2, 1) := by decide +kernel
theorem zd_Mod_letters_78 : decode zb_Mod_letters 78 = .ok (.istore 5, 2) := by decide +kernel
theorem zd_Mod_letters_80 : decode zb_Mod_letters 80 = .ok (.iload_n 2, 1) := by decide +kernel
theorem zd_Mod_letters_81 : decode zb_Mod_letters 81 = .ok (.iload 5, 2) := by decide +kernel
theorem zd_Mod_letters_83 : decode zb_Mod_letters 83 = .ok (.iload_n 1, 1) := by decide +kernel
theorem zd_Mod_letters_84 : decode zb_Mod_letters 84 = .ok (.if_icmp .ne 7, 3) := by decide +kernel
theorem zd_Mod_letters_87 : decode zb_Mod_letters 87 = .ok (.iconst 1, 1) := by decide +kernel
theorem zd_Mod_letters_88 : decode zb_Mod_letters 88 = .ok (.goto 4, 3) := by decide +kernel
theorem zd_Mod_letters_91 : decode zb_Mod_letters 91 = .ok (.iconst 0, 1) := by decide +kernel
theorem zd_Mod_letters_92 : decode zb_Mod_letters 92 = .ok (.iadd, 1) := by decide +kernel
theorem zd_Mod_letters_93 : decode zb_Mod_letters 93 = .ok (.istore_n 2, 1) := by decide +kernel
theorem zd_Mod_letters_94 : decode zb_Mod_letters 94 = .ok (.iinc 3 1, 3) := by decide +kernel
theorem zd_Mod_letters_97 : decode zb_Mod_letters 97 = .ok (.goto (-74), 3) := by decide +kernel
theorem zd_Mod_letters_100 : decode zb_Mod_letters 100 = .ok (.iload_n 2, 1) := by decide +kernel
theorem zd_Mod_letters_101 : decode zb_Mod_letters 101 = .ok (.ireturn, 1) := by decide +kernel
set_option maxHeartbeats 4000000 in
theorem zl_Mod_letters_L92 {p : Program} {l : Launch} {e : Env} {s : State} {m : MethodId} {args : Array Value} {below : List Frame} {meth : Method} {c : Code} {D : va_G} {cA : Nat → ClassId} {ad : Nat → Nat} {A : Nat → Prop} (B : zu_B p s m args c zb_Mod_letters 6 "StonePostModel" D cA ad A) (hret : meth.sig.returnType = (some .int)) (hlk : meth.locks = false) {Y : LX} {res : Int32 × IX} {k23 : Int32 → Int32 → Int32 → IX → Option (Int32 × IX)} (hk23 : ∀ (x1 : Int32) (x2 : Int32) (x3 : Int32) (X : IX) (H : Heap) (locs : List Loc) (ls : Array Slot), va_P D zu_cl (zu_pic cA ad X Y) H → va_S A s.heap H locs → lv_has ls 6 [(0, .ref (ad 95)), (1, .int x1), (2, .int x2), (3, .int x3)] → k23 x1 x2 x3 X = some res → W p l e zR_Mod_letters s m args below meth c H locs 0 0 (MQ below (zu_Qi D cA ad A res.1 res.2 Y) args s 0 0 A) (F0 m 23 ls [])) (x1 : Int32) (x3 : Int32) (y0 : Int32) (y1 : Int32) (X : IX) (H : Heap) (locs : List Loc) (ls : Array Slot) (hP : va_P D zu_cl (zu_pic cA ad X Y) H) (hS : va_S A s.heap H locs) (hl : lv_has ls 6 [(0, .ref (ad 95)), (1, .int x1), (3, .int x3)]) (hf : fn_Mod_letters_L92 k23 x1 x3 y0 y1 X = some res) : W p l e zR_Mod_letters s m args below meth c H locs 0 0 (MQ below (zu_Qi D cA ad A res.1 res.2 Y) args s 0 0 A) (F0 m 92 ls [.int y0, .int y1]) := by
  obtain ⟨hx, hb, hml, hown, hts, hST⟩ := id B
  unfold fn_Mod_letters_L92 at hf
  refine lv_iadd hx hb zd_Mod_letters_92 ?_
  refine zr_nxi hf (fun v14 hf => ?_)
  refine lv_istore_n (lv' := [(2, .int v14), (0, .ref (ad 95)), (1, .int x1), (3, .int x3)]) hx hb zd_Mod_letters_93 rfl hl (by decide) rfl (fun ls hl => ?_)
  obtain ⟨v15, ev15, hf⟩ := zu_nx_e hf
  refine lv_iinc (v := v15) (lv' := [(3, .int v15), (2, .int v14), (0, .ref (ad 95)), (1, .int x1)]) hx hb zd_Mod_letters_94 hl (k := 3) rfl (by rw [ev15]; rfl) (by decide) rfl (fun ls hl => ?_)
  clear ev15
  refine lv_goto (tgt := 23) hx hb zd_Mod_letters_97 (by decide) ?_
  exact hk23 x1 v14 v15 X _ _ _ hP hS (lv_sub hl [2, 3, 1, 0] rfl) hf
set_option maxHeartbeats 4000000 in
theorem zl_Mod_letters_L78 {p : Program} {l : Launch} {e : Env} {s : State} {m : MethodId} {args : Array Value} {below : List Frame} {meth : Method} {c : Code} {D : va_G} {cA : Nat → ClassId} {ad : Nat → Nat} {A : Nat → Prop} (B : zu_B p s m args c zb_Mod_letters 6 "StonePostModel" D cA ad A) (hret : meth.sig.returnType = (some .int)) (hlk : meth.locks = false) {Y : LX} {res : Int32 × IX} {k23 : Int32 → Int32 → Int32 → IX → Option (Int32 × IX)} (hk23 : ∀ (x1 : Int32) (x2 : Int32) (x3 : Int32) (X : IX) (H : Heap) (locs : List Loc) (ls : Array Slot), va_P D zu_cl (zu_pic cA ad X Y) H → va_S A s.heap H locs → lv_has ls 6 [(0, .ref (ad 95)), (1, .int x1), (2, .int x2), (3, .int x3)] → k23 x1 x2 x3 X = some res → W p l e zR_Mod_letters s m args below meth c H locs 0 0 (MQ below (zu_Qi D cA ad A res.1 res.2 Y) args s 0 0 A) (F0 m 23 ls [])) (x1 : Int32) (x2 : Int32) (x3 : Int32) (y0 : Int32) (X : IX) (H : Heap) (locs : List Loc) (ls : Array Slot) (hP : va_P D zu_cl (zu_pic cA ad X Y) H) (hS : va_S A s.heap H locs) (hl : lv_has ls 6 [(0, .ref (ad 95)), (1, .int x1), (2, .int x2), (3, .int x3)]) (hf : fn_Mod_letters_L78 k23 x1 x2 x3 y0 X = some res) : W p l e zR_Mod_letters s m args below meth c H locs 0 0 (MQ below (zu_Qi D cA ad A res.1 res.2 Y) args s 0 0 A) (F0 m 78 ls [.int y0]) := by
  obtain ⟨hx, hb, hml, hown, hts, hST⟩ := id B
  unfold fn_Mod_letters_L78 at hf
  refine lv_istore (lv' := [(5, .int y0), (0, .ref (ad 95)), (1, .int x1), (2, .int x2), (3, .int x3)]) hx hb zd_Mod_letters_78 hl (by decide) rfl (fun ls hl => ?_)
  refine lv_iload_n hx hb zd_Mod_letters_80 rfl (lv_at hl 3 rfl) ?_
  refine lv_iload hx hb zd_Mod_letters_81 (lv_at hl 0 rfl) ?_
  refine lv_iload_n hx hb zd_Mod_letters_83 rfl (lv_at hl 2 rfl) ?_
  refine lv_icmp_ne (tgt := 91) hx hb zd_Mod_letters_84 (by decide) (fun c13 => ?_) (fun c13 => ?_)
  · have hf := zu_f c13 hf
    refine lv_iconst (v := 0) hx hb zd_Mod_letters_91 (by decide) ?_
    exact zl_Mod_letters_L92 B hret hlk hk23 x1 x3 (0 : Int32) x2 X _ _ _ hP hS (lv_sub hl [1, 2, 4] rfl) hf
  · have hf := zu_t c13 hf
    refine lv_iconst (v := 1) hx hb zd_Mod_letters_87 (by decide) ?_
    refine lv_goto (tgt := 92) hx hb zd_Mod_letters_88 (by decide) ?_
    exact zl_Mod_letters_L92 B hret hlk hk23 x1 x3 (1 : Int32) x2 X _ _ _ hP hS (lv_sub hl [1, 2, 4] rfl) hf
set_option maxHeartbeats 4000000 in
theorem zl_Mod_letters_B23 {p : Program} {l : Launch} {e : Env} {s : State} {m : MethodId} {args : Array Value} {below : List Frame} {meth : Method} {c : Code} {D : va_G} {cA : Nat → ClassId} {ad : Nat → Nat} {A : Nat → Prop} (B : zu_B p s m args c zb_Mod_letters 6 "StonePostModel" D cA ad A) (hret : meth.sig.returnType = (some .int)) (hlk : meth.locks = false) {Y : LX} {res : Int32 × IX} {k23 : Int32 → Int32 → Int32 → IX → Option (Int32 × IX)} (hk23 : ∀ (x1 : Int32) (x2 : Int32) (x3 : Int32) (X : IX) (H : Heap) (locs : List Loc) (ls : Array Slot), va_P D zu_cl (zu_pic cA ad X Y) H → va_S A s.heap H locs → lv_has ls 6 [(0, .ref (ad 95)), (1, .int x1), (2, .int x2), (3, .int x3)] → k23 x1 x2 x3 X = some res → W p l e zR_Mod_letters s m args below meth c H locs 0 0 (MQ below (zu_Qi D cA ad A res.1 res.2 Y) args s 0 0 A) (F0 m 23 ls [])) (x1 : Int32) (x2 : Int32) (x3 : Int32) (X : IX) (H : Heap) (locs : List Loc) (ls : Array Slot) (hP : va_P D zu_cl (zu_pic cA ad X Y) H) (hS : va_S A s.heap H locs) (hl : lv_has ls 6 [(0, .ref (ad 95)), (1, .int x1), (2, .int x2), (3, .int x3)]) (hf : fn_Mod_letters_B23 k23 x1 x2 x3 X = some res) : W p l e zR_Mod_letters s m args below meth c H locs 0 0 (MQ below (zu_Qi D cA ad A res.1 res.2 Y) args s 0 0 A) (F0 m 23 ls []) := by
  obtain ⟨hx, hb, hml, hown, hts, hST⟩ := id B
  unfold fn_Mod_letters_B23 at hf
  refine lv_iload_n hx hb zd_Mod_letters_23 rfl (lv_at hl 3 rfl) ?_
  refine lv_aload_n hx hb zd_Mod_letters_24 rfl (lv_at hl 0 rfl) ?_
  refine zg_Mod_s B hP rfl zq_861 zd_Mod_letters_25 ?_
  refine lv_iconst (v := 2) hx hb zd_Mod_letters_28 (by decide) ?_
  refine zr_iald (j := 2) (by decide) B hP rfl (by decide) rfl (by decide) zd_Mod_letters_29 ?_
  refine lv_icmp_ge (tgt := 100) hx hb zd_Mod_letters_30 (by decide) (fun c7 => ?_) (fun c7 => ?_)
  · have hf := zu_t c7 hf
    refine lv_iload_n hx hb zd_Mod_letters_100 rfl (lv_at hl 2 rfl) ?_
    obtain rfl := Option.some.inj hf
    exact zr_iret hx hb hret hlk hP hS zd_Mod_letters_101
  · have hf := zu_f c7 hf
    refine lv_aload_n hx hb zd_Mod_letters_33 rfl (lv_at hl 0 rfl) ?_
    refine zg_Mod_s B hP rfl zq_861 zd_Mod_letters_34 ?_
    refine lv_bipush (v := 120) hx hb zd_Mod_letters_37 (by decide) ?_
    refine lv_iload_n hx hb zd_Mod_letters_39 rfl (lv_at hl 3 rfl) ?_
    refine lv_iadd hx hb zd_Mod_letters_40 ?_
    obtain ⟨hg8, hf⟩ := zu_gd_e hf
    refine zr_iald rfl B hP rfl (by decide) rfl hg8 zd_Mod_letters_41 ?_
    refine zr_nxi hf (fun v9 hf => ?_)
    refine lv_istore (lv' := [(4, .int v9), (0, .ref (ad 95)), (1, .int x1), (2, .int x2), (3, .int x3)]) hx hb zd_Mod_letters_42 hl (by decide) rfl (fun ls hl => ?_)
    refine lv_iload hx hb zd_Mod_letters_44 (lv_at hl 0 rfl) ?_
    refine lv_aload_n hx hb zd_Mod_letters_46 rfl (lv_at hl 1 rfl) ?_
    refine zg_Mod_s B hP rfl zq_861 zd_Mod_letters_47 ?_
    refine lv_iconst (v := 3) hx hb zd_Mod_letters_50 (by decide) ?_
    refine zr_iald (j := 3) (by decide) B hP rfl (by decide) rfl (by decide) zd_Mod_letters_51 ?_
    refine lv_icmp_ne (tgt := 59) hx hb zd_Mod_letters_52 (by decide) (fun c10 => ?_) (fun c10 => ?_)
    · have hf := zu_f c10 hf
      refine lv_aload_n hx hb zd_Mod_letters_59 rfl (lv_at hl 1 rfl) ?_
      refine zg_Mod_s B hP rfl zq_861 zd_Mod_letters_60 ?_
      refine lv_bipush (v := 6) hx hb zd_Mod_letters_63 (by decide) ?_
      refine lv_iload hx hb zd_Mod_letters_65 (lv_at hl 0 rfl) ?_
      refine lv_iadd hx hb zd_Mod_letters_67 ?_
      obtain ⟨hg11, hf⟩ := zu_gd_e hf
      refine zr_iald rfl B hP rfl (by decide) rfl hg11 zd_Mod_letters_68 ?_
      refine lv_iconst (v := 1) hx hb zd_Mod_letters_69 (by decide) ?_
      refine lv_icmp_ne (tgt := 77) hx hb zd_Mod_letters_70 (by decide) (fun c12 => ?_) (fun c12 => ?_)
      · have hf := zu_f c12 hf
        refine lv_iconst (v := 2) hx hb zd_Mod_letters_77 (by decide) ?_
        exact zl_Mod_letters_L78 B hret hlk hk23 x1 x2 x3 (2 : Int32) X _ _ _ hP hS (lv_sub hl [1, 2, 3, 4] rfl) hf
      · have hf := zu_t c12 hf
        refine lv_iconst (v := 1) hx hb zd_Mod_letters_73 (by decide) ?_
        refine lv_goto (tgt := 78) hx hb zd_Mod_letters_74 (by decide) ?_
        exact zl_Mod_letters_L78 B hret hlk hk23 x1 x2 x3 (1 : Int32) X _ _ _ hP hS (lv_sub hl [1, 2, 3, 4] rfl) hf
    · have hf := zu_t c10 hf
      refine lv_iconst (v := 0) hx hb zd_Mod_letters_55 (by decide) ?_
      refine lv_goto (tgt := 78) hx hb zd_Mod_letters_56 (by decide) ?_
      exact zl_Mod_letters_L78 B hret hlk hk23 x1 x2 x3 (0 : Int32) X _ _ _ hP hS (lv_sub hl [1, 2, 3, 4] rfl) hf
theorem zl_Mod_letters_L23 {p : Program} {l : Launch} {e : Env} {s : State} {m : MethodId} {args : Array Value} {below : List Frame} {meth : Method} {c : Code} {D : va_G} {cA : Nat → ClassId} {ad : Nat → Nat} {A : Nat → Prop} (B : zu_B p s m args c zb_Mod_letters 6 "StonePostModel" D cA ad A) (hret : meth.sig.returnType = (some .int)) (hlk : meth.locks = false) {Y : LX} {res : Int32 × IX} : ∀ (n : Nat) (x1 : Int32) (x2 : Int32) (x3 : Int32) (X : IX) (H : Heap) (locs : List Loc) (ls : Array Slot), va_P D zu_cl (zu_pic cA ad X Y) H → va_S A s.heap H locs → lv_has ls 6 [(0, .ref (ad 95)), (1, .int x1), (2, .int x2), (3, .int x3)] → fn_Mod_letters_L23 n x1 x2 x3 X = some res → W p l e zR_Mod_letters s m args below meth c H locs 0 0 (MQ below (zu_Qi D cA ad A res.1 res.2 Y) args s 0 0 A) (F0 m 23 ls []) := by
  intro n
  induction n with
  | zero =>
    intro x1 x2 x3 X H locs ls hP hS hl hf
    exact (Option.some_ne_none _ hf.symm).elim
  | succ n ih =>
    intro x1 x2 x3 X H locs ls hP hS hl hf
    exact zl_Mod_letters_B23 B hret hlk ih x1 x2 x3 X H locs ls hP hS hl  hf
set_option maxHeartbeats 4000000 in
theorem zl_Mod_letters {p : Program} {l : Launch} {e : Env} {s : State} {m : MethodId} {args : Array Value} {below : List Frame} {meth : Method} {c : Code} {D : va_G} {cA : Nat → ClassId} {ad : Nat → Nat} {A : Nat → Prop} (B : zu_B p s m args c zb_Mod_letters 6 "StonePostModel" D cA ad A) (hret : meth.sig.returnType = (some .int)) (hlk : meth.locks = false) {Y : LX} {res : Int32 × IX} {a1 : Int32} {X : IX} (H : Heap) (locs : List Loc) (ls : Array Slot) (hP : va_P D zu_cl (zu_pic cA ad X Y) H) (hS : va_S A s.heap H locs) (hl : lv_has ls 6 [(0, .ref (ad 95)), (1, .int a1)]) (hf : fn_Mod_letters a1 X = some res) : W p l e zR_Mod_letters s m args below meth c H locs 0 0 (MQ below (zu_Qi D cA ad A res.1 res.2 Y) args s 0 0 A) (F0 m 0 ls []) := by
  obtain ⟨hx, hb, hml, hown, hts, hST⟩ := id B
  unfold fn_Mod_letters at hf
  refine lv_iload_n hx hb zd_Mod_letters_0 rfl (lv_at hl 1 rfl) ?_
  refine lv_i2l hx hb zd_Mod_letters_1 rfl ?_
  refine lv_lconst (v := 0) hx hb zd_Mod_letters_2 (by decide) ?_
  refine lv_ldc2 (v := 2) hx hb hown (hts _ zq_1089) zd_Mod_letters_3 ?_
  obtain ⟨v1, hq2, hf⟩ := zu_b1_e hf
  refine zw_Mod_in (rest := []) B hP hS hq2 zq_939 (Nat.le_of_ble_eq_true rfl) (Nat.le_of_ble_eq_true rfl) hl.1 rfl (Nat.le_of_ble_eq_true rfl) zd_Mod_letters_6 (by decide) (fun H locs hP hS => ?_)
  clear hq2
  refine lv_if_ne (tgt := 19) hx hb zd_Mod_letters_9 (by decide) (fun c3 => ?_) (fun c3 => ?_)
  · have hf := zu_f c3 hf
    refine lv_iconst (v := 0) hx hb zd_Mod_letters_19 (by decide) ?_
    refine lv_istore_n (lv' := [(2, .int (0 : Int32)), (0, .ref (ad 95)), (1, .int a1)]) hx hb zd_Mod_letters_20 rfl hl (by decide) rfl (fun ls hl => ?_)
    refine lv_iconst (v := 0) hx hb zd_Mod_letters_21 (by decide) ?_
    refine lv_istore_n (lv' := [(3, .int (0 : Int32)), (2, .int (0 : Int32)), (0, .ref (ad 95)), (1, .int a1)]) hx hb zd_Mod_letters_22 rfl hl (by decide) rfl (fun ls hl => ?_)
    exact zl_Mod_letters_L23 B hret hlk 400 a1 (0 : Int32) (0 : Int32) X _ _ _ hP hS (lv_sub hl [2, 3, 1, 0] rfl) hf
  · have hf := zu_t c3 hf
    refine lv_aload_n hx hb zd_Mod_letters_12 rfl (lv_at hl 0 rfl) ?_
    refine lv_ldc (v := -1000001) hx hb hown (hts _ zq_943) zd_Mod_letters_13 ?_
    obtain ⟨v4, X5, hq6, hf⟩ := zu_b2_e hf
    refine zw_Mod_finds (rest := []) B hP hS hq6 zq_944 (Nat.le_of_ble_eq_true rfl) (Nat.le_of_ble_eq_true rfl) hl.1 rfl (Nat.le_of_ble_eq_true rfl) zd_Mod_letters_15 (by decide) (fun H locs hP hS => ?_)
    clear hq6
    obtain rfl := Option.some.inj hf
    exact zr_iret hx hb hret hlk hP hS zd_Mod_letters_18
theorem zC_Mod_letters (l : Launch) {D : va_G} {cA : Nat → ClassId} {ad : Nat → Nat} {A : Nat → Prop} {a1 : Int32} {X : IX} {Y : LX} {res : Int32 × IX} (hf : fn_Mod_letters a1 X = some res) : Met l zm_Mod_letters (zu_ws zm_Mod_letters zb_Mod_letters 6 (some .int)) zR_Mod_letters (va_Pc [.ref (ad 95), .int a1] (zu_Pre D cA ad A X Y)) (zu_Qi D cA ad A res.1 res.2 Y) 0 0 A := by
  refine Met.ofW (cc := zb_Mod_letters) (maxL := 6) (ret := (some .int)) (by decide +kernel) rfl ?_
  intro p e s m args below meth c s₁ B0 hml hv
  obtain ⟨rfl, hP, hST⟩ := hv
  have B : zu_B p s m _ c zb_Mod_letters 6 "StonePostModel" D cA ad A := ⟨B0.exec, B0.bytes, hml, findClass_of_methodNamed B0.named, (fun w hw => atoms_spec (ws := zu_ws zm_Mod_letters zb_Mod_letters 6 (some .int)) B0.pre w (List.mem_cons_of_mem _ hw)), hST⟩
  have hl := lv_entry ([.ref (ad 95), .int a1]) (n := 6) (Nat.le_of_ble_eq_true rfl)
  rw [lg_entry_eq]
  generalize (lg_sl ([.ref (ad 95), .int a1]) ++ List.replicate (6 - (lg_sl ([.ref (ad 95), .int a1])).length) Slot.unset).toArray = ls at hl ⊢
  exact zl_Mod_letters B B0.returns B0.notSynchronized s.heap [] ls hP va_S.rf hl  hf
theorem zw_Mod_letters {p : Program} {l : Launch} {e : Env} {R : Room} {s : State} {m : MethodId} {args : Array Value} {below : List Frame} {meth : Method} {c : Code} {H : Heap} {locs : List Loc} {cells slots : Nat} {Q : State → Prop} {cc : ByteArray} {pc nL : Nat} {ls : Array Slot} {rest st0 : List Value} {D : va_G} {cA : Nat → ClassId} {ad : Nat → Nat} {A : Nat → Prop} {X : IX} {Y : LX} {own : String} {index : Nat} {a1 : Int32} {v1 : Int32} {X1 : IX} (B : zu_B p s m args c cc nL own D cA ad A) (hP : va_P D zu_cl (zu_pic cA ad X Y) H) (hS : va_S A s.heap H locs) (hq : fn_Mod_letters a1 X = some (v1, X1)) (m1 : Cond.methodLink own index zm_Mod_letters ∈ zu_TB) (hR1 : 1 + 1 ≤ R.frames) (hR2 : 8 + (6 + 11) + 25 ≤ R.locals) (hsz : ls.size = nL) (hst : st0 = .int a1 :: .ref (ad 95) :: rest) (hw : (rest.map fun v => v.category).sum ≤ 8) (hdg : decode cc pc = .ok (.invokevirtual index, 3)) (h00 : cells ≤ R.cells ∧ slots ≤ R.slots) (kk : ∀ (H1 : Heap) (locs1 : List Loc), va_P D zu_cl (zu_pic cA ad X1 Y) H1 → va_S A s.heap H1 locs1 → W p l e R s m args below meth c H1 locs1 cells slots Q (F0 m (pc + 3) ls (.int v1 :: rest))) : W p l e R s m args below meth c H locs cells slots Q (F0 m pc ls st0) := by
  subst hst
  exact zr_cVi (As := [.int a1]) (rest := rest) (n := 1) (C := "StonePostModel") (T := zt_Mod) (N := 23) B hP hS (zC_Mod_letters l  hq) (K := 7) rfl (by decide) (by decide) rfl rfl m1 zq_1086 zq_1087 zq_8 zq_1088 (by decide +kernel) ⟨hR1, hR2⟩ rfl rfl rfl hsz rfl hw hdg h00 kk
abbrev zR_Mod_all : Room := { frames := 0, cells := 0, slots := 0, locals := 0 }
theorem zd_Mod_all_0 : decode zb_Mod_all 0 = .ok (.lconst 1, 1) := by decide +kernel
theorem zd_Mod_all_1 : decode zb_Mod_all 1 = .ok (.lstore_n 1, 1) := by decide +kernel
theorem zd_Mod_all_2 : decode zb_Mod_all 2 = .ok (.iconst 0, 1) := by decide +kernel
theorem zd_Mod_all_3 : decode zb_Mod_all 3 = .ok (.istore_n 3, 1) := by decide +kernel
theorem zd_Mod_all_4 : decode zb_Mod_all 4 = .ok (.iload_n 3, 1) := by decide +kernel
theorem zd_Mod_all_5 : decode zb_Mod_all 5 = .ok (.iload_n 0, 1) := by decide +kernel
theorem zd_Mod_all_6 : decode zb_Mod_all 6 = .ok (.if_icmp .ge 15, 3) := by decide +kernel
theorem zd_Mod_all_9 : decode zb_Mod_all 9 = .ok (.lload_n 1, 1) := by decide +kernel
theorem zd_Mod_all_10 : decode zb_Mod_all 10 = .ok (.ldc2_w 92, 3) := by decide +kernel
theorem zd_Mod_all_13 : decode zb_Mod_all 13 = .ok (.lmul, 1) := by decide +kernel
theorem zd_Mod_all_14 : decode zb_Mod_all 14 = .ok (.lstore_n 1, 1) := by decide +kernel
theorem zd_Mod_all_15 : decode zb_Mod_all 15 = .ok (.iinc 3 1, 3) := by decide +kernel
theorem zd_Mod_all_18 : decode zb_Mod_all 18 = .ok (.goto (-14), 3) := by decide +kernel
theorem zd_Mod_all_21 : decode zb_Mod_all 21 = .ok (.lload_n 1, 1) := by decide +kernel
theorem zd_Mod_all_22 : decode zb_Mod_all 22 = .ok (.lreturn, 1) := by decide +kernel
set_option maxHeartbeats 4000000 in
theorem zl_Mod_all_B4 {p : Program} {l : Launch} {e : Env} {s : State} {m : MethodId} {args : Array Value} {below : List Frame} {meth : Method} {c : Code} {D : va_G} {cA : Nat → ClassId} {ad : Nat → Nat} {A : Nat → Prop} (B : zu_B p s m args c zb_Mod_all 4 "StonePostModel" D cA ad A) (hret : meth.sig.returnType = (some .long)) (hlk : meth.locks = false) {X : IX} {Y : LX} {res : Int64} {k4 : Int32 → Int64 → Int32 → Option Int64} (hk4 : ∀ (x0 : Int32) (x1 : Int64) (x3 : Int32) (H : Heap) (locs : List Loc) (ls : Array Slot), va_P D zu_cl (zu_pic cA ad X Y) H → va_S A s.heap H locs → lv_has ls 4 [(0, .int x0), (1, .long x1), (3, .int x3)] → k4 x0 x1 x3 = some res → W p l e zR_Mod_all s m args below meth c H locs 0 0 (MQ below (zu_Ql D cA ad A res X Y) args s 0 0 A) (F0 m 4 ls [])) (x0 : Int32) (x1 : Int64) (x3 : Int32) (H : Heap) (locs : List Loc) (ls : Array Slot) (hP : va_P D zu_cl (zu_pic cA ad X Y) H) (hS : va_S A s.heap H locs) (hl : lv_has ls 4 [(0, .int x0), (1, .long x1), (3, .int x3)]) (hf : fn_Mod_all_B4 k4 x0 x1 x3 = some res) : W p l e zR_Mod_all s m args below meth c H locs 0 0 (MQ below (zu_Ql D cA ad A res X Y) args s 0 0 A) (F0 m 4 ls []) := by
  obtain ⟨hx, hb, hml, hown, hts, hST⟩ := id B
  unfold fn_Mod_all_B4 at hf
  refine lv_iload_n hx hb zd_Mod_all_4 rfl (lv_at hl 2 rfl) ?_
  refine lv_iload_n hx hb zd_Mod_all_5 rfl (lv_at hl 0 rfl) ?_
  refine lv_icmp_ge (tgt := 21) hx hb zd_Mod_all_6 (by decide) (fun c1 => ?_) (fun c1 => ?_)
  · have hf := zu_t c1 hf
    refine lv_lload_n hx hb zd_Mod_all_21 rfl (lv_at hl 1 rfl) ?_
    obtain rfl := Option.some.inj hf
    exact zr_lret hx hb hret hlk hP hS zd_Mod_all_22
  · have hf := zu_f c1 hf
    refine lv_lload_n hx hb zd_Mod_all_9 rfl (lv_at hl 1 rfl) ?_
    refine lv_ldc2 (v := 12) hx hb hown (hts _ zq_991) zd_Mod_all_10 ?_
    refine lv_lmul hx hb zd_Mod_all_13 ?_
    refine zr_nxl hf (fun v2 hf => ?_)
    refine lv_lstore_n (lv' := [(1, .long v2), (0, .int x0), (3, .int x3)]) hx hb zd_Mod_all_14 rfl hl (by decide) rfl (fun ls hl => ?_)
    obtain ⟨v3, ev3, hf⟩ := zu_nx_e hf
    refine lv_iinc (v := v3) (lv' := [(3, .int v3), (1, .long v2), (0, .int x0)]) hx hb zd_Mod_all_15 hl (k := 2) rfl (by rw [ev3]; rfl) (by decide) rfl (fun ls hl => ?_)
    clear ev3
    refine lv_goto (tgt := 4) hx hb zd_Mod_all_18 (by decide) ?_
    exact hk4 x0 v2 v3 _ _ _ hP hS (lv_sub hl [2, 1, 0] rfl) hf
theorem zl_Mod_all_L4 {p : Program} {l : Launch} {e : Env} {s : State} {m : MethodId} {args : Array Value} {below : List Frame} {meth : Method} {c : Code} {D : va_G} {cA : Nat → ClassId} {ad : Nat → Nat} {A : Nat → Prop} (B : zu_B p s m args c zb_Mod_all 4 "StonePostModel" D cA ad A) (hret : meth.sig.returnType = (some .long)) (hlk : meth.locks = false) {X : IX} {Y : LX} {res : Int64} : ∀ (n : Nat) (x0 : Int32) (x1 : Int64) (x3 : Int32) (H : Heap) (locs : List Loc) (ls : Array Slot), va_P D zu_cl (zu_pic cA ad X Y) H → va_S A s.heap H locs → lv_has ls 4 [(0, .int x0), (1, .long x1), (3, .int x3)] → fn_Mod_all_L4 n x0 x1 x3 = some res → W p l e zR_Mod_all s m args below meth c H locs 0 0 (MQ below (zu_Ql D cA ad A res X Y) args s 0 0 A) (F0 m 4 ls []) := by
  intro n
  induction n with
  | zero =>
    intro x0 x1 x3 H locs ls hP hS hl hf
    exact (Option.some_ne_none _ hf.symm).elim
  | succ n ih =>
    intro x0 x1 x3 H locs ls hP hS hl hf
    exact zl_Mod_all_B4 B hret hlk ih x0 x1 x3 H locs ls hP hS hl  hf
set_option maxHeartbeats 4000000 in
theorem zl_Mod_all {p : Program} {l : Launch} {e : Env} {s : State} {m : MethodId} {args : Array Value} {below : List Frame} {meth : Method} {c : Code} {D : va_G} {cA : Nat → ClassId} {ad : Nat → Nat} {A : Nat → Prop} (B : zu_B p s m args c zb_Mod_all 4 "StonePostModel" D cA ad A) (hret : meth.sig.returnType = (some .long)) (hlk : meth.locks = false) {X : IX} {Y : LX} {res : Int64} {a0 : Int32} (H : Heap) (locs : List Loc) (ls : Array Slot) (hP : va_P D zu_cl (zu_pic cA ad X Y) H) (hS : va_S A s.heap H locs) (hl : lv_has ls 4 [(0, .int a0)]) (hf : fn_Mod_all a0 = some res) : W p l e zR_Mod_all s m args below meth c H locs 0 0 (MQ below (zu_Ql D cA ad A res X Y) args s 0 0 A) (F0 m 0 ls []) := by
  obtain ⟨hx, hb, hml, hown, hts, hST⟩ := id B
  unfold fn_Mod_all at hf
  refine lv_lconst (v := 1) hx hb zd_Mod_all_0 (by decide) ?_
  refine lv_lstore_n (lv' := [(1, .long (1 : Int64)), (0, .int a0)]) hx hb zd_Mod_all_1 rfl hl (by decide) rfl (fun ls hl => ?_)
  refine lv_iconst (v := 0) hx hb zd_Mod_all_2 (by decide) ?_
  refine lv_istore_n (lv' := [(3, .int (0 : Int32)), (1, .long (1 : Int64)), (0, .int a0)]) hx hb zd_Mod_all_3 rfl hl (by decide) rfl (fun ls hl => ?_)
  exact zl_Mod_all_L4 B hret hlk 400 a0 (1 : Int64) (0 : Int32) _ _ _ hP hS (lv_sub hl [2, 1, 0] rfl) hf
theorem zC_Mod_all (l : Launch) {D : va_G} {cA : Nat → ClassId} {ad : Nat → Nat} {A : Nat → Prop} {a0 : Int32} {X : IX} {Y : LX} {res : Int64} (hf : fn_Mod_all a0 = some res) : Met l zm_Mod_all (zu_ws zm_Mod_all zb_Mod_all 4 (some .long)) zR_Mod_all (va_Pc [.int a0] (zu_Pre D cA ad A X Y)) (zu_Ql D cA ad A res X Y) 0 0 A := by
  refine Met.ofW (cc := zb_Mod_all) (maxL := 4) (ret := (some .long)) (by decide +kernel) rfl ?_
  intro p e s m args below meth c s₁ B0 hml hv
  obtain ⟨rfl, hP, hST⟩ := hv
  have B : zu_B p s m _ c zb_Mod_all 4 "StonePostModel" D cA ad A := ⟨B0.exec, B0.bytes, hml, findClass_of_methodNamed B0.named, (fun w hw => atoms_spec (ws := zu_ws zm_Mod_all zb_Mod_all 4 (some .long)) B0.pre w (List.mem_cons_of_mem _ hw)), hST⟩
  have hl := lv_entry ([.int a0]) (n := 4) (Nat.le_of_ble_eq_true rfl)
  rw [lg_entry_eq]
  generalize (lg_sl ([.int a0]) ++ List.replicate (4 - (lg_sl ([.int a0])).length) Slot.unset).toArray = ls at hl ⊢
  exact zl_Mod_all B B0.returns B0.notSynchronized s.heap [] ls hP va_S.rf hl  hf
theorem zw_Mod_all {p : Program} {l : Launch} {e : Env} {R : Room} {s : State} {m : MethodId} {args : Array Value} {below : List Frame} {meth : Method} {c : Code} {H : Heap} {locs : List Loc} {cells slots : Nat} {Q : State → Prop} {cc : ByteArray} {pc nL : Nat} {ls : Array Slot} {rest st0 : List Value} {D : va_G} {cA : Nat → ClassId} {ad : Nat → Nat} {A : Nat → Prop} {X : IX} {Y : LX} {own : String} {index : Nat} {a0 : Int32} {v1 : Int64} (B : zu_B p s m args c cc nL own D cA ad A) (hP : va_P D zu_cl (zu_pic cA ad X Y) H) (hS : va_S A s.heap H locs) (hq : fn_Mod_all a0 = some v1) (m1 : Cond.methodLink own index zm_Mod_all ∈ zu_TB) (hR1 : 0 + 1 ≤ R.frames) (hR2 : 8 + (4 + 11) + 0 ≤ R.locals) (hsz : ls.size = nL) (hst : st0 = .int a0 ::  rest) (hw : (rest.map fun v => v.category).sum ≤ 8) (hdg : decode cc pc = .ok (.invokestatic index, 3)) (h00 : cells ≤ R.cells ∧ slots ≤ R.slots) (kk : ∀ (H1 : Heap) (locs1 : List Loc), va_P D zu_cl (zu_pic cA ad X Y) H1 → va_S A s.heap H1 locs1 → W p l e R s m args below meth c H1 locs1 cells slots Q (F0 m (pc + 3) ls (.long v1 :: rest))) : W p l e R s m args below meth c H locs cells slots Q (F0 m pc ls st0) := by
  subst hst
  exact zr_cSl (As := [.int a0]) (rest := rest) (n := 1) B hP hS (zC_Mod_all l  hq) m1 zq_1203 zq_8 zq_1204 (by decide +kernel) ⟨hR1, hR2⟩ rfl rfl rfl hsz rfl hw hdg h00 kk
