abbrev zR_Mod_of : Room := { frames := 2, cells := 0, slots := 0, locals := 46 }
theorem zd_Mod_of_0 : decode zb_Mod_of 0 = .ok (.aload_n 0, 1) := by decide +kernel
theorem zd_Mod_of_1 : decode zb_Mod_of 1 = .ok (.iload_n 1, 1) := by decide +kernel
theorem zd_Mod_of_2 : decode zb_Mod_of 2 = .ok (.invokevirtual 87, 3) := by decide +kernel
theorem zd_Mod_of_5 : decode zb_Mod_of 5 = .ok (.ifCond .eq 24, 3) := by decide +kernel
theorem zd_Mod_of_8 : decode zb_Mod_of 8 = .ok (.iload_n 2, 1) := by decide +kernel
theorem zd_Mod_of_9 : decode zb_Mod_of 9 = .ok (.i2l, 1) := by decide +kernel
theorem zd_Mod_of_10 : decode zb_Mod_of 10 = .ok (.lconst 0, 1) := by decide +kernel
theorem zd_Mod_of_11 : decode zb_Mod_of 11 = .ok (.ldc2_w 90, 3) := by decide +kernel
theorem zd_Mod_of_14 : decode zb_Mod_of 14 = .ok (.invokestatic 53, 3) := by decide +kernel
theorem zd_Mod_of_17 : decode zb_Mod_of 17 = .ok (.ifCond .eq 12, 3) := by decide +kernel
theorem zd_Mod_of_20 : decode zb_Mod_of 20 = .ok (.aload_n 0, 1) := by decide +kernel
theorem zd_Mod_of_21 : decode zb_Mod_of 21 = .ok (.iload_n 1, 1) := by decide +kernel
theorem zd_Mod_of_22 : decode zb_Mod_of 22 = .ok (.iload_n 2, 1) := by decide +kernel
theorem zd_Mod_of_23 : decode zb_Mod_of 23 = .ok (.invokevirtual 74, 3) := by decide +kernel
theorem zd_Mod_of_26 : decode zb_Mod_of 26 = .ok (.goto 9, 3) := by decide +kernel
theorem zd_Mod_of_29 : decode zb_Mod_of 29 = .ok (.aload_n 0, 1) := by decide +kernel
theorem zd_Mod_of_30 : decode zb_Mod_of 30 = .ok (.ldc 50, 2) := by decide +kernel
theorem zd_Mod_of_32 : decode zb_Mod_of 32 = .ok (.invokevirtual 64, 3) := by decide +kernel
theorem zd_Mod_of_35 : decode zb_Mod_of 35 = .ok (.ireturn, 1) := by decide +kernel
set_option maxHeartbeats 4000000 in
theorem zl_Mod_of_L35 {p : Program} {l : Launch} {e : Env} {s : State} {m : MethodId} {args : Array Value} {below : List Frame} {meth : Method} {c : Code} {D : va_G} {cA : Nat → ClassId} {ad : Nat → Nat} {A : Nat → Prop} (B : zu_B p s m args c zb_Mod_of 3 "StonePostModel" D cA ad A) (hret : meth.sig.returnType = (some .int)) (hlk : meth.locks = false) {Y : LX} {res : Int32 × IX} (y0 : Int32) (X : IX) (H : Heap) (locs : List Loc) (ls : Array Slot) (hP : va_P D zu_cl (zu_pic cA ad X Y) H) (hS : va_S A s.heap H locs) (hl : lv_has ls 3 []) (hf : fn_Mod_of_L35 y0 X = some res) : W p l e zR_Mod_of s m args below meth c H locs 0 0 (MQ below (zu_Qi D cA ad A res.1 res.2 Y) args s 0 0 A) (F0 m 35 ls [.int y0]) := by
  obtain ⟨hx, hb, hml, hown, hts, hST⟩ := id B
  unfold fn_Mod_of_L35 at hf
  obtain rfl := Option.some.inj hf
  exact zr_iret hx hb hret hlk hP hS zd_Mod_of_35
set_option maxHeartbeats 4000000 in
theorem zl_Mod_of_L29 {p : Program} {l : Launch} {e : Env} {s : State} {m : MethodId} {args : Array Value} {below : List Frame} {meth : Method} {c : Code} {D : va_G} {cA : Nat → ClassId} {ad : Nat → Nat} {A : Nat → Prop} (B : zu_B p s m args c zb_Mod_of 3 "StonePostModel" D cA ad A) (hret : meth.sig.returnType = (some .int)) (hlk : meth.locks = false) {Y : LX} {res : Int32 × IX} (X : IX) (H : Heap) (locs : List Loc) (ls : Array Slot) (hP : va_P D zu_cl (zu_pic cA ad X Y) H) (hS : va_S A s.heap H locs) (hl : lv_has ls 3 [(0, .ref (ad 95))]) (hf : fn_Mod_of_L29 X = some res) : W p l e zR_Mod_of s m args below meth c H locs 0 0 (MQ below (zu_Qi D cA ad A res.1 res.2 Y) args s 0 0 A) (F0 m 29 ls []) := by
  obtain ⟨hx, hb, hml, hown, hts, hST⟩ := id B
  unfold fn_Mod_of_L29 at hf
  refine lv_aload_n hx hb zd_Mod_of_29 rfl (lv_at hl 0 rfl) ?_
  refine lv_ldc (v := -1000001) hx hb hown (hts _ zq_943) zd_Mod_of_30 ?_
  obtain ⟨v9, X10, hq11, hf⟩ := zu_b2_e hf
  refine zw_Mod_finds (rest := []) B hP hS hq11 zq_944 (Nat.le_of_ble_eq_true rfl) (Nat.le_of_ble_eq_true rfl) hl.1 rfl (Nat.le_of_ble_eq_true rfl) zd_Mod_of_32 (by decide) (fun H locs hP hS => ?_)
  clear hq11
  exact zl_Mod_of_L35 B hret hlk v9 X10 _ _ _ hP hS (lv_sub hl [] rfl) hf
set_option maxHeartbeats 4000000 in
theorem zl_Mod_of {p : Program} {l : Launch} {e : Env} {s : State} {m : MethodId} {args : Array Value} {below : List Frame} {meth : Method} {c : Code} {D : va_G} {cA : Nat → ClassId} {ad : Nat → Nat} {A : Nat → Prop} (B : zu_B p s m args c zb_Mod_of 3 "StonePostModel" D cA ad A) (hret : meth.sig.returnType = (some .int)) (hlk : meth.locks = false) {Y : LX} {res : Int32 × IX} {a1 : Int32} {a2 : Int32} {X : IX} (H : Heap) (locs : List Loc) (ls : Array Slot) (hP : va_P D zu_cl (zu_pic cA ad X Y) H) (hS : va_S A s.heap H locs) (hl : lv_has ls 3 [(0, .ref (ad 95)), (1, .int a1), (2, .int a2)]) (hf : fn_Mod_of a1 a2 X = some res) : W p l e zR_Mod_of s m args below meth c H locs 0 0 (MQ below (zu_Qi D cA ad A res.1 res.2 Y) args s 0 0 A) (F0 m 0 ls []) := by
  obtain ⟨hx, hb, hml, hown, hts, hST⟩ := id B
  unfold fn_Mod_of at hf
  refine lv_aload_n hx hb zd_Mod_of_0 rfl (lv_at hl 0 rfl) ?_
  refine lv_iload_n hx hb zd_Mod_of_1 rfl (lv_at hl 1 rfl) ?_
  obtain ⟨v1, hq2, hf⟩ := zu_b1_e hf
  refine zw_Mod_isThrower (rest := []) B hP hS hq2 zq_979 (Nat.le_of_ble_eq_true rfl) (Nat.le_of_ble_eq_true rfl) hl.1 rfl (Nat.le_of_ble_eq_true rfl) zd_Mod_of_2 (by decide) (fun H locs hP hS => ?_)
  clear hq2
  refine lv_if_eq (tgt := 29) hx hb zd_Mod_of_5 (by decide) (fun c3 => ?_) (fun c3 => ?_)
  · have hf := zu_t c3 hf
    exact zl_Mod_of_L29 B hret hlk X _ _ _ hP hS (lv_sub hl [0] rfl) hf
  · have hf := zu_f c3 hf
    refine lv_iload_n hx hb zd_Mod_of_8 rfl (lv_at hl 2 rfl) ?_
    refine lv_i2l hx hb zd_Mod_of_9 rfl ?_
    refine lv_lconst (v := 0) hx hb zd_Mod_of_10 (by decide) ?_
    refine lv_ldc2 (v := 8) hx hb hown (hts _ zq_983) zd_Mod_of_11 ?_
    obtain ⟨v4, hq5, hf⟩ := zu_b1_e hf
    refine zw_Mod_in (rest := []) B hP hS hq5 zq_939 (Nat.le_of_ble_eq_true rfl) (Nat.le_of_ble_eq_true rfl) hl.1 rfl (Nat.le_of_ble_eq_true rfl) zd_Mod_of_14 (by decide) (fun H locs hP hS => ?_)
    clear hq5
    refine lv_if_eq (tgt := 29) hx hb zd_Mod_of_17 (by decide) (fun c6 => ?_) (fun c6 => ?_)
    · have hf := zu_t c6 hf
      exact zl_Mod_of_L29 B hret hlk X _ _ _ hP hS (lv_sub hl [0] rfl) hf
    · have hf := zu_f c6 hf
      refine lv_aload_n hx hb zd_Mod_of_20 rfl (lv_at hl 0 rfl) ?_
      refine lv_iload_n hx hb zd_Mod_of_21 rfl (lv_at hl 1 rfl) ?_
      refine lv_iload_n hx hb zd_Mod_of_22 rfl (lv_at hl 2 rfl) ?_
      obtain ⟨v7, hq8, hf⟩ := zu_b1_e hf
      refine zw_Mod_its (rest := []) B hP hS hq8 zq_962 (Nat.le_of_ble_eq_true rfl) (Nat.le_of_ble_eq_true rfl) hl.1 rfl (Nat.le_of_ble_eq_true rfl) zd_Mod_of_23 (by decide) (fun H locs hP hS => ?_)
      clear hq8
      refine lv_goto (tgt := 35) hx hb zd_Mod_of_26 (by decide) ?_
      exact zl_Mod_of_L35 B hret hlk v7 X _ _ _ hP hS (lv_sub hl [] rfl) hf
theorem zC_Mod_of (l : Launch) {D : va_G} {cA : Nat → ClassId} {ad : Nat → Nat} {A : Nat → Prop} {a1 : Int32} {a2 : Int32} {X : IX} {Y : LX} {res : Int32 × IX} (hf : fn_Mod_of a1 a2 X = some res) : Met l zm_Mod_of (zu_ws zm_Mod_of zb_Mod_of 3 (some .int)) zR_Mod_of (va_Pc [.ref (ad 95), .int a1, .int a2] (zu_Pre D cA ad A X Y)) (zu_Qi D cA ad A res.1 res.2 Y) 0 0 A := by
  refine Met.ofW (cc := zb_Mod_of) (maxL := 3) (ret := (some .int)) (by decide +kernel) rfl ?_
  intro p e s m args below meth c s₁ B0 hml hv
  obtain ⟨rfl, hP, hST⟩ := hv
  have B : zu_B p s m _ c zb_Mod_of 3 "StonePostModel" D cA ad A := ⟨B0.exec, B0.bytes, hml, findClass_of_methodNamed B0.named, (fun w hw => atoms_spec (ws := zu_ws zm_Mod_of zb_Mod_of 3 (some .int)) B0.pre w (List.mem_cons_of_mem _ hw)), hST⟩
  have hl := lv_entry ([.ref (ad 95), .int a1, .int a2]) (n := 3) (Nat.le_of_ble_eq_true rfl)
  rw [lg_entry_eq]
  generalize (lg_sl ([.ref (ad 95), .int a1, .int a2]) ++ List.replicate (3 - (lg_sl ([.ref (ad 95), .int a1, .int a2])).length) Slot.unset).toArray = ls at hl ⊢
  exact zl_Mod_of B B0.returns B0.notSynchronized s.heap [] ls hP va_S.rf hl  hf
theorem zw_Mod_of {p : Program} {l : Launch} {e : Env} {R : Room} {s : State} {m : MethodId} {args : Array Value} {below : List Frame} {meth : Method} {c : Code} {H : Heap} {locs : List Loc} {cells slots : Nat} {Q : State → Prop} {cc : ByteArray} {pc nL : Nat} {ls : Array Slot} {rest st0 : List Value} {D : va_G} {cA : Nat → ClassId} {ad : Nat → Nat} {A : Nat → Prop} {X : IX} {Y : LX} {own : String} {index : Nat} {a1 : Int32} {a2 : Int32} {v1 : Int32} {X1 : IX} (B : zu_B p s m args c cc nL own D cA ad A) (hP : va_P D zu_cl (zu_pic cA ad X Y) H) (hS : va_S A s.heap H locs) (hq : fn_Mod_of a1 a2 X = some (v1, X1)) (m1 : Cond.methodLink own index zm_Mod_of ∈ zu_TB) (hR1 : 2 + 1 ≤ R.frames) (hR2 : 8 + (3 + 11) + 46 ≤ R.locals) (hsz : ls.size = nL) (hst : st0 = .int a2 :: .int a1 :: .ref (ad 95) :: rest) (hw : (rest.map fun v => v.category).sum ≤ 8) (hdg : decode cc pc = .ok (.invokevirtual index, 3)) (h00 : cells ≤ R.cells ∧ slots ≤ R.slots) (kk : ∀ (H1 : Heap) (locs1 : List Loc), va_P D zu_cl (zu_pic cA ad X1 Y) H1 → va_S A s.heap H1 locs1 → W p l e R s m args below meth c H1 locs1 cells slots Q (F0 m (pc + 3) ls (.int v1 :: rest))) : W p l e R s m args below meth c H locs cells slots Q (F0 m pc ls st0) := by
  subst hst
  exact zr_cVi (As := [.int a1, .int a2]) (rest := rest) (n := 2) (C := "StonePostModel") (T := zt_Mod) (N := 23) B hP hS (zC_Mod_of l  hq) (K := 7) rfl (by decide) (by decide) rfl rfl m1 zq_976 zq_977 zq_8 zq_978 (by decide +kernel) ⟨hR1, hR2⟩ rfl rfl rfl hsz rfl hw hdg h00 kk
abbrev zR_Mod_isPart : Room := { frames := 1, cells := 0, slots := 0, locals := 25 }
theorem zd_Mod_isPart_0 : decode zb_Mod_isPart 0 = .ok (.iload_n 0, 1) := by decide +kernel
theorem zd_Mod_isPart_1 : decode zb_Mod_isPart 1 = .ok (.tableswitch 79 0 5 #[39, 79, 49, 59, 79, 69], 39) := by decide +kernel
theorem zd_Mod_isPart_40 : decode zb_Mod_isPart 40 = .ok (.iload_n 1, 1) := by decide +kernel
theorem zd_Mod_isPart_41 : decode zb_Mod_isPart 41 = .ok (.i2l, 1) := by decide +kernel
theorem zd_Mod_isPart_42 : decode zb_Mod_isPart 42 = .ok (.lconst 0, 1) := by decide +kernel
theorem zd_Mod_isPart_43 : decode zb_Mod_isPart 43 = .ok (.ldc2_w 77, 3) := by decide +kernel
theorem zd_Mod_isPart_46 : decode zb_Mod_isPart 46 = .ok (.invokestatic 53, 3) := by decide +kernel
theorem zd_Mod_isPart_49 : decode zb_Mod_isPart 49 = .ok (.ireturn, 1) := by decide +kernel
theorem zd_Mod_isPart_50 : decode zb_Mod_isPart 50 = .ok (.iload_n 1, 1) := by decide +kernel
theorem zd_Mod_isPart_51 : decode zb_Mod_isPart 51 = .ok (.i2l, 1) := by decide +kernel
theorem zd_Mod_isPart_52 : decode zb_Mod_isPart 52 = .ok (.lconst 1, 1) := by decide +kernel
theorem zd_Mod_isPart_53 : decode zb_Mod_isPart 53 = .ok (.ldc2_w 68, 3) := by decide +kernel
theorem zd_Mod_isPart_56 : decode zb_Mod_isPart 56 = .ok (.invokestatic 53, 3) := by decide +kernel
theorem zd_Mod_isPart_59 : decode zb_Mod_isPart 59 = .ok (.ireturn, 1) := by decide +kernel
theorem zd_Mod_isPart_60 : decode zb_Mod_isPart 60 = .ok (.iload_n 1, 1) := by decide +kernel
theorem zd_Mod_isPart_61 : decode zb_Mod_isPart 61 = .ok (.i2l, 1) := by decide +kernel
theorem zd_Mod_isPart_62 : decode zb_Mod_isPart 62 = .ok (.lconst 1, 1) := by decide +kernel
theorem zd_Mod_isPart_63 : decode zb_Mod_isPart 63 = .ok (.ldc2_w 92, 3) := by decide +kernel
theorem zd_Mod_isPart_66 : decode zb_Mod_isPart 66 = .ok (.invokestatic 53, 3) := by decide +kernel
theorem zd_Mod_isPart_69 : decode zb_Mod_isPart 69 = .ok (.ireturn, 1) := by decide +kernel
theorem zd_Mod_isPart_70 : decode zb_Mod_isPart 70 = .ok (.iload_n 1, 1) := by decide +kernel
theorem zd_Mod_isPart_71 : decode zb_Mod_isPart 71 = .ok (.i2l, 1) := by decide +kernel
theorem zd_Mod_isPart_72 : decode zb_Mod_isPart 72 = .ok (.lconst 0, 1) := by decide +kernel
theorem zd_Mod_isPart_73 : decode zb_Mod_isPart 73 = .ok (.ldc2_w 92, 3) := by decide +kernel
theorem zd_Mod_isPart_76 : decode zb_Mod_isPart 76 = .ok (.invokestatic 53, 3) := by decide +kernel
theorem zd_Mod_isPart_79 : decode zb_Mod_isPart 79 = .ok (.ireturn, 1) := by decide +kernel
theorem zd_Mod_isPart_80 : decode zb_Mod_isPart 80 = .ok (.iload_n 0, 1) := by decide +kernel
theorem zd_Mod_isPart_81 : decode zb_Mod_isPart 81 = .ok (.iconst 4, 1) := by decide +kernel
theorem zd_Mod_isPart_82 : decode zb_Mod_isPart 82 = .ok (.if_icmp .eq 15, 3) := by decide +kernel
theorem zd_Mod_isPart_85 : decode zb_Mod_isPart 85 = .ok (.iload_n 0, 1) := by decide +kernel
theorem zd_Mod_isPart_86 : decode zb_Mod_isPart 86 = .ok (.bipush 6, 2) := by decide +kernel
theorem zd_Mod_isPart_88 : decode zb_Mod_isPart 88 = .ok (.if_icmp .eq 9, 3) := by decide +kernel
theorem zd_Mod_isPart_91 : decode zb_Mod_isPart 91 = .ok (.iload_n 0, 1) := by decide +kernel
theorem zd_Mod_isPart_92 : decode zb_Mod_isPart 92 = .ok (.bipush 7, 2) := by decide +kernel
theorem zd_Mod_isPart_94 : decode zb_Mod_isPart 94 = .ok (.if_icmp .ne 17, 3) := by decide +kernel
theorem zd_Mod_isPart_97 : decode zb_Mod_isPart 97 = .ok (.iload_n 1, 1) := by decide +kernel
theorem zd_Mod_isPart_98 : decode zb_Mod_isPart 98 = .ok (.i2l, 1) := by decide +kernel
theorem zd_Mod_isPart_99 : decode zb_Mod_isPart 99 = .ok (.lconst 0, 1) := by decide +kernel
theorem zd_Mod_isPart_100 : decode zb_Mod_isPart 100 = .ok (.lconst 1, 1) := by decide +kernel
theorem zd_Mod_isPart_101 : decode zb_Mod_isPart 101 = .ok (.invokestatic 53, 3) := by decide +kernel
theorem zd_Mod_isPart_104 : decode zb_Mod_isPart 104 = .ok (.ifCond .eq 7, 3) := by decide +kernel
theorem zd_Mod_isPart_107 : decode zb_Mod_isPart 107 = .ok (.iconst 1, 1) := by decide +kernel
theorem zd_Mod_isPart_108 : decode zb_Mod_isPart 108 = .ok (.goto 4, 3) := by decide +kernel
theorem zd_Mod_isPart_111 : decode zb_Mod_isPart 111 = .ok (.iconst 0, 1) := by decide +kernel
theorem zd_Mod_isPart_112 : decode zb_Mod_isPart 112 = .ok (.ireturn, 1) := by decide +kernel
set_option maxHeartbeats 4000000 in
theorem zl_Mod_isPart_L112 {p : Program} {l : Launch} {e : Env} {s : State} {m : MethodId} {args : Array Value} {below : List Frame} {meth : Method} {c : Code} {D : va_G} {cA : Nat → ClassId} {ad : Nat → Nat} {A : Nat → Prop} (B : zu_B p s m args c zb_Mod_isPart 2 "StonePostModel" D cA ad A) (hret : meth.sig.returnType = (some .boolean)) (hlk : meth.locks = false) {X : IX} {Y : LX} {res : Int32} (y0 : Int32) (H : Heap) (locs : List Loc) (ls : Array Slot) (hP : va_P D zu_cl (zu_pic cA ad X Y) H) (hS : va_S A s.heap H locs) (hl : lv_has ls 2 []) (hf : fn_Mod_isPart_L112 y0 = some res) : W p l e zR_Mod_isPart s m args below meth c H locs 0 0 (MQ below (zu_Qi D cA ad A res X Y) args s 0 0 A) (F0 m 112 ls [.int y0]) := by
  obtain ⟨hx, hb, hml, hown, hts, hST⟩ := id B
  unfold fn_Mod_isPart_L112 at hf
  obtain ⟨hg19, hf⟩ := zu_gd_e hf
  obtain rfl := Option.some.inj hf
  exact zr_zret hx hb hret hlk hP hS hg19 zd_Mod_isPart_112
set_option maxHeartbeats 4000000 in
theorem zl_Mod_isPart_L111 {p : Program} {l : Launch} {e : Env} {s : State} {m : MethodId} {args : Array Value} {below : List Frame} {meth : Method} {c : Code} {D : va_G} {cA : Nat → ClassId} {ad : Nat → Nat} {A : Nat → Prop} (B : zu_B p s m args c zb_Mod_isPart 2 "StonePostModel" D cA ad A) (hret : meth.sig.returnType = (some .boolean)) (hlk : meth.locks = false) {X : IX} {Y : LX} {res : Int32} (H : Heap) (locs : List Loc) (ls : Array Slot) (hP : va_P D zu_cl (zu_pic cA ad X Y) H) (hS : va_S A s.heap H locs) (hl : lv_has ls 2 []) (hf : fn_Mod_isPart_L111 = some res) : W p l e zR_Mod_isPart s m args below meth c H locs 0 0 (MQ below (zu_Qi D cA ad A res X Y) args s 0 0 A) (F0 m 111 ls []) := by
  obtain ⟨hx, hb, hml, hown, hts, hST⟩ := id B
  unfold fn_Mod_isPart_L111 at hf
  refine lv_iconst (v := 0) hx hb zd_Mod_isPart_111 (by decide) ?_
  exact zl_Mod_isPart_L112 B hret hlk (0 : Int32) _ _ _ hP hS (lv_sub hl [] rfl) hf
set_option maxHeartbeats 4000000 in
theorem zl_Mod_isPart_L97 {p : Program} {l : Launch} {e : Env} {s : State} {m : MethodId} {args : Array Value} {below : List Frame} {meth : Method} {c : Code} {D : va_G} {cA : Nat → ClassId} {ad : Nat → Nat} {A : Nat → Prop} (B : zu_B p s m args c zb_Mod_isPart 2 "StonePostModel" D cA ad A) (hret : meth.sig.returnType = (some .boolean)) (hlk : meth.locks = false) {X : IX} {Y : LX} {res : Int32} (x1 : Int32) (H : Heap) (locs : List Loc) (ls : Array Slot) (hP : va_P D zu_cl (zu_pic cA ad X Y) H) (hS : va_S A s.heap H locs) (hl : lv_has ls 2 [(1, .int x1)]) (hf : fn_Mod_isPart_L97 x1 = some res) : W p l e zR_Mod_isPart s m args below meth c H locs 0 0 (MQ below (zu_Qi D cA ad A res X Y) args s 0 0 A) (F0 m 97 ls []) := by
  obtain ⟨hx, hb, hml, hown, hts, hST⟩ := id B
  unfold fn_Mod_isPart_L97 at hf
  refine lv_iload_n hx hb zd_Mod_isPart_97 rfl (lv_at hl 0 rfl) ?_
  refine lv_i2l hx hb zd_Mod_isPart_98 rfl ?_
  refine lv_lconst (v := 0) hx hb zd_Mod_isPart_99 (by decide) ?_
  refine lv_lconst (v := 1) hx hb zd_Mod_isPart_100 (by decide) ?_
  obtain ⟨v16, hq17, hf⟩ := zu_b1_e hf
  refine zw_Mod_in (rest := []) B hP hS hq17 zq_939 (Nat.le_of_ble_eq_true rfl) (Nat.le_of_ble_eq_true rfl) hl.1 rfl (Nat.le_of_ble_eq_true rfl) zd_Mod_isPart_101 (by decide) (fun H locs hP hS => ?_)
  clear hq17
  refine lv_if_eq (tgt := 111) hx hb zd_Mod_isPart_104 (by decide) (fun c18 => ?_) (fun c18 => ?_)
  · have hf := zu_t c18 hf
    exact zl_Mod_isPart_L111 B hret hlk _ _ _ hP hS (lv_sub hl [] rfl) hf
  · have hf := zu_f c18 hf
    refine lv_iconst (v := 1) hx hb zd_Mod_isPart_107 (by decide) ?_
    refine lv_goto (tgt := 112) hx hb zd_Mod_isPart_108 (by decide) ?_
    exact zl_Mod_isPart_L112 B hret hlk (1 : Int32) _ _ _ hP hS (lv_sub hl [] rfl) hf
set_option maxHeartbeats 4000000 in
theorem zl_Mod_isPart_L80 {p : Program} {l : Launch} {e : Env} {s : State} {m : MethodId} {args : Array Value} {below : List Frame} {meth : Method} {c : Code} {D : va_G} {cA : Nat → ClassId} {ad : Nat → Nat} {A : Nat → Prop} (B : zu_B p s m args c zb_Mod_isPart 2 "StonePostModel" D cA ad A) (hret : meth.sig.returnType = (some .boolean)) (hlk : meth.locks = false) {X : IX} {Y : LX} {res : Int32} (x0 : Int32) (x1 : Int32) (H : Heap) (locs : List Loc) (ls : Array Slot) (hP : va_P D zu_cl (zu_pic cA ad X Y) H) (hS : va_S A s.heap H locs) (hl : lv_has ls 2 [(0, .int x0), (1, .int x1)]) (hf : fn_Mod_isPart_L80 x0 x1 = some res) : W p l e zR_Mod_isPart s m args below meth c H locs 0 0 (MQ below (zu_Qi D cA ad A res X Y) args s 0 0 A) (F0 m 80 ls []) := by
  obtain ⟨hx, hb, hml, hown, hts, hST⟩ := id B
  unfold fn_Mod_isPart_L80 at hf
  refine lv_iload_n hx hb zd_Mod_isPart_80 rfl (lv_at hl 0 rfl) ?_
  refine lv_iconst (v := 4) hx hb zd_Mod_isPart_81 (by decide) ?_
  refine lv_icmp_eq (tgt := 97) hx hb zd_Mod_isPart_82 (by decide) (fun c13 => ?_) (fun c13 => ?_)
  · have hf := zu_t c13 hf
    exact zl_Mod_isPart_L97 B hret hlk x1 _ _ _ hP hS (lv_sub hl [1] rfl) hf
  · have hf := zu_f c13 hf
    refine lv_iload_n hx hb zd_Mod_isPart_85 rfl (lv_at hl 0 rfl) ?_
    refine lv_bipush (v := 6) hx hb zd_Mod_isPart_86 (by decide) ?_
    refine lv_icmp_eq (tgt := 97) hx hb zd_Mod_isPart_88 (by decide) (fun c14 => ?_) (fun c14 => ?_)
    · have hf := zu_t c14 hf
      exact zl_Mod_isPart_L97 B hret hlk x1 _ _ _ hP hS (lv_sub hl [1] rfl) hf
    · have hf := zu_f c14 hf
      refine lv_iload_n hx hb zd_Mod_isPart_91 rfl (lv_at hl 0 rfl) ?_
      refine lv_bipush (v := 7) hx hb zd_Mod_isPart_92 (by decide) ?_
      refine lv_icmp_ne (tgt := 111) hx hb zd_Mod_isPart_94 (by decide) (fun c15 => ?_) (fun c15 => ?_)
      · have hf := zu_f c15 hf
        exact zl_Mod_isPart_L111 B hret hlk _ _ _ hP hS (lv_sub hl [] rfl) hf
      · have hf := zu_t c15 hf
        exact zl_Mod_isPart_L97 B hret hlk x1 _ _ _ hP hS (lv_sub hl [1] rfl) hf
set_option maxHeartbeats 4000000 in
theorem zl_Mod_isPart {p : Program} {l : Launch} {e : Env} {s : State} {m : MethodId} {args : Array Value} {below : List Frame} {meth : Method} {c : Code} {D : va_G} {cA : Nat → ClassId} {ad : Nat → Nat} {A : Nat → Prop} (B : zu_B p s m args c zb_Mod_isPart 2 "StonePostModel" D cA ad A) (hret : meth.sig.returnType = (some .boolean)) (hlk : meth.locks = false) {X : IX} {Y : LX} {res : Int32} {a0 : Int32} {a1 : Int32} (H : Heap) (locs : List Loc) (ls : Array Slot) (hP : va_P D zu_cl (zu_pic cA ad X Y) H) (hS : va_S A s.heap H locs) (hl : lv_has ls 2 [(0, .int a0), (1, .int a1)]) (hf : fn_Mod_isPart a0 a1 = some res) : W p l e zR_Mod_isPart s m args below meth c H locs 0 0 (MQ below (zu_Qi D cA ad A res X Y) args s 0 0 A) (F0 m 0 ls []) := by
  obtain ⟨hx, hb, hml, hown, hts, hST⟩ := id B
  unfold fn_Mod_isPart at hf
  refine lv_iload_n hx hb zd_Mod_isPart_0 rfl (lv_at hl 0 rfl) ?_
  by_cases h1_0 : a0 = (0 : Int32)
  · have hf := zu_t h1_0 hf
    refine lv_tableIn (tgt := 40) (off := 39) hx hb zd_Mod_isPart_1 (by rw [h1_0]; decide) (by rw [h1_0]; decide) (by rw [h1_0]; decide) (by decide) ?_
    refine lv_iload_n hx hb zd_Mod_isPart_40 rfl (lv_at hl 1 rfl) ?_
    refine lv_i2l hx hb zd_Mod_isPart_41 rfl ?_
    refine lv_lconst (v := 0) hx hb zd_Mod_isPart_42 (by decide) ?_
    refine lv_ldc2 (v := 6) hx hb hown (hts _ zq_957) zd_Mod_isPart_43 ?_
    obtain ⟨v1, hq2, hf⟩ := zu_b1_e hf
    refine zw_Mod_in (rest := []) B hP hS hq2 zq_939 (Nat.le_of_ble_eq_true rfl) (Nat.le_of_ble_eq_true rfl) hl.1 rfl (Nat.le_of_ble_eq_true rfl) zd_Mod_isPart_46 (by decide) (fun H locs hP hS => ?_)
    clear hq2
    obtain ⟨hg3, hf⟩ := zu_gd_e hf
    obtain rfl := Option.some.inj hf
    exact zr_zret hx hb hret hlk hP hS hg3 zd_Mod_isPart_49
  · have hf := zu_f h1_0 hf
    by_cases h1_1 : a0 = (1 : Int32)
    · have hf := zu_t h1_1 hf
      refine lv_tableIn (tgt := 80) (off := 79) hx hb zd_Mod_isPart_1 (by rw [h1_1]; decide) (by rw [h1_1]; decide) (by rw [h1_1]; decide) (by decide) ?_
      exact zl_Mod_isPart_L80 B hret hlk a0 a1 _ _ _ hP hS (lv_sub hl [0, 1] rfl) hf
    · have hf := zu_f h1_1 hf
      by_cases h1_2 : a0 = (2 : Int32)
      · have hf := zu_t h1_2 hf
        refine lv_tableIn (tgt := 50) (off := 49) hx hb zd_Mod_isPart_1 (by rw [h1_2]; decide) (by rw [h1_2]; decide) (by rw [h1_2]; decide) (by decide) ?_
        refine lv_iload_n hx hb zd_Mod_isPart_50 rfl (lv_at hl 1 rfl) ?_
        refine lv_i2l hx hb zd_Mod_isPart_51 rfl ?_
        refine lv_lconst (v := 1) hx hb zd_Mod_isPart_52 (by decide) ?_
        refine lv_ldc2 (v := 9) hx hb hown (hts _ zq_952) zd_Mod_isPart_53 ?_
        obtain ⟨v4, hq5, hf⟩ := zu_b1_e hf
        refine zw_Mod_in (rest := []) B hP hS hq5 zq_939 (Nat.le_of_ble_eq_true rfl) (Nat.le_of_ble_eq_true rfl) hl.1 rfl (Nat.le_of_ble_eq_true rfl) zd_Mod_isPart_56 (by decide) (fun H locs hP hS => ?_)
        clear hq5
        obtain ⟨hg6, hf⟩ := zu_gd_e hf
        obtain rfl := Option.some.inj hf
        exact zr_zret hx hb hret hlk hP hS hg6 zd_Mod_isPart_59
      · have hf := zu_f h1_2 hf
        by_cases h1_3 : a0 = (3 : Int32)
        · have hf := zu_t h1_3 hf
          refine lv_tableIn (tgt := 60) (off := 59) hx hb zd_Mod_isPart_1 (by rw [h1_3]; decide) (by rw [h1_3]; decide) (by rw [h1_3]; decide) (by decide) ?_
          refine lv_iload_n hx hb zd_Mod_isPart_60 rfl (lv_at hl 1 rfl) ?_
          refine lv_i2l hx hb zd_Mod_isPart_61 rfl ?_
          refine lv_lconst (v := 1) hx hb zd_Mod_isPart_62 (by decide) ?_
          refine lv_ldc2 (v := 12) hx hb hown (hts _ zq_991) zd_Mod_isPart_63 ?_
          obtain ⟨v7, hq8, hf⟩ := zu_b1_e hf
          refine zw_Mod_in (rest := []) B hP hS hq8 zq_939 (Nat.le_of_ble_eq_true rfl) (Nat.le_of_ble_eq_true rfl) hl.1 rfl (Nat.le_of_ble_eq_true rfl) zd_Mod_isPart_66 (by decide) (fun H locs hP hS => ?_)
          clear hq8
          obtain ⟨hg9, hf⟩ := zu_gd_e hf
          obtain rfl := Option.some.inj hf
          exact zr_zret hx hb hret hlk hP hS hg9 zd_Mod_isPart_69
        · have hf := zu_f h1_3 hf
          by_cases h1_4 : a0 = (4 : Int32)
          · have hf := zu_t h1_4 hf
            refine lv_tableIn (tgt := 80) (off := 79) hx hb zd_Mod_isPart_1 (by rw [h1_4]; decide) (by rw [h1_4]; decide) (by rw [h1_4]; decide) (by decide) ?_
            exact zl_Mod_isPart_L80 B hret hlk a0 a1 _ _ _ hP hS (lv_sub hl [0, 1] rfl) hf
          · have hf := zu_f h1_4 hf
            by_cases h1_5 : a0 = (5 : Int32)
            · have hf := zu_t h1_5 hf
              refine lv_tableIn (tgt := 70) (off := 69) hx hb zd_Mod_isPart_1 (by rw [h1_5]; decide) (by rw [h1_5]; decide) (by rw [h1_5]; decide) (by decide) ?_
              refine lv_iload_n hx hb zd_Mod_isPart_70 rfl (lv_at hl 1 rfl) ?_
              refine lv_i2l hx hb zd_Mod_isPart_71 rfl ?_
              refine lv_lconst (v := 0) hx hb zd_Mod_isPart_72 (by decide) ?_
              refine lv_ldc2 (v := 12) hx hb hown (hts _ zq_991) zd_Mod_isPart_73 ?_
              obtain ⟨v10, hq11, hf⟩ := zu_b1_e hf
              refine zw_Mod_in (rest := []) B hP hS hq11 zq_939 (Nat.le_of_ble_eq_true rfl) (Nat.le_of_ble_eq_true rfl) hl.1 rfl (Nat.le_of_ble_eq_true rfl) zd_Mod_isPart_76 (by decide) (fun H locs hP hS => ?_)
              clear hq11
              obtain ⟨hg12, hf⟩ := zu_gd_e hf
              obtain rfl := Option.some.inj hf
              exact zr_zret hx hb hret hlk hP hS hg12 zd_Mod_isPart_79
            · have hf := zu_f h1_5 hf
              have hsw : a0.toInt < 0 ∨ 5 < a0.toInt := by
                have n0 := lv_neT h1_0 (a := 0) (by decide)
                have n1 := lv_neT h1_1 (a := 1) (by decide)
                have n2 := lv_neT h1_2 (a := 2) (by decide)
                have n3 := lv_neT h1_3 (a := 3) (by decide)
                have n4 := lv_neT h1_4 (a := 4) (by decide)
                have n5 := lv_neT h1_5 (a := 5) (by decide)
                omega
              refine lv_tableOut (tgt := 80) hx hb zd_Mod_isPart_1 hsw (by decide) ?_
              exact zl_Mod_isPart_L80 B hret hlk a0 a1 _ _ _ hP hS (lv_sub hl [0, 1] rfl) hf
theorem zC_Mod_isPart (l : Launch) {D : va_G} {cA : Nat → ClassId} {ad : Nat → Nat} {A : Nat → Prop} {a0 : Int32} {a1 : Int32} {X : IX} {Y : LX} {res : Int32} (hf : fn_Mod_isPart a0 a1 = some res) : Met l zm_Mod_isPart (zu_ws zm_Mod_isPart zb_Mod_isPart 2 (some .boolean)) zR_Mod_isPart (va_Pc [.int a0, .int a1] (zu_Pre D cA ad A X Y)) (zu_Qi D cA ad A res X Y) 0 0 A := by
  refine Met.ofW (cc := zb_Mod_isPart) (maxL := 2) (ret := (some .boolean)) (by decide +kernel) rfl ?_
  intro p e s m args below meth c s₁ B0 hml hv
  obtain ⟨rfl, hP, hST⟩ := hv
  have B : zu_B p s m _ c zb_Mod_isPart 2 "StonePostModel" D cA ad A := ⟨B0.exec, B0.bytes, hml, findClass_of_methodNamed B0.named, (fun w hw => atoms_spec (ws := zu_ws zm_Mod_isPart zb_Mod_isPart 2 (some .boolean)) B0.pre w (List.mem_cons_of_mem _ hw)), hST⟩
  have hl := lv_entry ([.int a0, .int a1]) (n := 2) (Nat.le_of_ble_eq_true rfl)
  rw [lg_entry_eq]
  generalize (lg_sl ([.int a0, .int a1]) ++ List.replicate (2 - (lg_sl ([.int a0, .int a1])).length) Slot.unset).toArray = ls at hl ⊢
  exact zl_Mod_isPart B B0.returns B0.notSynchronized s.heap [] ls hP va_S.rf hl  hf
theorem zw_Mod_isPart {p : Program} {l : Launch} {e : Env} {R : Room} {s : State} {m : MethodId} {args : Array Value} {below : List Frame} {meth : Method} {c : Code} {H : Heap} {locs : List Loc} {cells slots : Nat} {Q : State → Prop} {cc : ByteArray} {pc nL : Nat} {ls : Array Slot} {rest st0 : List Value} {D : va_G} {cA : Nat → ClassId} {ad : Nat → Nat} {A : Nat → Prop} {X : IX} {Y : LX} {own : String} {index : Nat} {a0 : Int32} {a1 : Int32} {v1 : Int32} (B : zu_B p s m args c cc nL own D cA ad A) (hP : va_P D zu_cl (zu_pic cA ad X Y) H) (hS : va_S A s.heap H locs) (hq : fn_Mod_isPart a0 a1 = some v1) (m1 : Cond.methodLink own index zm_Mod_isPart ∈ zu_TB) (hR1 : 1 + 1 ≤ R.frames) (hR2 : 8 + (2 + 11) + 25 ≤ R.locals) (hsz : ls.size = nL) (hst : st0 = .int a1 :: .int a0 ::  rest) (hw : (rest.map fun v => v.category).sum ≤ 8) (hdg : decode cc pc = .ok (.invokestatic index, 3)) (h00 : cells ≤ R.cells ∧ slots ≤ R.slots) (kk : ∀ (H1 : Heap) (locs1 : List Loc), va_P D zu_cl (zu_pic cA ad X Y) H1 → va_S A s.heap H1 locs1 → W p l e R s m args below meth c H1 locs1 cells slots Q (F0 m (pc + 3) ls (.int v1 :: rest))) : W p l e R s m args below meth c H locs cells slots Q (F0 m pc ls st0) := by
  subst hst
  exact zr_cSi (As := [.int a0, .int a1]) (rest := rest) (n := 2) B hP hS (zC_Mod_isPart l  hq) m1 zq_989 zq_8 zq_990 (by decide +kernel) ⟨hR1, hR2⟩ rfl rfl rfl hsz rfl hw hdg h00 kk
abbrev zR_Mod_change : Room := { frames := 2, cells := 0, slots := 0, locals := 46 }
theorem zd_Mod_change_0 : decode zb_Mod_change 0 = .ok (.aload_n 0, 1) := by decide +kernel
theorem zd_Mod_change_1 : decode zb_Mod_change 1 = .ok (.iload_n 1, 1) := by decide +kernel
theorem zd_Mod_change_2 : decode zb_Mod_change 2 = .ok (.invokevirtual 87, 3) := by decide +kernel
theorem zd_Mod_change_5 : decode zb_Mod_change 5 = .ok (.ifCond .eq 11, 3) := by decide +kernel
theorem zd_Mod_change_8 : decode zb_Mod_change 8 = .ok (.iload_n 2, 1) := by decide +kernel
theorem zd_Mod_change_9 : decode zb_Mod_change 9 = .ok (.iload_n 3, 1) := by decide +kernel
theorem zd_Mod_change_10 : decode zb_Mod_change 10 = .ok (.invokestatic 94, 3) := by decide +kernel
theorem zd_Mod_change_13 : decode zb_Mod_change 13 = .ok (.ifCond .ne 10, 3) := by decide +kernel
theorem zd_Mod_change_16 : decode zb_Mod_change 16 = .ok (.aload_n 0, 1) := by decide +kernel
theorem zd_Mod_change_17 : decode zb_Mod_change 17 = .ok (.ldc 50, 2) := by decide +kernel
theorem zd_Mod_change_19 : decode zb_Mod_change 19 = .ok (.invokevirtual 64, 3) := by decide +kernel
theorem zd_Mod_change_22 : decode zb_Mod_change 22 = .ok (.ireturn, 1) := by decide +kernel
theorem zd_Mod_change_23 : decode zb_Mod_change 23 = .ok (.aload_n 0, 1) := by decide +kernel
theorem zd_Mod_change_24 : decode zb_Mod_change 24 = .ok (.iload_n 1, 1) := by decide +kernel
theorem zd_Mod_change_25 : decode zb_Mod_change 25 = .ok (.iload_n 2, 1) := by decide +kernel
theorem zd_Mod_change_26 : decode zb_Mod_change 26 = .ok (.invokevirtual 74, 3) := by decide +kernel
theorem zd_Mod_change_29 : decode zb_Mod_change 29 = .ok (.istore 4, 2) := by decide +kernel
theorem zd_Mod_change_31 : decode zb_Mod_change 31 = .ok (.aload_n 0, 1) := by decide +kernel
theorem zd_Mod_change_32 : decode zb_Mod_change 32 = .ok (.getfield 7, 3) := by decide +kernel
theorem zd_Mod_change_35 : decode zb_Mod_change 35 = .ok (.iload_n 1, 1) := by decide +kernel
theorem zd_Mod_change_36 : decode zb_Mod_change 36 = .ok (.iload_n 2, 1) := by decide +kernel
theorem zd_Mod_change_37 : decode zb_Mod_change 37 = .ok (.invokestatic 70, 3) := by decide +kernel
theorem zd_Mod_change_40 : decode zb_Mod_change 40 = .ok (.iload_n 3, 1) := by decide +kernel
theorem zd_Mod_change_41 : decode zb_Mod_change 41 = .ok (.iastore, 1) := by decide +kernel
theorem zd_Mod_change_42 : decode zb_Mod_change 42 = .ok (.iload 4, 2) := by decide +kernel
theorem zd_Mod_change_44 : decode zb_Mod_change 44 = .ok (.ireturn, 1) := by decide +kernel
set_option maxHeartbeats 4000000 in
theorem zl_Mod_change_L16 {p : Program} {l : Launch} {e : Env} {s : State} {m : MethodId} {args : Array Value} {below : List Frame} {meth : Method} {c : Code} {D : va_G} {cA : Nat → ClassId} {ad : Nat → Nat} {A : Nat → Prop} (B : zu_B p s m args c zb_Mod_change 5 "StonePostModel" D cA ad A) (hret : meth.sig.returnType = (some .int)) (hlk : meth.locks = false) {Y : LX} {res : Int32 × IX} (X : IX) (H : Heap) (locs : List Loc) (ls : Array Slot) (hP : va_P D zu_cl (zu_pic cA ad X Y) H) (hS : va_S A s.heap H locs) (hl : lv_has ls 5 [(0, .ref (ad 95))]) (hf : fn_Mod_change_L16 X = some res) : W p l e zR_Mod_change s m args below meth c H locs 0 0 (MQ below (zu_Qi D cA ad A res.1 res.2 Y) args s 0 0 A) (F0 m 16 ls []) := by
  obtain ⟨hx, hb, hml, hown, hts, hST⟩ := id B
  unfold fn_Mod_change_L16 at hf
  refine lv_aload_n hx hb zd_Mod_change_16 rfl (lv_at hl 0 rfl) ?_
  refine lv_ldc (v := -1000001) hx hb hown (hts _ zq_943) zd_Mod_change_17 ?_
  obtain ⟨v13, X14, hq15, hf⟩ := zu_b2_e hf
  refine zw_Mod_finds (rest := []) B hP hS hq15 zq_944 (Nat.le_of_ble_eq_true rfl) (Nat.le_of_ble_eq_true rfl) hl.1 rfl (Nat.le_of_ble_eq_true rfl) zd_Mod_change_19 (by decide) (fun H locs hP hS => ?_)
  clear hq15
  obtain rfl := Option.some.inj hf
  exact zr_iret hx hb hret hlk hP hS zd_Mod_change_22
set_option maxHeartbeats 4000000 in
theorem zl_Mod_change {p : Program} {l : Launch} {e : Env} {s : State} {m : MethodId} {args : Array Value} {below : List Frame} {meth : Method} {c : Code} {D : va_G} {cA : Nat → ClassId} {ad : Nat → Nat} {A : Nat → Prop} (B : zu_B p s m args c zb_Mod_change 5 "StonePostModel" D cA ad A) (hret : meth.sig.returnType = (some .int)) (hlk : meth.locks = false) {Y : LX} {res : Int32 × IX} {a1 : Int32} {a2 : Int32} {a3 : Int32} {X : IX} (H : Heap) (locs : List Loc) (ls : Array Slot) (hP : va_P D zu_cl (zu_pic cA ad X Y) H) (hS : va_S A s.heap H locs) (hl : lv_has ls 5 [(0, .ref (ad 95)), (1, .int a1), (2, .int a2), (3, .int a3)]) (hf : fn_Mod_change a1 a2 a3 X = some res) : W p l e zR_Mod_change s m args below meth c H locs 0 0 (MQ below (zu_Qi D cA ad A res.1 res.2 Y) args s 0 0 A) (F0 m 0 ls []) := by
  obtain ⟨hx, hb, hml, hown, hts, hST⟩ := id B
  unfold fn_Mod_change at hf
  refine lv_aload_n hx hb zd_Mod_change_0 rfl (lv_at hl 0 rfl) ?_
  refine lv_iload_n hx hb zd_Mod_change_1 rfl (lv_at hl 1 rfl) ?_
  obtain ⟨v1, hq2, hf⟩ := zu_b1_e hf
  refine zw_Mod_isThrower (rest := []) B hP hS hq2 zq_979 (Nat.le_of_ble_eq_true rfl) (Nat.le_of_ble_eq_true rfl) hl.1 rfl (Nat.le_of_ble_eq_true rfl) zd_Mod_change_2 (by decide) (fun H locs hP hS => ?_)
  clear hq2
  refine lv_if_eq (tgt := 16) hx hb zd_Mod_change_5 (by decide) (fun c3 => ?_) (fun c3 => ?_)
  · have hf := zu_t c3 hf
    exact zl_Mod_change_L16 B hret hlk X _ _ _ hP hS (lv_sub hl [0] rfl) hf
  · have hf := zu_f c3 hf
    refine lv_iload_n hx hb zd_Mod_change_8 rfl (lv_at hl 2 rfl) ?_
    refine lv_iload_n hx hb zd_Mod_change_9 rfl (lv_at hl 3 rfl) ?_
    obtain ⟨v4, hq5, hf⟩ := zu_b1_e hf
    refine zw_Mod_isPart (rest := []) B hP hS hq5 zq_988 (Nat.le_of_ble_eq_true rfl) (Nat.le_of_ble_eq_true rfl) hl.1 rfl (Nat.le_of_ble_eq_true rfl) zd_Mod_change_10 (by decide) (fun H locs hP hS => ?_)
    clear hq5
    refine lv_if_ne (tgt := 23) hx hb zd_Mod_change_13 (by decide) (fun c6 => ?_) (fun c6 => ?_)
    · have hf := zu_f c6 hf
      refine lv_aload_n hx hb zd_Mod_change_23 rfl (lv_at hl 0 rfl) ?_
      refine lv_iload_n hx hb zd_Mod_change_24 rfl (lv_at hl 1 rfl) ?_
      refine lv_iload_n hx hb zd_Mod_change_25 rfl (lv_at hl 2 rfl) ?_
      obtain ⟨v7, hq8, hf⟩ := zu_b1_e hf
      refine zw_Mod_its (rest := []) B hP hS hq8 zq_962 (Nat.le_of_ble_eq_true rfl) (Nat.le_of_ble_eq_true rfl) hl.1 rfl (Nat.le_of_ble_eq_true rfl) zd_Mod_change_26 (by decide) (fun H locs hP hS => ?_)
      clear hq8
      refine lv_istore (lv' := [(4, .int v7), (0, .ref (ad 95)), (1, .int a1), (2, .int a2), (3, .int a3)]) hx hb zd_Mod_change_29 hl (by decide) rfl (fun ls hl => ?_)
      refine lv_aload_n hx hb zd_Mod_change_31 rfl (lv_at hl 1 rfl) ?_
      refine zg_Mod_s B hP rfl zq_861 zd_Mod_change_32 ?_
      refine lv_iload_n hx hb zd_Mod_change_35 rfl (lv_at hl 2 rfl) ?_
      refine lv_iload_n hx hb zd_Mod_change_36 rfl (lv_at hl 3 rfl) ?_
      obtain ⟨v9, ehq10, hf⟩ := zu_nx_e hf
      have hq10 := ehq10.symm
      refine zw_Mod_at (rest := [.ref (ad 96)]) B hP hS hq10 zq_966 (Nat.le_of_ble_eq_true rfl) (Nat.le_of_ble_eq_true rfl) hl.1 rfl (Nat.le_of_ble_eq_true rfl) zd_Mod_change_37 (by decide) (fun H locs hP hS => ?_)
      clear hq10 ehq10
      refine lv_iload_n hx hb zd_Mod_change_40 rfl (lv_at hl 4 rfl) ?_
      obtain ⟨hg11, hf⟩ := zu_gd_e hf
      refine zr_iast rfl B hP hS hf rfl (by decide) rfl hg11 zd_Mod_change_41 (fun X12 H locs hf hP hS => ?_)
      refine lv_iload hx hb zd_Mod_change_42 (lv_at hl 0 rfl) ?_
      obtain rfl := Option.some.inj hf
      exact zr_iret hx hb hret hlk hP hS zd_Mod_change_44
    · have hf := zu_t c6 hf
      exact zl_Mod_change_L16 B hret hlk X _ _ _ hP hS (lv_sub hl [0] rfl) hf
theorem zC_Mod_change (l : Launch) {D : va_G} {cA : Nat → ClassId} {ad : Nat → Nat} {A : Nat → Prop} {a1 : Int32} {a2 : Int32} {a3 : Int32} {X : IX} {Y : LX} {res : Int32 × IX} (hf : fn_Mod_change a1 a2 a3 X = some res) : Met l zm_Mod_change (zu_ws zm_Mod_change zb_Mod_change 5 (some .int)) zR_Mod_change (va_Pc [.ref (ad 95), .int a1, .int a2, .int a3] (zu_Pre D cA ad A X Y)) (zu_Qi D cA ad A res.1 res.2 Y) 0 0 A := by
  refine Met.ofW (cc := zb_Mod_change) (maxL := 5) (ret := (some .int)) (by decide +kernel) rfl ?_
  intro p e s m args below meth c s₁ B0 hml hv
  obtain ⟨rfl, hP, hST⟩ := hv
  have B : zu_B p s m _ c zb_Mod_change 5 "StonePostModel" D cA ad A := ⟨B0.exec, B0.bytes, hml, findClass_of_methodNamed B0.named, (fun w hw => atoms_spec (ws := zu_ws zm_Mod_change zb_Mod_change 5 (some .int)) B0.pre w (List.mem_cons_of_mem _ hw)), hST⟩
  have hl := lv_entry ([.ref (ad 95), .int a1, .int a2, .int a3]) (n := 5) (Nat.le_of_ble_eq_true rfl)
  rw [lg_entry_eq]
  generalize (lg_sl ([.ref (ad 95), .int a1, .int a2, .int a3]) ++ List.replicate (5 - (lg_sl ([.ref (ad 95), .int a1, .int a2, .int a3])).length) Slot.unset).toArray = ls at hl ⊢
  exact zl_Mod_change B B0.returns B0.notSynchronized s.heap [] ls hP va_S.rf hl  hf
theorem zw_Mod_change {p : Program} {l : Launch} {e : Env} {R : Room} {s : State} {m : MethodId} {args : Array Value} {below : List Frame} {meth : Method} {c : Code} {H : Heap} {locs : List Loc} {cells slots : Nat} {Q : State → Prop} {cc : ByteArray} {pc nL : Nat} {ls : Array Slot} {rest st0 : List Value} {D : va_G} {cA : Nat → ClassId} {ad : Nat → Nat} {A : Nat → Prop} {X : IX} {Y : LX} {own : String} {index : Nat} {a1 : Int32} {a2 : Int32} {a3 : Int32} {v1 : Int32} {X1 : IX} (B : zu_B p s m args c cc nL own D cA ad A) (hP : va_P D zu_cl (zu_pic cA ad X Y) H) (hS : va_S A s.heap H locs) (hq : fn_Mod_change a1 a2 a3 X = some (v1, X1)) (m1 : Cond.methodLink own index zm_Mod_change ∈ zu_TB) (hR1 : 2 + 1 ≤ R.frames) (hR2 : 8 + (5 + 11) + 46 ≤ R.locals) (hsz : ls.size = nL) (hst : st0 = .int a3 :: .int a2 :: .int a1 :: .ref (ad 95) :: rest) (hw : (rest.map fun v => v.category).sum ≤ 8) (hdg : decode cc pc = .ok (.invokevirtual index, 3)) (h00 : cells ≤ R.cells ∧ slots ≤ R.slots) (kk : ∀ (H1 : Heap) (locs1 : List Loc), va_P D zu_cl (zu_pic cA ad X1 Y) H1 → va_S A s.heap H1 locs1 → W p l e R s m args below meth c H1 locs1 cells slots Q (F0 m (pc + 3) ls (.int v1 :: rest))) : W p l e R s m args below meth c H locs cells slots Q (F0 m pc ls st0) := by
  subst hst
  exact zr_cVi (As := [.int a1, .int a2, .int a3]) (rest := rest) (n := 3) (C := "StonePostModel") (T := zt_Mod) (N := 23) B hP hS (zC_Mod_change l  hq) (K := 7) rfl (by decide) (by decide) rfl rfl m1 zq_985 zq_986 zq_8 zq_987 (by decide +kernel) ⟨hR1, hR2⟩ rfl rfl rfl hsz rfl hw hdg h00 kk
abbrev zR_Mod_walk : Room := { frames := 3, cells := 0, slots := 0, locals := 66 }
theorem zd_Mod_walk_0 : decode zb_Mod_walk 0 = .ok (.aload_n 0, 1) := by decide +kernel
theorem zd_Mod_walk_1 : decode zb_Mod_walk 1 = .ok (.iload_n 1, 1) := by decide +kernel
theorem zd_Mod_walk_2 : decode zb_Mod_walk 2 = .ok (.invokevirtual 87, 3) := by decide +kernel
theorem zd_Mod_walk_5 : decode zb_Mod_walk 5 = .ok (.ifCond .eq 10, 3) := by decide +kernel
theorem zd_Mod_walk_8 : decode zb_Mod_walk 8 = .ok (.iload_n 2, 1) := by decide +kernel
theorem zd_Mod_walk_9 : decode zb_Mod_walk 9 = .ok (.invokestatic 58, 3) := by decide +kernel
theorem zd_Mod_walk_12 : decode zb_Mod_walk 12 = .ok (.ifCond .ne 10, 3) := by decide +kernel
theorem zd_Mod_walk_15 : decode zb_Mod_walk 15 = .ok (.aload_n 0, 1) := by decide +kernel
theorem zd_Mod_walk_16 : decode zb_Mod_walk 16 = .ok (.ldc 50, 2) := by decide +kernel
theorem zd_Mod_walk_18 : decode zb_Mod_walk 18 = .ok (.invokevirtual 64, 3) := by decide +kernel
theorem zd_Mod_walk_21 : decode zb_Mod_walk 21 = .ok (.ireturn, 1) := by decide +kernel
theorem zd_Mod_walk_22 : decode zb_Mod_walk 22 = .ok (.aload_n 0, 1) := by decide +kernel
theorem zd_Mod_walk_23 : decode zb_Mod_walk 23 = .ok (.iload_n 2, 1) := by decide +kernel
theorem zd_Mod_walk_24 : decode zb_Mod_walk 24 = .ok (.invokevirtual 79, 3) := by decide +kernel
theorem zd_Mod_walk_27 : decode zb_Mod_walk 27 = .ok (.istore_n 3, 1) := by decide +kernel
theorem zd_Mod_walk_28 : decode zb_Mod_walk 28 = .ok (.iload_n 3, 1) := by decide +kernel
theorem zd_Mod_walk_29 : decode zb_Mod_walk 29 = .ok (.ifCond .lt 15, 3) := by decide +kernel
theorem zd_Mod_walk_32 : decode zb_Mod_walk 32 = .ok (.iload_n 3, 1) := by decide +kernel
theorem zd_Mod_walk_33 : decode zb_Mod_walk 33 = .ok (.iload_n 1, 1) := by decide +kernel
theorem zd_Mod_walk_34 : decode zb_Mod_walk 34 = .ok (.if_icmp .eq 10, 3) := by decide +kernel
theorem zd_Mod_walk_37 : decode zb_Mod_walk 37 = .ok (.aload_n 0, 1) := by decide +kernel
theorem zd_Mod_walk_38 : decode zb_Mod_walk 38 = .ok (.ldc 82, 2) := by decide +kernel
theorem zd_Mod_walk_40 : decode zb_Mod_walk 40 = .ok (.invokevirtual 64, 3) := by decide +kernel
theorem zd_Mod_walk_43 : decode zb_Mod_walk 43 = .ok (.ireturn, 1) := by decide +kernel
theorem zd_Mod_walk_44 : decode zb_Mod_walk 44 = .ok (.aload_n 0, 1) := by decide +kernel
theorem zd_Mod_walk_45 : decode zb_Mod_walk 45 = .ok (.iload_n 1, 1) := by decide +kernel
theorem zd_Mod_walk_46 : decode zb_Mod_walk 46 = .ok (.iconst 1, 1) := by decide +kernel
theorem zd_Mod_walk_47 : decode zb_Mod_walk 47 = .ok (.invokevirtual 74, 3) := by decide +kernel
theorem zd_Mod_walk_50 : decode zb_Mod_walk 50 = .ok (.istore 4, 2) := by decide +kernel
theorem zd_Mod_walk_52 : decode zb_Mod_walk 52 = .ok (.aload_n 0, 1) := by decide +kernel
theorem zd_Mod_walk_53 : decode zb_Mod_walk 53 = .ok (.getfield 7, 3) := by decide +kernel
theorem zd_Mod_walk_56 : decode zb_Mod_walk 56 = .ok (.iload_n 1, 1) := by decide +kernel
theorem zd_Mod_walk_57 : decode zb_Mod_walk 57 = .ok (.iconst 1, 1) := by decide +kernel
theorem zd_Mod_walk_58 : decode zb_Mod_walk 58 = .ok (.invokestatic 70, 3) := by decide +kernel
theorem zd_Mod_walk_61 : decode zb_Mod_walk 61 = .ok (.iload_n 2, 1) := by decide +kernel
theorem zd_Mod_walk_62 : decode zb_Mod_walk 62 = .ok (.iastore, 1) := by decide +kernel
theorem zd_Mod_walk_63 : decode zb_Mod_walk 63 = .ok (.iload 4, 2) := by decide +kernel
theorem zd_Mod_walk_65 : decode zb_Mod_walk 65 = .ok (.ireturn, 1) := by decide +kernel
set_option maxHeartbeats 4000000 in
theorem zl_Mod_walk_L44 {p : Program} {l : Launch} {e : Env} {s : State} {m : MethodId} {args : Array Value} {below : List Frame} {meth : Method} {c : Code} {D : va_G} {cA : Nat → ClassId} {ad : Nat → Nat} {A : Nat → Prop} (B : zu_B p s m args c zb_Mod_walk 5 "StonePostModel" D cA ad A) (hret : meth.sig.returnType = (some .int)) (hlk : meth.locks = false) {Y : LX} {res : Int32 × IX} (x1 : Int32) (x2 : Int32) (X : IX) (H : Heap) (locs : List Loc) (ls : Array Slot) (hP : va_P D zu_cl (zu_pic cA ad X Y) H) (hS : va_S A s.heap H locs) (hl : lv_has ls 5 [(0, .ref (ad 95)), (1, .int x1), (2, .int x2)]) (hf : fn_Mod_walk_L44 x1 x2 X = some res) : W p l e zR_Mod_walk s m args below meth c H locs 0 0 (MQ below (zu_Qi D cA ad A res.1 res.2 Y) args s 0 0 A) (F0 m 44 ls []) := by
  obtain ⟨hx, hb, hml, hown, hts, hST⟩ := id B
  unfold fn_Mod_walk_L44 at hf
  refine lv_aload_n hx hb zd_Mod_walk_44 rfl (lv_at hl 0 rfl) ?_
  refine lv_iload_n hx hb zd_Mod_walk_45 rfl (lv_at hl 1 rfl) ?_
  refine lv_iconst (v := 1) hx hb zd_Mod_walk_46 (by decide) ?_
  obtain ⟨v17, hq18, hf⟩ := zu_b1_e hf
  refine zw_Mod_its (rest := []) B hP hS hq18 zq_962 (Nat.le_of_ble_eq_true rfl) (Nat.le_of_ble_eq_true rfl) hl.1 rfl (Nat.le_of_ble_eq_true rfl) zd_Mod_walk_47 (by decide) (fun H locs hP hS => ?_)
  clear hq18
  refine lv_istore (lv' := [(4, .int v17), (0, .ref (ad 95)), (1, .int x1), (2, .int x2)]) hx hb zd_Mod_walk_50 hl (by decide) rfl (fun ls hl => ?_)
  refine lv_aload_n hx hb zd_Mod_walk_52 rfl (lv_at hl 1 rfl) ?_
  refine zg_Mod_s B hP rfl zq_861 zd_Mod_walk_53 ?_
  refine lv_iload_n hx hb zd_Mod_walk_56 rfl (lv_at hl 2 rfl) ?_
  refine lv_iconst (v := 1) hx hb zd_Mod_walk_57 (by decide) ?_
  obtain ⟨v19, ehq20, hf⟩ := zu_nx_e hf
  have hq20 := ehq20.symm
  refine zw_Mod_at (rest := [.ref (ad 96)]) B hP hS hq20 zq_966 (Nat.le_of_ble_eq_true rfl) (Nat.le_of_ble_eq_true rfl) hl.1 rfl (Nat.le_of_ble_eq_true rfl) zd_Mod_walk_58 (by decide) (fun H locs hP hS => ?_)
  clear hq20 ehq20
  refine lv_iload_n hx hb zd_Mod_walk_61 rfl (lv_at hl 3 rfl) ?_
  obtain ⟨hg21, hf⟩ := zu_gd_e hf
  refine zr_iast rfl B hP hS hf rfl (by decide) rfl hg21 zd_Mod_walk_62 (fun X22 H locs hf hP hS => ?_)
  refine lv_iload hx hb zd_Mod_walk_63 (lv_at hl 0 rfl) ?_
  obtain rfl := Option.some.inj hf
  exact zr_iret hx hb hret hlk hP hS zd_Mod_walk_65
set_option maxHeartbeats 4000000 in
theorem zl_Mod_walk_L15 {p : Program} {l : Launch} {e : Env} {s : State} {m : MethodId} {args : Array Value} {below : List Frame} {meth : Method} {c : Code} {D : va_G} {cA : Nat → ClassId} {ad : Nat → Nat} {A : Nat → Prop} (B : zu_B p s m args c zb_Mod_walk 5 "StonePostModel" D cA ad A) (hret : meth.sig.returnType = (some .int)) (hlk : meth.locks = false) {Y : LX} {res : Int32 × IX} (X : IX) (H : Heap) (locs : List Loc) (ls : Array Slot) (hP : va_P D zu_cl (zu_pic cA ad X Y) H) (hS : va_S A s.heap H locs) (hl : lv_has ls 5 [(0, .ref (ad 95))]) (hf : fn_Mod_walk_L15 X = some res) : W p l e zR_Mod_walk s m args below meth c H locs 0 0 (MQ below (zu_Qi D cA ad A res.1 res.2 Y) args s 0 0 A) (F0 m 15 ls []) := by
  obtain ⟨hx, hb, hml, hown, hts, hST⟩ := id B
  unfold fn_Mod_walk_L15 at hf
  refine lv_aload_n hx hb zd_Mod_walk_15 rfl (lv_at hl 0 rfl) ?_
  refine lv_ldc (v := -1000001) hx hb hown (hts _ zq_943) zd_Mod_walk_16 ?_
  obtain ⟨v14, X15, hq16, hf⟩ := zu_b2_e hf
  refine zw_Mod_finds (rest := []) B hP hS hq16 zq_944 (Nat.le_of_ble_eq_true rfl) (Nat.le_of_ble_eq_true rfl) hl.1 rfl (Nat.le_of_ble_eq_true rfl) zd_Mod_walk_18 (by decide) (fun H locs hP hS => ?_)
  clear hq16
  obtain rfl := Option.some.inj hf
  exact zr_iret hx hb hret hlk hP hS zd_Mod_walk_21
set_option maxHeartbeats 4000000 in
theorem zl_Mod_walk {p : Program} {l : Launch} {e : Env} {s : State} {m : MethodId} {args : Array Value} {below : List Frame} {meth : Method} {c : Code} {D : va_G} {cA : Nat → ClassId} {ad : Nat → Nat} {A : Nat → Prop} (B : zu_B p s m args c zb_Mod_walk 5 "StonePostModel" D cA ad A) (hret : meth.sig.returnType = (some .int)) (hlk : meth.locks = false) {Y : LX} {res : Int32 × IX} {a1 : Int32} {a2 : Int32} {X : IX} (H : Heap) (locs : List Loc) (ls : Array Slot) (hP : va_P D zu_cl (zu_pic cA ad X Y) H) (hS : va_S A s.heap H locs) (hl : lv_has ls 5 [(0, .ref (ad 95)), (1, .int a1), (2, .int a2)]) (hf : fn_Mod_walk a1 a2 X = some res) : W p l e zR_Mod_walk s m args below meth c H locs 0 0 (MQ below (zu_Qi D cA ad A res.1 res.2 Y) args s 0 0 A) (F0 m 0 ls []) := by
  obtain ⟨hx, hb, hml, hown, hts, hST⟩ := id B
  unfold fn_Mod_walk at hf
  refine lv_aload_n hx hb zd_Mod_walk_0 rfl (lv_at hl 0 rfl) ?_
  refine lv_iload_n hx hb zd_Mod_walk_1 rfl (lv_at hl 1 rfl) ?_
  obtain ⟨v1, hq2, hf⟩ := zu_b1_e hf
  refine zw_Mod_isThrower (rest := []) B hP hS hq2 zq_979 (Nat.le_of_ble_eq_true rfl) (Nat.le_of_ble_eq_true rfl) hl.1 rfl (Nat.le_of_ble_eq_true rfl) zd_Mod_walk_2 (by decide) (fun H locs hP hS => ?_)
  clear hq2
  refine lv_if_eq (tgt := 15) hx hb zd_Mod_walk_5 (by decide) (fun c3 => ?_) (fun c3 => ?_)
  · have hf := zu_t c3 hf
    exact zl_Mod_walk_L15 B hret hlk X _ _ _ hP hS (lv_sub hl [0] rfl) hf
  · have hf := zu_f c3 hf
    refine lv_iload_n hx hb zd_Mod_walk_8 rfl (lv_at hl 2 rfl) ?_
    obtain ⟨v4, hq5, hf⟩ := zu_b1_e hf
    refine zw_Mod_isCell (rest := []) B hP hS hq5 zq_935 (Nat.le_of_ble_eq_true rfl) (Nat.le_of_ble_eq_true rfl) hl.1 rfl (Nat.le_of_ble_eq_true rfl) zd_Mod_walk_9 (by decide) (fun H locs hP hS => ?_)
    clear hq5
    refine lv_if_ne (tgt := 22) hx hb zd_Mod_walk_12 (by decide) (fun c6 => ?_) (fun c6 => ?_)
    · have hf := zu_f c6 hf
      refine lv_aload_n hx hb zd_Mod_walk_22 rfl (lv_at hl 0 rfl) ?_
      refine lv_iload_n hx hb zd_Mod_walk_23 rfl (lv_at hl 2 rfl) ?_
      obtain ⟨v7, hq8, hf⟩ := zu_b1_e hf
      refine zw_Mod_standing (rest := []) B hP hS hq8 zq_958 (Nat.le_of_ble_eq_true rfl) (Nat.le_of_ble_eq_true rfl) hl.1 rfl (Nat.le_of_ble_eq_true rfl) zd_Mod_walk_24 (by decide) (fun H locs hP hS => ?_)
      clear hq8
      refine lv_istore_n (lv' := [(3, .int v7), (0, .ref (ad 95)), (1, .int a1), (2, .int a2)]) hx hb zd_Mod_walk_27 rfl hl (by decide) rfl (fun ls hl => ?_)
      refine lv_iload_n hx hb zd_Mod_walk_28 rfl (lv_at hl 0 rfl) ?_
      refine lv_if_lt (tgt := 44) hx hb zd_Mod_walk_29 (by decide) (fun c9 => ?_) (fun c9 => ?_)
      · have hf := zu_t c9 hf
        exact zl_Mod_walk_L44 B hret hlk a1 a2 X _ _ _ hP hS (lv_sub hl [1, 2, 3] rfl) hf
      · have hf := zu_f c9 hf
        refine lv_iload_n hx hb zd_Mod_walk_32 rfl (lv_at hl 0 rfl) ?_
        refine lv_iload_n hx hb zd_Mod_walk_33 rfl (lv_at hl 2 rfl) ?_
        refine lv_icmp_eq (tgt := 44) hx hb zd_Mod_walk_34 (by decide) (fun c10 => ?_) (fun c10 => ?_)
        · have hf := zu_t c10 hf
          exact zl_Mod_walk_L44 B hret hlk a1 a2 X _ _ _ hP hS (lv_sub hl [1, 2, 3] rfl) hf
        · have hf := zu_f c10 hf
          refine lv_aload_n hx hb zd_Mod_walk_37 rfl (lv_at hl 1 rfl) ?_
          refine lv_ldc (v := -1000005) hx hb hown (hts _ zq_969) zd_Mod_walk_38 ?_
          obtain ⟨v11, X12, hq13, hf⟩ := zu_b2_e hf
          refine zw_Mod_finds (rest := []) B hP hS hq13 zq_944 (Nat.le_of_ble_eq_true rfl) (Nat.le_of_ble_eq_true rfl) hl.1 rfl (Nat.le_of_ble_eq_true rfl) zd_Mod_walk_40 (by decide) (fun H locs hP hS => ?_)
          clear hq13
          obtain rfl := Option.some.inj hf
          exact zr_iret hx hb hret hlk hP hS zd_Mod_walk_43
    · have hf := zu_t c6 hf
      exact zl_Mod_walk_L15 B hret hlk X _ _ _ hP hS (lv_sub hl [0] rfl) hf
theorem zC_Mod_walk (l : Launch) {D : va_G} {cA : Nat → ClassId} {ad : Nat → Nat} {A : Nat → Prop} {a1 : Int32} {a2 : Int32} {X : IX} {Y : LX} {res : Int32 × IX} (hf : fn_Mod_walk a1 a2 X = some res) : Met l zm_Mod_walk (zu_ws zm_Mod_walk zb_Mod_walk 5 (some .int)) zR_Mod_walk (va_Pc [.ref (ad 95), .int a1, .int a2] (zu_Pre D cA ad A X Y)) (zu_Qi D cA ad A res.1 res.2 Y) 0 0 A := by
  refine Met.ofW (cc := zb_Mod_walk) (maxL := 5) (ret := (some .int)) (by decide +kernel) rfl ?_
  intro p e s m args below meth c s₁ B0 hml hv
  obtain ⟨rfl, hP, hST⟩ := hv
  have B : zu_B p s m _ c zb_Mod_walk 5 "StonePostModel" D cA ad A := ⟨B0.exec, B0.bytes, hml, findClass_of_methodNamed B0.named, (fun w hw => atoms_spec (ws := zu_ws zm_Mod_walk zb_Mod_walk 5 (some .int)) B0.pre w (List.mem_cons_of_mem _ hw)), hST⟩
  have hl := lv_entry ([.ref (ad 95), .int a1, .int a2]) (n := 5) (Nat.le_of_ble_eq_true rfl)
  rw [lg_entry_eq]
  generalize (lg_sl ([.ref (ad 95), .int a1, .int a2]) ++ List.replicate (5 - (lg_sl ([.ref (ad 95), .int a1, .int a2])).length) Slot.unset).toArray = ls at hl ⊢
  exact zl_Mod_walk B B0.returns B0.notSynchronized s.heap [] ls hP va_S.rf hl  hf
theorem zw_Mod_walk {p : Program} {l : Launch} {e : Env} {R : Room} {s : State} {m : MethodId} {args : Array Value} {below : List Frame} {meth : Method} {c : Code} {H : Heap} {locs : List Loc} {cells slots : Nat} {Q : State → Prop} {cc : ByteArray} {pc nL : Nat} {ls : Array Slot} {rest st0 : List Value} {D : va_G} {cA : Nat → ClassId} {ad : Nat → Nat} {A : Nat → Prop} {X : IX} {Y : LX} {own : String} {index : Nat} {a1 : Int32} {a2 : Int32} {v1 : Int32} {X1 : IX} (B : zu_B p s m args c cc nL own D cA ad A) (hP : va_P D zu_cl (zu_pic cA ad X Y) H) (hS : va_S A s.heap H locs) (hq : fn_Mod_walk a1 a2 X = some (v1, X1)) (m1 : Cond.methodLink own index zm_Mod_walk ∈ zu_TB) (hR1 : 3 + 1 ≤ R.frames) (hR2 : 8 + (5 + 11) + 66 ≤ R.locals) (hsz : ls.size = nL) (hst : st0 = .int a2 :: .int a1 :: .ref (ad 95) :: rest) (hw : (rest.map fun v => v.category).sum ≤ 8) (hdg : decode cc pc = .ok (.invokevirtual index, 3)) (h00 : cells ≤ R.cells ∧ slots ≤ R.slots) (kk : ∀ (H1 : Heap) (locs1 : List Loc), va_P D zu_cl (zu_pic cA ad X1 Y) H1 → va_S A s.heap H1 locs1 → W p l e R s m args below meth c H1 locs1 cells slots Q (F0 m (pc + 3) ls (.int v1 :: rest))) : W p l e R s m args below meth c H locs cells slots Q (F0 m pc ls st0) := by
  subst hst
  exact zr_cVi (As := [.int a1, .int a2]) (rest := rest) (n := 2) (C := "StonePostModel") (T := zt_Mod) (N := 23) B hP hS (zC_Mod_walk l  hq) (K := 7) rfl (by decide) (by decide) rfl rfl m1 zq_993 zq_994 zq_8 zq_995 (by decide +kernel) ⟨hR1, hR2⟩ rfl rfl rfl hsz rfl hw hdg h00 kk
abbrev zR_Mod_isNight : Room := { frames := 0, cells := 0, slots := 0, locals := 0 }
theorem zd_Mod_isNight_0 : decode zb_Mod_isNight 0 = .ok (.iload_n 0, 1) := by decide +kernel
theorem zd_Mod_isNight_1 : decode zb_Mod_isNight 1 = .ok (.bipush 6, 2) := by decide +kernel
theorem zd_Mod_isNight_3 : decode zb_Mod_isNight 3 = .ok (.if_icmp .lt 9, 3) := by decide +kernel
theorem zd_Mod_isNight_6 : decode zb_Mod_isNight 6 = .ok (.iload_n 0, 1) := by decide +kernel
theorem zd_Mod_isNight_7 : decode zb_Mod_isNight 7 = .ok (.bipush 17, 2) := by decide +kernel
theorem zd_Mod_isNight_9 : decode zb_Mod_isNight 9 = .ok (.if_icmp .le 7, 3) := by decide +kernel
theorem zd_Mod_isNight_12 : decode zb_Mod_isNight 12 = .ok (.iconst 1, 1) := by decide +kernel
theorem zd_Mod_isNight_13 : decode zb_Mod_isNight 13 = .ok (.goto 4, 3) := by decide +kernel
theorem zd_Mod_isNight_16 : decode zb_Mod_isNight 16 = .ok (.iconst 0, 1) := by decide +kernel
theorem zd_Mod_isNight_17 : decode zb_Mod_isNight 17 = .ok (.ireturn, 1) := by decide +kernel
set_option maxHeartbeats 4000000 in
theorem zl_Mod_isNight_L17 {p : Program} {l : Launch} {e : Env} {s : State} {m : MethodId} {args : Array Value} {below : List Frame} {meth : Method} {c : Code} {D : va_G} {cA : Nat → ClassId} {ad : Nat → Nat} {A : Nat → Prop} (B : zu_B p s m args c zb_Mod_isNight 1 "StonePostModel" D cA ad A) (hret : meth.sig.returnType = (some .boolean)) (hlk : meth.locks = false) {X : IX} {Y : LX} {res : Int32} (y0 : Int32) (H : Heap) (locs : List Loc) (ls : Array Slot) (hP : va_P D zu_cl (zu_pic cA ad X Y) H) (hS : va_S A s.heap H locs) (hl : lv_has ls 1 []) (hf : fn_Mod_isNight_L17 y0 = some res) : W p l e zR_Mod_isNight s m args below meth c H locs 0 0 (MQ below (zu_Qi D cA ad A res X Y) args s 0 0 A) (F0 m 17 ls [.int y0]) := by
  obtain ⟨hx, hb, hml, hown, hts, hST⟩ := id B
  unfold fn_Mod_isNight_L17 at hf
  obtain ⟨hg3, hf⟩ := zu_gd_e hf
  obtain rfl := Option.some.inj hf
  exact zr_zret hx hb hret hlk hP hS hg3 zd_Mod_isNight_17
set_option maxHeartbeats 4000000 in
theorem zl_Mod_isNight_L12 {p : Program} {l : Launch} {e : Env} {s : State} {m : MethodId} {args : Array Value} {below : List Frame} {meth : Method} {c : Code} {D : va_G} {cA : Nat → ClassId} {ad : Nat → Nat} {A : Nat → Prop} (B : zu_B p s m args c zb_Mod_isNight 1 "StonePostModel" D cA ad A) (hret : meth.sig.returnType = (some .boolean)) (hlk : meth.locks = false) {X : IX} {Y : LX} {res : Int32} (H : Heap) (locs : List Loc) (ls : Array Slot) (hP : va_P D zu_cl (zu_pic cA ad X Y) H) (hS : va_S A s.heap H locs) (hl : lv_has ls 1 []) (hf : fn_Mod_isNight_L12 = some res) : W p l e zR_Mod_isNight s m args below meth c H locs 0 0 (MQ below (zu_Qi D cA ad A res X Y) args s 0 0 A) (F0 m 12 ls []) := by
  obtain ⟨hx, hb, hml, hown, hts, hST⟩ := id B
  unfold fn_Mod_isNight_L12 at hf
  refine lv_iconst (v := 1) hx hb zd_Mod_isNight_12 (by decide) ?_
  refine lv_goto (tgt := 17) hx hb zd_Mod_isNight_13 (by decide) ?_
  exact zl_Mod_isNight_L17 B hret hlk (1 : Int32) _ _ _ hP hS (lv_sub hl [] rfl) hf
set_option maxHeartbeats 4000000 in
theorem zl_Mod_isNight {p : Program} {l : Launch} {e : Env} {s : State} {m : MethodId} {args : Array Value} {below : List Frame} {meth : Method} {c : Code} {D : va_G} {cA : Nat → ClassId} {ad : Nat → Nat} {A : Nat → Prop} (B : zu_B p s m args c zb_Mod_isNight 1 "StonePostModel" D cA ad A) (hret : meth.sig.returnType = (some .boolean)) (hlk : meth.locks = false) {X : IX} {Y : LX} {res : Int32} {a0 : Int32} (H : Heap) (locs : List Loc) (ls : Array Slot) (hP : va_P D zu_cl (zu_pic cA ad X Y) H) (hS : va_S A s.heap H locs) (hl : lv_has ls 1 [(0, .int a0)]) (hf : fn_Mod_isNight a0 = some res) : W p l e zR_Mod_isNight s m args below meth c H locs 0 0 (MQ below (zu_Qi D cA ad A res X Y) args s 0 0 A) (F0 m 0 ls []) := by
  obtain ⟨hx, hb, hml, hown, hts, hST⟩ := id B
  unfold fn_Mod_isNight at hf
  refine lv_iload_n hx hb zd_Mod_isNight_0 rfl (lv_at hl 0 rfl) ?_
  refine lv_bipush (v := 6) hx hb zd_Mod_isNight_1 (by decide) ?_
  refine lv_icmp_lt (tgt := 12) hx hb zd_Mod_isNight_3 (by decide) (fun c1 => ?_) (fun c1 => ?_)
  · have hf := zu_t c1 hf
    exact zl_Mod_isNight_L12 B hret hlk _ _ _ hP hS (lv_sub hl [] rfl) hf
  · have hf := zu_f c1 hf
    refine lv_iload_n hx hb zd_Mod_isNight_6 rfl (lv_at hl 0 rfl) ?_
    refine lv_bipush (v := 17) hx hb zd_Mod_isNight_7 (by decide) ?_
    refine lv_icmp_le (tgt := 16) hx hb zd_Mod_isNight_9 (by decide) (fun c2 => ?_) (fun c2 => ?_)
    · have hf := zu_t c2 hf
      refine lv_iconst (v := 0) hx hb zd_Mod_isNight_16 (by decide) ?_
      exact zl_Mod_isNight_L17 B hret hlk (0 : Int32) _ _ _ hP hS (lv_sub hl [] rfl) hf
    · have hf := zu_f c2 hf
      exact zl_Mod_isNight_L12 B hret hlk _ _ _ hP hS (lv_sub hl [] rfl) hf
theorem zC_Mod_isNight (l : Launch) {D : va_G} {cA : Nat → ClassId} {ad : Nat → Nat} {A : Nat → Prop} {a0 : Int32} {X : IX} {Y : LX} {res : Int32} (hf : fn_Mod_isNight a0 = some res) : Met l zm_Mod_isNight (zu_ws zm_Mod_isNight zb_Mod_isNight 1 (some .boolean)) zR_Mod_isNight (va_Pc [.int a0] (zu_Pre D cA ad A X Y)) (zu_Qi D cA ad A res X Y) 0 0 A := by
  refine Met.ofW (cc := zb_Mod_isNight) (maxL := 1) (ret := (some .boolean)) (by decide +kernel) rfl ?_
  intro p e s m args below meth c s₁ B0 hml hv
  obtain ⟨rfl, hP, hST⟩ := hv
  have B : zu_B p s m _ c zb_Mod_isNight 1 "StonePostModel" D cA ad A := ⟨B0.exec, B0.bytes, hml, findClass_of_methodNamed B0.named, (fun w hw => atoms_spec (ws := zu_ws zm_Mod_isNight zb_Mod_isNight 1 (some .boolean)) B0.pre w (List.mem_cons_of_mem _ hw)), hST⟩
  have hl := lv_entry ([.int a0]) (n := 1) (Nat.le_of_ble_eq_true rfl)
  rw [lg_entry_eq]
  generalize (lg_sl ([.int a0]) ++ List.replicate (1 - (lg_sl ([.int a0])).length) Slot.unset).toArray = ls at hl ⊢
  exact zl_Mod_isNight B B0.returns B0.notSynchronized s.heap [] ls hP va_S.rf hl  hf
theorem zw_Mod_isNight {p : Program} {l : Launch} {e : Env} {R : Room} {s : State} {m : MethodId} {args : Array Value} {below : List Frame} {meth : Method} {c : Code} {H : Heap} {locs : List Loc} {cells slots : Nat} {Q : State → Prop} {cc : ByteArray} {pc nL : Nat} {ls : Array Slot} {rest st0 : List Value} {D : va_G} {cA : Nat → ClassId} {ad : Nat → Nat} {A : Nat → Prop} {X : IX} {Y : LX} {own : String} {index : Nat} {a0 : Int32} {v1 : Int32} (B : zu_B p s m args c cc nL own D cA ad A) (hP : va_P D zu_cl (zu_pic cA ad X Y) H) (hS : va_S A s.heap H locs) (hq : fn_Mod_isNight a0 = some v1) (m1 : Cond.methodLink own index zm_Mod_isNight ∈ zu_TB) (hR1 : 0 + 1 ≤ R.frames) (hR2 : 8 + (1 + 11) + 0 ≤ R.locals) (hsz : ls.size = nL) (hst : st0 = .int a0 ::  rest) (hw : (rest.map fun v => v.category).sum ≤ 8) (hdg : decode cc pc = .ok (.invokestatic index, 3)) (h00 : cells ≤ R.cells ∧ slots ≤ R.slots) (kk : ∀ (H1 : Heap) (locs1 : List Loc), va_P D zu_cl (zu_pic cA ad X Y) H1 → va_S A s.heap H1 locs1 → W p l e R s m args below meth c H1 locs1 cells slots Q (F0 m (pc + 3) ls (.int v1 :: rest))) : W p l e R s m args below meth c H locs cells slots Q (F0 m pc ls st0) := by
  subst hst
  exact zr_cSi (As := [.int a0]) (rest := rest) (n := 1) B hP hS (zC_Mod_isNight l  hq) m1 zq_1009 zq_8 zq_1010 (by decide +kernel) ⟨hR1, hR2⟩ rfl rfl rfl hsz rfl hw hdg h00 kk
abbrev zR_Mod_reach : Room := { frames := 2, cells := 0, slots := 0, locals := 43 }
theorem zd_Mod_reach_0 : decode zb_Mod_reach 0 = .ok (.iload_n 2, 1) := by decide +kernel
theorem zd_Mod_reach_1 : decode zb_Mod_reach 1 = .ok (.iconst 1, 1) := by decide +kernel
theorem zd_Mod_reach_2 : decode zb_Mod_reach 2 = .ok (.if_icmp .ne 12, 3) := by decide +kernel
theorem zd_Mod_reach_5 : decode zb_Mod_reach 5 = .ok (.aload_n 0, 1) := by decide +kernel
theorem zd_Mod_reach_6 : decode zb_Mod_reach 6 = .ok (.iload_n 1, 1) := by decide +kernel
theorem zd_Mod_reach_7 : decode zb_Mod_reach 7 = .ok (.iconst 3, 1) := by decide +kernel
theorem zd_Mod_reach_8 : decode zb_Mod_reach 8 = .ok (.invokevirtual 74, 3) := by decide +kernel
theorem zd_Mod_reach_11 : decode zb_Mod_reach 11 = .ok (.goto 9, 3) := by decide +kernel
theorem zd_Mod_reach_14 : decode zb_Mod_reach 14 = .ok (.aload_n 0, 1) := by decide +kernel
theorem zd_Mod_reach_15 : decode zb_Mod_reach 15 = .ok (.iload_n 1, 1) := by decide +kernel
theorem zd_Mod_reach_16 : decode zb_Mod_reach 16 = .ok (.iconst 2, 1) := by decide +kernel
theorem zd_Mod_reach_17 : decode zb_Mod_reach 17 = .ok (.invokevirtual 74, 3) := by decide +kernel
theorem zd_Mod_reach_20 : decode zb_Mod_reach 20 = .ok (.istore 4, 2) := by decide +kernel
theorem zd_Mod_reach_22 : decode zb_Mod_reach 22 = .ok (.aload_n 0, 1) := by decide +kernel
theorem zd_Mod_reach_23 : decode zb_Mod_reach 23 = .ok (.iload_n 1, 1) := by decide +kernel
theorem zd_Mod_reach_24 : decode zb_Mod_reach 24 = .ok (.iconst 0, 1) := by decide +kernel
theorem zd_Mod_reach_25 : decode zb_Mod_reach 25 = .ok (.invokevirtual 74, 3) := by decide +kernel
theorem zd_Mod_reach_28 : decode zb_Mod_reach 28 = .ok (.tableswitch 76 1 6 #[40, 76, 45, 76, 54, 71], 40) := by decide +kernel
theorem zd_Mod_reach_68 : decode zb_Mod_reach 68 = .ok (.iload 4, 2) := by decide +kernel
theorem zd_Mod_reach_70 : decode zb_Mod_reach 70 = .ok (.iconst 1, 1) := by decide +kernel
theorem zd_Mod_reach_71 : decode zb_Mod_reach 71 = .ok (.iadd, 1) := by decide +kernel
theorem zd_Mod_reach_72 : decode zb_Mod_reach 72 = .ok (.ireturn, 1) := by decide +kernel
theorem zd_Mod_reach_73 : decode zb_Mod_reach 73 = .ok (.iload 4, 2) := by decide +kernel
theorem zd_Mod_reach_75 : decode zb_Mod_reach 75 = .ok (.iconst 1, 1) := by decide +kernel
theorem zd_Mod_reach_76 : decode zb_Mod_reach 76 = .ok (.iadd, 1) := by decide +kernel
theorem zd_Mod_reach_77 : decode zb_Mod_reach 77 = .ok (.iconst 2, 1) := by decide +kernel
theorem zd_Mod_reach_78 : decode zb_Mod_reach 78 = .ok (.iload_n 2, 1) := by decide +kernel
theorem zd_Mod_reach_79 : decode zb_Mod_reach 79 = .ok (.imul, 1) := by decide +kernel
theorem zd_Mod_reach_80 : decode zb_Mod_reach 80 = .ok (.iadd, 1) := by decide +kernel
theorem zd_Mod_reach_81 : decode zb_Mod_reach 81 = .ok (.ireturn, 1) := by decide +kernel
theorem zd_Mod_reach_82 : decode zb_Mod_reach 82 = .ok (.iload_n 3, 1) := by decide +kernel
theorem zd_Mod_reach_83 : decode zb_Mod_reach 83 = .ok (.invokestatic 98, 3) := by decide +kernel
theorem zd_Mod_reach_86 : decode zb_Mod_reach 86 = .ok (.ifCond .eq 10, 3) := by decide +kernel
theorem zd_Mod_reach_89 : decode zb_Mod_reach 89 = .ok (.iload 4, 2) := by decide +kernel
theorem zd_Mod_reach_91 : decode zb_Mod_reach 91 = .ok (.iconst 1, 1) := by decide +kernel
theorem zd_Mod_reach_92 : decode zb_Mod_reach 92 = .ok (.isub, 1) := by decide +kernel
theorem zd_Mod_reach_93 : decode zb_Mod_reach 93 = .ok (.goto 5, 3) := by decide +kernel
theorem zd_Mod_reach_96 : decode zb_Mod_reach 96 = .ok (.iload 4, 2) := by decide +kernel
theorem zd_Mod_reach_98 : decode zb_Mod_reach 98 = .ok (.ireturn, 1) := by decide +kernel
theorem zd_Mod_reach_99 : decode zb_Mod_reach 99 = .ok (.iload 4, 2) := by decide +kernel
theorem zd_Mod_reach_101 : decode zb_Mod_reach 101 = .ok (.iconst 2, 1) := by decide +kernel
theorem zd_Mod_reach_102 : decode zb_Mod_reach 102 = .ok (.idiv, 1) := by decide +kernel
theorem zd_Mod_reach_103 : decode zb_Mod_reach 103 = .ok (.ireturn, 1) := by decide +kernel
theorem zd_Mod_reach_104 : decode zb_Mod_reach 104 = .ok (.iload 4, 2) := by decide +kernel
theorem zd_Mod_reach_106 : decode zb_Mod_reach 106 = .ok (.ireturn, 1) := by decide +kernel
set_option maxHeartbeats 4000000 in
theorem zl_Mod_reach_L104 {p : Program} {l : Launch} {e : Env} {s : State} {m : MethodId} {args : Array Value} {below : List Frame} {meth : Method} {c : Code} {D : va_G} {cA : Nat → ClassId} {ad : Nat → Nat} {A : Nat → Prop} (B : zu_B p s m args c zb_Mod_reach 5 "StonePostModel" D cA ad A) (hret : meth.sig.returnType = (some .int)) (hlk : meth.locks = false) {X : IX} {Y : LX} {res : Int32} (x4 : Int32) (H : Heap) (locs : List Loc) (ls : Array Slot) (hP : va_P D zu_cl (zu_pic cA ad X Y) H) (hS : va_S A s.heap H locs) (hl : lv_has ls 5 [(4, .int x4)]) (hf : fn_Mod_reach_L104 X x4 = some res) : W p l e zR_Mod_reach s m args below meth c H locs 0 0 (MQ below (zu_Qi D cA ad A res X Y) args s 0 0 A) (F0 m 104 ls []) := by
  obtain ⟨hx, hb, hml, hown, hts, hST⟩ := id B
  unfold fn_Mod_reach_L104 at hf
  refine lv_iload hx hb zd_Mod_reach_104 (lv_at hl 0 rfl) ?_
  obtain rfl := Option.some.inj hf
  exact zr_iret hx hb hret hlk hP hS zd_Mod_reach_106
set_option maxHeartbeats 4000000 in
theorem zl_Mod_reach_L98 {p : Program} {l : Launch} {e : Env} {s : State} {m : MethodId} {args : Array Value} {below : List Frame} {meth : Method} {c : Code} {D : va_G} {cA : Nat → ClassId} {ad : Nat → Nat} {A : Nat → Prop} (B : zu_B p s m args c zb_Mod_reach 5 "StonePostModel" D cA ad A) (hret : meth.sig.returnType = (some .int)) (hlk : meth.locks = false) {X : IX} {Y : LX} {res : Int32} (y0 : Int32) (H : Heap) (locs : List Loc) (ls : Array Slot) (hP : va_P D zu_cl (zu_pic cA ad X Y) H) (hS : va_S A s.heap H locs) (hl : lv_has ls 5 []) (hf : fn_Mod_reach_L98 X y0 = some res) : W p l e zR_Mod_reach s m args below meth c H locs 0 0 (MQ below (zu_Qi D cA ad A res X Y) args s 0 0 A) (F0 m 98 ls [.int y0]) := by
  obtain ⟨hx, hb, hml, hown, hts, hST⟩ := id B
  unfold fn_Mod_reach_L98 at hf
  obtain rfl := Option.some.inj hf
  exact zr_iret hx hb hret hlk hP hS zd_Mod_reach_98
set_option maxHeartbeats 4000000 in
theorem zl_Mod_reach_L20 {p : Program} {l : Launch} {e : Env} {s : State} {m : MethodId} {args : Array Value} {below : List Frame} {meth : Method} {c : Code} {D : va_G} {cA : Nat → ClassId} {ad : Nat → Nat} {A : Nat → Prop} (B : zu_B p s m args c zb_Mod_reach 5 "StonePostModel" D cA ad A) (hret : meth.sig.returnType = (some .int)) (hlk : meth.locks = false) {X : IX} {Y : LX} {res : Int32} (x1 : Int32) (x2 : Int32) (x3 : Int32) (y0 : Int32) (H : Heap) (locs : List Loc) (ls : Array Slot) (hP : va_P D zu_cl (zu_pic cA ad X Y) H) (hS : va_S A s.heap H locs) (hl : lv_has ls 5 [(0, .ref (ad 95)), (1, .int x1), (2, .int x2), (3, .int x3)]) (hf : fn_Mod_reach_L20 X x1 x2 x3 y0 = some res) : W p l e zR_Mod_reach s m args below meth c H locs 0 0 (MQ below (zu_Qi D cA ad A res X Y) args s 0 0 A) (F0 m 20 ls [.int y0]) := by
  obtain ⟨hx, hb, hml, hown, hts, hST⟩ := id B
  unfold fn_Mod_reach_L20 at hf
  refine lv_istore (lv' := [(4, .int y0), (0, .ref (ad 95)), (1, .int x1), (2, .int x2), (3, .int x3)]) hx hb zd_Mod_reach_20 hl (by decide) rfl (fun ls hl => ?_)
  refine lv_aload_n hx hb zd_Mod_reach_22 rfl (lv_at hl 1 rfl) ?_
  refine lv_iload_n hx hb zd_Mod_reach_23 rfl (lv_at hl 2 rfl) ?_
  refine lv_iconst (v := 0) hx hb zd_Mod_reach_24 (by decide) ?_
  obtain ⟨v6, hq7, hf⟩ := zu_b1_e hf
  refine zw_Mod_its (rest := []) B hP hS hq7 zq_962 (Nat.le_of_ble_eq_true rfl) (Nat.le_of_ble_eq_true rfl) hl.1 rfl (Nat.le_of_ble_eq_true rfl) zd_Mod_reach_25 (by decide) (fun H locs hP hS => ?_)
  clear hq7
  by_cases h28_1 : v6 = (1 : Int32)
  · have hf := zu_t h28_1 hf
    refine lv_tableIn (tgt := 68) (off := 40) hx hb zd_Mod_reach_28 (by rw [h28_1]; decide) (by rw [h28_1]; decide) (by rw [h28_1]; decide) (by decide) ?_
    refine lv_iload hx hb zd_Mod_reach_68 (lv_at hl 0 rfl) ?_
    refine lv_iconst (v := 1) hx hb zd_Mod_reach_70 (by decide) ?_
    refine lv_iadd hx hb zd_Mod_reach_71 ?_
    obtain rfl := Option.some.inj hf
    exact zr_iret hx hb hret hlk hP hS zd_Mod_reach_72
  · have hf := zu_f h28_1 hf
    by_cases h28_2 : v6 = (2 : Int32)
    · have hf := zu_t h28_2 hf
      refine lv_tableIn (tgt := 104) (off := 76) hx hb zd_Mod_reach_28 (by rw [h28_2]; decide) (by rw [h28_2]; decide) (by rw [h28_2]; decide) (by decide) ?_
      exact zl_Mod_reach_L104 B hret hlk y0 _ _ _ hP hS (lv_sub hl [0] rfl) hf
    · have hf := zu_f h28_2 hf
      by_cases h28_3 : v6 = (3 : Int32)
      · have hf := zu_t h28_3 hf
        refine lv_tableIn (tgt := 73) (off := 45) hx hb zd_Mod_reach_28 (by rw [h28_3]; decide) (by rw [h28_3]; decide) (by rw [h28_3]; decide) (by decide) ?_
        refine lv_iload hx hb zd_Mod_reach_73 (lv_at hl 0 rfl) ?_
        refine lv_iconst (v := 1) hx hb zd_Mod_reach_75 (by decide) ?_
        refine lv_iadd hx hb zd_Mod_reach_76 ?_
        refine lv_iconst (v := 2) hx hb zd_Mod_reach_77 (by decide) ?_
        refine lv_iload_n hx hb zd_Mod_reach_78 rfl (lv_at hl 3 rfl) ?_
        refine lv_imul hx hb zd_Mod_reach_79 ?_
        refine lv_iadd hx hb zd_Mod_reach_80 ?_
        obtain rfl := Option.some.inj hf
        exact zr_iret hx hb hret hlk hP hS zd_Mod_reach_81
      · have hf := zu_f h28_3 hf
        by_cases h28_4 : v6 = (4 : Int32)
        · have hf := zu_t h28_4 hf
          refine lv_tableIn (tgt := 104) (off := 76) hx hb zd_Mod_reach_28 (by rw [h28_4]; decide) (by rw [h28_4]; decide) (by rw [h28_4]; decide) (by decide) ?_
          exact zl_Mod_reach_L104 B hret hlk y0 _ _ _ hP hS (lv_sub hl [0] rfl) hf
        · have hf := zu_f h28_4 hf
          by_cases h28_5 : v6 = (5 : Int32)
          · have hf := zu_t h28_5 hf
            refine lv_tableIn (tgt := 82) (off := 54) hx hb zd_Mod_reach_28 (by rw [h28_5]; decide) (by rw [h28_5]; decide) (by rw [h28_5]; decide) (by decide) ?_
            refine lv_iload_n hx hb zd_Mod_reach_82 rfl (lv_at hl 4 rfl) ?_
            obtain ⟨v8, hq9, hf⟩ := zu_b1_e hf
            refine zw_Mod_isNight (rest := []) B hP hS hq9 zq_1008 (Nat.le_of_ble_eq_true rfl) (Nat.le_of_ble_eq_true rfl) hl.1 rfl (Nat.le_of_ble_eq_true rfl) zd_Mod_reach_83 (by decide) (fun H locs hP hS => ?_)
            clear hq9
            refine lv_if_eq (tgt := 96) hx hb zd_Mod_reach_86 (by decide) (fun c10 => ?_) (fun c10 => ?_)
            · have hf := zu_t c10 hf
              refine lv_iload hx hb zd_Mod_reach_96 (lv_at hl 0 rfl) ?_
              exact zl_Mod_reach_L98 B hret hlk y0 _ _ _ hP hS (lv_sub hl [] rfl) hf
            · have hf := zu_f c10 hf
              refine lv_iload hx hb zd_Mod_reach_89 (lv_at hl 0 rfl) ?_
              refine lv_iconst (v := 1) hx hb zd_Mod_reach_91 (by decide) ?_
              refine lv_isub hx hb zd_Mod_reach_92 ?_
              refine lv_goto (tgt := 98) hx hb zd_Mod_reach_93 (by decide) ?_
              exact zl_Mod_reach_L98 B hret hlk (y0 - (1 : Int32)) _ _ _ hP hS (lv_sub hl [] rfl) hf
          · have hf := zu_f h28_5 hf
            by_cases h28_6 : v6 = (6 : Int32)
            · have hf := zu_t h28_6 hf
              refine lv_tableIn (tgt := 99) (off := 71) hx hb zd_Mod_reach_28 (by rw [h28_6]; decide) (by rw [h28_6]; decide) (by rw [h28_6]; decide) (by decide) ?_
              refine lv_iload hx hb zd_Mod_reach_99 (lv_at hl 0 rfl) ?_
              refine lv_iconst (v := 2) hx hb zd_Mod_reach_101 (by decide) ?_
              refine lv_idiv hx hb zd_Mod_reach_102 (by decide) ?_
              obtain rfl := Option.some.inj hf
              exact zr_iret hx hb hret hlk hP hS zd_Mod_reach_103
            · have hf := zu_f h28_6 hf
              have hsw : v6.toInt < 1 ∨ 6 < v6.toInt := by
                have n0 := lv_neT h28_1 (a := 1) (by decide)
                have n1 := lv_neT h28_2 (a := 2) (by decide)
                have n2 := lv_neT h28_3 (a := 3) (by decide)
                have n3 := lv_neT h28_4 (a := 4) (by decide)
                have n4 := lv_neT h28_5 (a := 5) (by decide)
                have n5 := lv_neT h28_6 (a := 6) (by decide)
                omega
              refine lv_tableOut (tgt := 104) hx hb zd_Mod_reach_28 hsw (by decide) ?_
              exact zl_Mod_reach_L104 B hret hlk y0 _ _ _ hP hS (lv_sub hl [0] rfl) hf
set_option maxHeartbeats 4000000 in
theorem zl_Mod_reach {p : Program} {l : Launch} {e : Env} {s : State} {m : MethodId} {args : Array Value} {below : List Frame} {meth : Method} {c : Code} {D : va_G} {cA : Nat → ClassId} {ad : Nat → Nat} {A : Nat → Prop} (B : zu_B p s m args c zb_Mod_reach 5 "StonePostModel" D cA ad A) (hret : meth.sig.returnType = (some .int)) (hlk : meth.locks = false) {X : IX} {Y : LX} {res : Int32} {a1 : Int32} {a2 : Int32} {a3 : Int32} (H : Heap) (locs : List Loc) (ls : Array Slot) (hP : va_P D zu_cl (zu_pic cA ad X Y) H) (hS : va_S A s.heap H locs) (hl : lv_has ls 5 [(0, .ref (ad 95)), (1, .int a1), (2, .int a2), (3, .int a3)]) (hf : fn_Mod_reach X a1 a2 a3 = some res) : W p l e zR_Mod_reach s m args below meth c H locs 0 0 (MQ below (zu_Qi D cA ad A res X Y) args s 0 0 A) (F0 m 0 ls []) := by
  obtain ⟨hx, hb, hml, hown, hts, hST⟩ := id B
  unfold fn_Mod_reach at hf
  refine lv_iload_n hx hb zd_Mod_reach_0 rfl (lv_at hl 2 rfl) ?_
  refine lv_iconst (v := 1) hx hb zd_Mod_reach_1 (by decide) ?_
  refine lv_icmp_ne (tgt := 14) hx hb zd_Mod_reach_2 (by decide) (fun c1 => ?_) (fun c1 => ?_)
  · have hf := zu_f c1 hf
    refine lv_aload_n hx hb zd_Mod_reach_14 rfl (lv_at hl 0 rfl) ?_
    refine lv_iload_n hx hb zd_Mod_reach_15 rfl (lv_at hl 1 rfl) ?_
    refine lv_iconst (v := 2) hx hb zd_Mod_reach_16 (by decide) ?_
    obtain ⟨v2, hq3, hf⟩ := zu_b1_e hf
    refine zw_Mod_its (rest := []) B hP hS hq3 zq_962 (Nat.le_of_ble_eq_true rfl) (Nat.le_of_ble_eq_true rfl) hl.1 rfl (Nat.le_of_ble_eq_true rfl) zd_Mod_reach_17 (by decide) (fun H locs hP hS => ?_)
    clear hq3
    exact zl_Mod_reach_L20 B hret hlk a1 a2 a3 v2 _ _ _ hP hS (lv_sub hl [0, 1, 2, 3] rfl) hf
  · have hf := zu_t c1 hf
    refine lv_aload_n hx hb zd_Mod_reach_5 rfl (lv_at hl 0 rfl) ?_
    refine lv_iload_n hx hb zd_Mod_reach_6 rfl (lv_at hl 1 rfl) ?_
    refine lv_iconst (v := 3) hx hb zd_Mod_reach_7 (by decide) ?_
    obtain ⟨v4, hq5, hf⟩ := zu_b1_e hf
    refine zw_Mod_its (rest := []) B hP hS hq5 zq_962 (Nat.le_of_ble_eq_true rfl) (Nat.le_of_ble_eq_true rfl) hl.1 rfl (Nat.le_of_ble_eq_true rfl) zd_Mod_reach_8 (by decide) (fun H locs hP hS => ?_)
    clear hq5
    refine lv_goto (tgt := 20) hx hb zd_Mod_reach_11 (by decide) ?_
    exact zl_Mod_reach_L20 B hret hlk a1 a2 a3 v4 _ _ _ hP hS (lv_sub hl [0, 1, 2, 3] rfl) hf
theorem zC_Mod_reach (l : Launch) {D : va_G} {cA : Nat → ClassId} {ad : Nat → Nat} {A : Nat → Prop} {a1 : Int32} {a2 : Int32} {a3 : Int32} {X : IX} {Y : LX} {res : Int32} (hf : fn_Mod_reach X a1 a2 a3 = some res) : Met l zm_Mod_reach (zu_ws zm_Mod_reach zb_Mod_reach 5 (some .int)) zR_Mod_reach (va_Pc [.ref (ad 95), .int a1, .int a2, .int a3] (zu_Pre D cA ad A X Y)) (zu_Qi D cA ad A res X Y) 0 0 A := by
  refine Met.ofW (cc := zb_Mod_reach) (maxL := 5) (ret := (some .int)) (by decide +kernel) rfl ?_
  intro p e s m args below meth c s₁ B0 hml hv
  obtain ⟨rfl, hP, hST⟩ := hv
  have B : zu_B p s m _ c zb_Mod_reach 5 "StonePostModel" D cA ad A := ⟨B0.exec, B0.bytes, hml, findClass_of_methodNamed B0.named, (fun w hw => atoms_spec (ws := zu_ws zm_Mod_reach zb_Mod_reach 5 (some .int)) B0.pre w (List.mem_cons_of_mem _ hw)), hST⟩
  have hl := lv_entry ([.ref (ad 95), .int a1, .int a2, .int a3]) (n := 5) (Nat.le_of_ble_eq_true rfl)
  rw [lg_entry_eq]
  generalize (lg_sl ([.ref (ad 95), .int a1, .int a2, .int a3]) ++ List.replicate (5 - (lg_sl ([.ref (ad 95), .int a1, .int a2, .int a3])).length) Slot.unset).toArray = ls at hl ⊢
  exact zl_Mod_reach B B0.returns B0.notSynchronized s.heap [] ls hP va_S.rf hl  hf
theorem zw_Mod_reach {p : Program} {l : Launch} {e : Env} {R : Room} {s : State} {m : MethodId} {args : Array Value} {below : List Frame} {meth : Method} {c : Code} {H : Heap} {locs : List Loc} {cells slots : Nat} {Q : State → Prop} {cc : ByteArray} {pc nL : Nat} {ls : Array Slot} {rest st0 : List Value} {D : va_G} {cA : Nat → ClassId} {ad : Nat → Nat} {A : Nat → Prop} {X : IX} {Y : LX} {own : String} {index : Nat} {a1 : Int32} {a2 : Int32} {a3 : Int32} {v1 : Int32} (B : zu_B p s m args c cc nL own D cA ad A) (hP : va_P D zu_cl (zu_pic cA ad X Y) H) (hS : va_S A s.heap H locs) (hq : fn_Mod_reach X a1 a2 a3 = some v1) (m1 : Cond.methodLink own index zm_Mod_reach ∈ zu_TB) (hR1 : 2 + 1 ≤ R.frames) (hR2 : 8 + (5 + 11) + 43 ≤ R.locals) (hsz : ls.size = nL) (hst : st0 = .int a3 :: .int a2 :: .int a1 :: .ref (ad 95) :: rest) (hw : (rest.map fun v => v.category).sum ≤ 8) (hdg : decode cc pc = .ok (.invokevirtual index, 3)) (h00 : cells ≤ R.cells ∧ slots ≤ R.slots) (kk : ∀ (H1 : Heap) (locs1 : List Loc), va_P D zu_cl (zu_pic cA ad X Y) H1 → va_S A s.heap H1 locs1 → W p l e R s m args below meth c H1 locs1 cells slots Q (F0 m (pc + 3) ls (.int v1 :: rest))) : W p l e R s m args below meth c H locs cells slots Q (F0 m pc ls st0) := by
  subst hst
  exact zr_cVi (As := [.int a1, .int a2, .int a3]) (rest := rest) (n := 3) (C := "StonePostModel") (T := zt_Mod) (N := 23) B hP hS (zC_Mod_reach l  hq) (K := 7) rfl (by decide) (by decide) rfl rfl m1 zq_1006 zqP_26 zq_8 zq_1007 (by decide +kernel) ⟨hR1, hR2⟩ rfl rfl rfl hsz rfl hw hdg h00 kk
abbrev zR_Mod_least0 : Room := { frames := 0, cells := 0, slots := 0, locals := 0 }
theorem zd_Mod_least0_0 : decode zb_Mod_least0 0 = .ok (.iload_n 0, 1) := by decide +kernel
theorem zd_Mod_least0_1 : decode zb_Mod_least0 1 = .ok (.ifCond .ge 7, 3) := by decide +kernel
theorem zd_Mod_least0_4 : decode zb_Mod_least0 4 = .ok (.iconst 0, 1) := by decide +kernel
theorem zd_Mod_least0_5 : decode zb_Mod_least0 5 = .ok (.goto 4, 3) := by decide +kernel
theorem zd_Mod_least0_8 : decode zb_Mod_least0 8 = .ok (.iload_n 0, 1) := by decide +kernel
theorem zd_Mod_least0_9 : decode zb_Mod_least0 9 = .ok (.ireturn, 1) := by decide +kernel
set_option maxHeartbeats 4000000 in
theorem zl_Mod_least0_L9 {p : Program} {l : Launch} {e : Env} {s : State} {m : MethodId} {args : Array Value} {below : List Frame} {meth : Method} {c : Code} {D : va_G} {cA : Nat → ClassId} {ad : Nat → Nat} {A : Nat → Prop} (B : zu_B p s m args c zb_Mod_least0 1 "StonePostModel" D cA ad A) (hret : meth.sig.returnType = (some .int)) (hlk : meth.locks = false) {X : IX} {Y : LX} {res : Int32} (y0 : Int32) (H : Heap) (locs : List Loc) (ls : Array Slot) (hP : va_P D zu_cl (zu_pic cA ad X Y) H) (hS : va_S A s.heap H locs) (hl : lv_has ls 1 []) (hf : fn_Mod_least0_L9 y0 = res) : W p l e zR_Mod_least0 s m args below meth c H locs 0 0 (MQ below (zu_Qi D cA ad A res X Y) args s 0 0 A) (F0 m 9 ls [.int y0]) := by
  obtain ⟨hx, hb, hml, hown, hts, hST⟩ := id B
  unfold fn_Mod_least0_L9 at hf
  obtain rfl := hf
  exact zr_iret hx hb hret hlk hP hS zd_Mod_least0_9
set_option maxHeartbeats 4000000 in
theorem zl_Mod_least0 {p : Program} {l : Launch} {e : Env} {s : State} {m : MethodId} {args : Array Value} {below : List Frame} {meth : Method} {c : Code} {D : va_G} {cA : Nat → ClassId} {ad : Nat → Nat} {A : Nat → Prop} (B : zu_B p s m args c zb_Mod_least0 1 "StonePostModel" D cA ad A) (hret : meth.sig.returnType = (some .int)) (hlk : meth.locks = false) {X : IX} {Y : LX} {res : Int32} {a0 : Int32} (H : Heap) (locs : List Loc) (ls : Array Slot) (hP : va_P D zu_cl (zu_pic cA ad X Y) H) (hS : va_S A s.heap H locs) (hl : lv_has ls 1 [(0, .int a0)]) (hf : fn_Mod_least0 a0 = res) : W p l e zR_Mod_least0 s m args below meth c H locs 0 0 (MQ below (zu_Qi D cA ad A res X Y) args s 0 0 A) (F0 m 0 ls []) := by
  obtain ⟨hx, hb, hml, hown, hts, hST⟩ := id B
  unfold fn_Mod_least0 at hf
  refine lv_iload_n hx hb zd_Mod_least0_0 rfl (lv_at hl 0 rfl) ?_
  refine lv_if_ge (tgt := 8) hx hb zd_Mod_least0_1 (by decide) (fun c1 => ?_) (fun c1 => ?_)
  · have hf := zu_t c1 hf
    refine lv_iload_n hx hb zd_Mod_least0_8 rfl (lv_at hl 0 rfl) ?_
    exact zl_Mod_least0_L9 B hret hlk a0 _ _ _ hP hS (lv_sub hl [] rfl) hf
  · have hf := zu_f c1 hf
    refine lv_iconst (v := 0) hx hb zd_Mod_least0_4 (by decide) ?_
    refine lv_goto (tgt := 9) hx hb zd_Mod_least0_5 (by decide) ?_
    exact zl_Mod_least0_L9 B hret hlk (0 : Int32) _ _ _ hP hS (lv_sub hl [] rfl) hf
theorem zC_Mod_least0 (l : Launch) {D : va_G} {cA : Nat → ClassId} {ad : Nat → Nat} {A : Nat → Prop} {a0 : Int32} {X : IX} {Y : LX} {res : Int32} (hf : fn_Mod_least0 a0 = res) : Met l zm_Mod_least0 (zu_ws zm_Mod_least0 zb_Mod_least0 1 (some .int)) zR_Mod_least0 (va_Pc [.int a0] (zu_Pre D cA ad A X Y)) (zu_Qi D cA ad A res X Y) 0 0 A := by
  refine Met.ofW (cc := zb_Mod_least0) (maxL := 1) (ret := (some .int)) (by decide +kernel) rfl ?_
  intro p e s m args below meth c s₁ B0 hml hv
  obtain ⟨rfl, hP, hST⟩ := hv
  have B : zu_B p s m _ c zb_Mod_least0 1 "StonePostModel" D cA ad A := ⟨B0.exec, B0.bytes, hml, findClass_of_methodNamed B0.named, (fun w hw => atoms_spec (ws := zu_ws zm_Mod_least0 zb_Mod_least0 1 (some .int)) B0.pre w (List.mem_cons_of_mem _ hw)), hST⟩
  have hl := lv_entry ([.int a0]) (n := 1) (Nat.le_of_ble_eq_true rfl)
  rw [lg_entry_eq]
  generalize (lg_sl ([.int a0]) ++ List.replicate (1 - (lg_sl ([.int a0])).length) Slot.unset).toArray = ls at hl ⊢
  exact zl_Mod_least0 B B0.returns B0.notSynchronized s.heap [] ls hP va_S.rf hl  hf
theorem zw_Mod_least0 {p : Program} {l : Launch} {e : Env} {R : Room} {s : State} {m : MethodId} {args : Array Value} {below : List Frame} {meth : Method} {c : Code} {H : Heap} {locs : List Loc} {cells slots : Nat} {Q : State → Prop} {cc : ByteArray} {pc nL : Nat} {ls : Array Slot} {rest st0 : List Value} {D : va_G} {cA : Nat → ClassId} {ad : Nat → Nat} {A : Nat → Prop} {X : IX} {Y : LX} {own : String} {index : Nat} {a0 : Int32} {v1 : Int32} (B : zu_B p s m args c cc nL own D cA ad A) (hP : va_P D zu_cl (zu_pic cA ad X Y) H) (hS : va_S A s.heap H locs) (hq : fn_Mod_least0 a0 = v1) (m1 : Cond.methodLink own index zm_Mod_least0 ∈ zu_TB) (hR1 : 0 + 1 ≤ R.frames) (hR2 : 8 + (1 + 11) + 0 ≤ R.locals) (hsz : ls.size = nL) (hst : st0 = .int a0 ::  rest) (hw : (rest.map fun v => v.category).sum ≤ 8) (hdg : decode cc pc = .ok (.invokestatic index, 3)) (h00 : cells ≤ R.cells ∧ slots ≤ R.slots) (kk : ∀ (H1 : Heap) (locs1 : List Loc), va_P D zu_cl (zu_pic cA ad X Y) H1 → va_S A s.heap H1 locs1 → W p l e R s m args below meth c H1 locs1 cells slots Q (F0 m (pc + 3) ls (.int v1 :: rest))) : W p l e R s m args below meth c H locs cells slots Q (F0 m pc ls st0) := by
  subst hst
  exact zr_cSi (As := [.int a0]) (rest := rest) (n := 1) B hP hS (zC_Mod_least0 l  hq) m1 zq_1016 zq_8 zq_1017 (by decide +kernel) ⟨hR1, hR2⟩ rfl rfl rfl hsz rfl hw hdg h00 kk
abbrev zR_Mod_sure : Room := { frames := 2, cells := 0, slots := 0, locals := 43 }
theorem zd_Mod_sure_0 : decode zb_Mod_sure 0 = .ok (.aload_n 0, 1) := by decide +kernel
theorem zd_Mod_sure_1 : decode zb_Mod_sure 1 = .ok (.iload_n 1, 1) := by decide +kernel
theorem zd_Mod_sure_2 : decode zb_Mod_sure 2 = .ok (.iconst 5, 1) := by decide +kernel
theorem zd_Mod_sure_3 : decode zb_Mod_sure 3 = .ok (.invokevirtual 74, 3) := by decide +kernel
theorem zd_Mod_sure_6 : decode zb_Mod_sure 6 = .ok (.iconst 2, 1) := by decide +kernel
theorem zd_Mod_sure_7 : decode zb_Mod_sure 7 = .ok (.iload_n 2, 1) := by decide +kernel
theorem zd_Mod_sure_8 : decode zb_Mod_sure 8 = .ok (.imul, 1) := by decide +kernel
theorem zd_Mod_sure_9 : decode zb_Mod_sure 9 = .ok (.isub, 1) := by decide +kernel
theorem zd_Mod_sure_10 : decode zb_Mod_sure 10 = .ok (.invokestatic 101, 3) := by decide +kernel
theorem zd_Mod_sure_13 : decode zb_Mod_sure 13 = .ok (.istore 4, 2) := by decide +kernel
theorem zd_Mod_sure_15 : decode zb_Mod_sure 15 = .ok (.aload_n 0, 1) := by decide +kernel
theorem zd_Mod_sure_16 : decode zb_Mod_sure 16 = .ok (.iload_n 1, 1) := by decide +kernel
theorem zd_Mod_sure_17 : decode zb_Mod_sure 17 = .ok (.iconst 0, 1) := by decide +kernel
theorem zd_Mod_sure_18 : decode zb_Mod_sure 18 = .ok (.invokevirtual 74, 3) := by decide +kernel
theorem zd_Mod_sure_21 : decode zb_Mod_sure 21 = .ok (.tableswitch 65 2 6 #[35, 65, 43, 65, 62], 35) := by decide +kernel
theorem zd_Mod_sure_56 : decode zb_Mod_sure 56 = .ok (.iload 4, 2) := by decide +kernel
theorem zd_Mod_sure_58 : decode zb_Mod_sure 58 = .ok (.iconst 3, 1) := by decide +kernel
theorem zd_Mod_sure_59 : decode zb_Mod_sure 59 = .ok (.isub, 1) := by decide +kernel
theorem zd_Mod_sure_60 : decode zb_Mod_sure 60 = .ok (.invokestatic 101, 3) := by decide +kernel
theorem zd_Mod_sure_63 : decode zb_Mod_sure 63 = .ok (.ireturn, 1) := by decide +kernel
theorem zd_Mod_sure_64 : decode zb_Mod_sure 64 = .ok (.iload_n 3, 1) := by decide +kernel
theorem zd_Mod_sure_65 : decode zb_Mod_sure 65 = .ok (.invokestatic 98, 3) := by decide +kernel
theorem zd_Mod_sure_68 : decode zb_Mod_sure 68 = .ok (.ifCond .eq 7, 3) := by decide +kernel
theorem zd_Mod_sure_71 : decode zb_Mod_sure 71 = .ok (.iconst 0, 1) := by decide +kernel
theorem zd_Mod_sure_72 : decode zb_Mod_sure 72 = .ok (.goto 10, 3) := by decide +kernel
theorem zd_Mod_sure_75 : decode zb_Mod_sure 75 = .ok (.iload 4, 2) := by decide +kernel
theorem zd_Mod_sure_77 : decode zb_Mod_sure 77 = .ok (.iconst 3, 1) := by decide +kernel
theorem zd_Mod_sure_78 : decode zb_Mod_sure 78 = .ok (.isub, 1) := by decide +kernel
theorem zd_Mod_sure_79 : decode zb_Mod_sure 79 = .ok (.invokestatic 101, 3) := by decide +kernel
theorem zd_Mod_sure_82 : decode zb_Mod_sure 82 = .ok (.ireturn, 1) := by decide +kernel
theorem zd_Mod_sure_83 : decode zb_Mod_sure 83 = .ok (.bipush 12, 2) := by decide +kernel
theorem zd_Mod_sure_85 : decode zb_Mod_sure 85 = .ok (.ireturn, 1) := by decide +kernel
theorem zd_Mod_sure_86 : decode zb_Mod_sure 86 = .ok (.iload 4, 2) := by decide +kernel
theorem zd_Mod_sure_88 : decode zb_Mod_sure 88 = .ok (.ireturn, 1) := by decide +kernel
set_option maxHeartbeats 4000000 in
theorem zl_Mod_sure_L86 {p : Program} {l : Launch} {e : Env} {s : State} {m : MethodId} {args : Array Value} {below : List Frame} {meth : Method} {c : Code} {D : va_G} {cA : Nat → ClassId} {ad : Nat → Nat} {A : Nat → Prop} (B : zu_B p s m args c zb_Mod_sure 5 "StonePostModel" D cA ad A) (hret : meth.sig.returnType = (some .int)) (hlk : meth.locks = false) {X : IX} {Y : LX} {res : Int32} (x4 : Int32) (H : Heap) (locs : List Loc) (ls : Array Slot) (hP : va_P D zu_cl (zu_pic cA ad X Y) H) (hS : va_S A s.heap H locs) (hl : lv_has ls 5 [(4, .int x4)]) (hf : fn_Mod_sure_L86 X x4 = some res) : W p l e zR_Mod_sure s m args below meth c H locs 0 0 (MQ below (zu_Qi D cA ad A res X Y) args s 0 0 A) (F0 m 86 ls []) := by
  obtain ⟨hx, hb, hml, hown, hts, hST⟩ := id B
  unfold fn_Mod_sure_L86 at hf
  refine lv_iload hx hb zd_Mod_sure_86 (lv_at hl 0 rfl) ?_
  obtain rfl := Option.some.inj hf
  exact zr_iret hx hb hret hlk hP hS zd_Mod_sure_88
set_option maxHeartbeats 4000000 in
theorem zl_Mod_sure_L82 {p : Program} {l : Launch} {e : Env} {s : State} {m : MethodId} {args : Array Value} {below : List Frame} {meth : Method} {c : Code} {D : va_G} {cA : Nat → ClassId} {ad : Nat → Nat} {A : Nat → Prop} (B : zu_B p s m args c zb_Mod_sure 5 "StonePostModel" D cA ad A) (hret : meth.sig.returnType = (some .int)) (hlk : meth.locks = false) {X : IX} {Y : LX} {res : Int32} (y0 : Int32) (H : Heap) (locs : List Loc) (ls : Array Slot) (hP : va_P D zu_cl (zu_pic cA ad X Y) H) (hS : va_S A s.heap H locs) (hl : lv_has ls 5 []) (hf : fn_Mod_sure_L82 X y0 = some res) : W p l e zR_Mod_sure s m args below meth c H locs 0 0 (MQ below (zu_Qi D cA ad A res X Y) args s 0 0 A) (F0 m 82 ls [.int y0]) := by
  obtain ⟨hx, hb, hml, hown, hts, hST⟩ := id B
  unfold fn_Mod_sure_L82 at hf
  obtain rfl := Option.some.inj hf
  exact zr_iret hx hb hret hlk hP hS zd_Mod_sure_82
set_option maxHeartbeats 4000000 in
theorem zl_Mod_sure {p : Program} {l : Launch} {e : Env} {s : State} {m : MethodId} {args : Array Value} {below : List Frame} {meth : Method} {c : Code} {D : va_G} {cA : Nat → ClassId} {ad : Nat → Nat} {A : Nat → Prop} (B : zu_B p s m args c zb_Mod_sure 5 "StonePostModel" D cA ad A) (hret : meth.sig.returnType = (some .int)) (hlk : meth.locks = false) {X : IX} {Y : LX} {res : Int32} {a1 : Int32} {a2 : Int32} {a3 : Int32} (H : Heap) (locs : List Loc) (ls : Array Slot) (hP : va_P D zu_cl (zu_pic cA ad X Y) H) (hS : va_S A s.heap H locs) (hl : lv_has ls 5 [(0, .ref (ad 95)), (1, .int a1), (2, .int a2), (3, .int a3)]) (hf : fn_Mod_sure X a1 a2 a3 = some res) : W p l e zR_Mod_sure s m args below meth c H locs 0 0 (MQ below (zu_Qi D cA ad A res X Y) args s 0 0 A) (F0 m 0 ls []) := by
  obtain ⟨hx, hb, hml, hown, hts, hST⟩ := id B
  unfold fn_Mod_sure at hf
  refine lv_aload_n hx hb zd_Mod_sure_0 rfl (lv_at hl 0 rfl) ?_
  refine lv_iload_n hx hb zd_Mod_sure_1 rfl (lv_at hl 1 rfl) ?_
  refine lv_iconst (v := 5) hx hb zd_Mod_sure_2 (by decide) ?_
  obtain ⟨v1, hq2, hf⟩ := zu_b1_e hf
  refine zw_Mod_its (rest := []) B hP hS hq2 zq_962 (Nat.le_of_ble_eq_true rfl) (Nat.le_of_ble_eq_true rfl) hl.1 rfl (Nat.le_of_ble_eq_true rfl) zd_Mod_sure_3 (by decide) (fun H locs hP hS => ?_)
  clear hq2
  refine lv_iconst (v := 2) hx hb zd_Mod_sure_6 (by decide) ?_
  refine lv_iload_n hx hb zd_Mod_sure_7 rfl (lv_at hl 2 rfl) ?_
  refine lv_imul hx hb zd_Mod_sure_8 ?_
  refine lv_isub hx hb zd_Mod_sure_9 ?_
  obtain ⟨v3, ehq4, hf⟩ := zu_nx_e hf
  have hq4 := ehq4.symm
  refine zw_Mod_least0 (rest := []) B hP hS hq4 zq_1015 (Nat.le_of_ble_eq_true rfl) (Nat.le_of_ble_eq_true rfl) hl.1 rfl (Nat.le_of_ble_eq_true rfl) zd_Mod_sure_10 (by decide) (fun H locs hP hS => ?_)
  clear hq4 ehq4
  refine lv_istore (lv' := [(4, .int v3), (0, .ref (ad 95)), (1, .int a1), (2, .int a2), (3, .int a3)]) hx hb zd_Mod_sure_13 hl (by decide) rfl (fun ls hl => ?_)
  refine lv_aload_n hx hb zd_Mod_sure_15 rfl (lv_at hl 1 rfl) ?_
  refine lv_iload_n hx hb zd_Mod_sure_16 rfl (lv_at hl 2 rfl) ?_
  refine lv_iconst (v := 0) hx hb zd_Mod_sure_17 (by decide) ?_
  obtain ⟨v5, hq6, hf⟩ := zu_b1_e hf
  refine zw_Mod_its (rest := []) B hP hS hq6 zq_962 (Nat.le_of_ble_eq_true rfl) (Nat.le_of_ble_eq_true rfl) hl.1 rfl (Nat.le_of_ble_eq_true rfl) zd_Mod_sure_18 (by decide) (fun H locs hP hS => ?_)
  clear hq6
  by_cases h21_2 : v5 = (2 : Int32)
  · have hf := zu_t h21_2 hf
    refine lv_tableIn (tgt := 56) (off := 35) hx hb zd_Mod_sure_21 (by rw [h21_2]; decide) (by rw [h21_2]; decide) (by rw [h21_2]; decide) (by decide) ?_
    refine lv_iload hx hb zd_Mod_sure_56 (lv_at hl 0 rfl) ?_
    refine lv_iconst (v := 3) hx hb zd_Mod_sure_58 (by decide) ?_
    refine lv_isub hx hb zd_Mod_sure_59 ?_
    obtain ⟨v7, ehq8, hf⟩ := zu_nx_e hf
    have hq8 := ehq8.symm
    refine zw_Mod_least0 (rest := []) B hP hS hq8 zq_1015 (Nat.le_of_ble_eq_true rfl) (Nat.le_of_ble_eq_true rfl) hl.1 rfl (Nat.le_of_ble_eq_true rfl) zd_Mod_sure_60 (by decide) (fun H locs hP hS => ?_)
    clear hq8 ehq8
    obtain rfl := Option.some.inj hf
    exact zr_iret hx hb hret hlk hP hS zd_Mod_sure_63
  · have hf := zu_f h21_2 hf
    by_cases h21_3 : v5 = (3 : Int32)
    · have hf := zu_t h21_3 hf
      refine lv_tableIn (tgt := 86) (off := 65) hx hb zd_Mod_sure_21 (by rw [h21_3]; decide) (by rw [h21_3]; decide) (by rw [h21_3]; decide) (by decide) ?_
      exact zl_Mod_sure_L86 B hret hlk v3 _ _ _ hP hS (lv_sub hl [0] rfl) hf
    · have hf := zu_f h21_3 hf
      by_cases h21_4 : v5 = (4 : Int32)
      · have hf := zu_t h21_4 hf
        refine lv_tableIn (tgt := 64) (off := 43) hx hb zd_Mod_sure_21 (by rw [h21_4]; decide) (by rw [h21_4]; decide) (by rw [h21_4]; decide) (by decide) ?_
        refine lv_iload_n hx hb zd_Mod_sure_64 rfl (lv_at hl 4 rfl) ?_
        obtain ⟨v9, hq10, hf⟩ := zu_b1_e hf
        refine zw_Mod_isNight (rest := []) B hP hS hq10 zq_1008 (Nat.le_of_ble_eq_true rfl) (Nat.le_of_ble_eq_true rfl) hl.1 rfl (Nat.le_of_ble_eq_true rfl) zd_Mod_sure_65 (by decide) (fun H locs hP hS => ?_)
        clear hq10
        refine lv_if_eq (tgt := 75) hx hb zd_Mod_sure_68 (by decide) (fun c11 => ?_) (fun c11 => ?_)
        · have hf := zu_t c11 hf
          refine lv_iload hx hb zd_Mod_sure_75 (lv_at hl 0 rfl) ?_
          refine lv_iconst (v := 3) hx hb zd_Mod_sure_77 (by decide) ?_
          refine lv_isub hx hb zd_Mod_sure_78 ?_
          obtain ⟨v12, ehq13, hf⟩ := zu_nx_e hf
          have hq13 := ehq13.symm
          refine zw_Mod_least0 (rest := []) B hP hS hq13 zq_1015 (Nat.le_of_ble_eq_true rfl) (Nat.le_of_ble_eq_true rfl) hl.1 rfl (Nat.le_of_ble_eq_true rfl) zd_Mod_sure_79 (by decide) (fun H locs hP hS => ?_)
          clear hq13 ehq13
          exact zl_Mod_sure_L82 B hret hlk v12 _ _ _ hP hS (lv_sub hl [] rfl) hf
        · have hf := zu_f c11 hf
          refine lv_iconst (v := 0) hx hb zd_Mod_sure_71 (by decide) ?_
          refine lv_goto (tgt := 82) hx hb zd_Mod_sure_72 (by decide) ?_
          exact zl_Mod_sure_L82 B hret hlk (0 : Int32) _ _ _ hP hS (lv_sub hl [] rfl) hf
      · have hf := zu_f h21_4 hf
        by_cases h21_5 : v5 = (5 : Int32)
        · have hf := zu_t h21_5 hf
          refine lv_tableIn (tgt := 86) (off := 65) hx hb zd_Mod_sure_21 (by rw [h21_5]; decide) (by rw [h21_5]; decide) (by rw [h21_5]; decide) (by decide) ?_
          exact zl_Mod_sure_L86 B hret hlk v3 _ _ _ hP hS (lv_sub hl [0] rfl) hf
        · have hf := zu_f h21_5 hf
          by_cases h21_6 : v5 = (6 : Int32)
          · have hf := zu_t h21_6 hf
            refine lv_tableIn (tgt := 83) (off := 62) hx hb zd_Mod_sure_21 (by rw [h21_6]; decide) (by rw [h21_6]; decide) (by rw [h21_6]; decide) (by decide) ?_
            refine lv_bipush (v := 12) hx hb zd_Mod_sure_83 (by decide) ?_
            obtain rfl := Option.some.inj hf
            exact zr_iret hx hb hret hlk hP hS zd_Mod_sure_85
          · have hf := zu_f h21_6 hf
            have hsw : v5.toInt < 2 ∨ 6 < v5.toInt := by
              have n0 := lv_neT h21_2 (a := 2) (by decide)
              have n1 := lv_neT h21_3 (a := 3) (by decide)
              have n2 := lv_neT h21_4 (a := 4) (by decide)
              have n3 := lv_neT h21_5 (a := 5) (by decide)
              have n4 := lv_neT h21_6 (a := 6) (by decide)
              omega
            refine lv_tableOut (tgt := 86) hx hb zd_Mod_sure_21 hsw (by decide) ?_
            exact zl_Mod_sure_L86 B hret hlk v3 _ _ _ hP hS (lv_sub hl [0] rfl) hf
theorem zC_Mod_sure (l : Launch) {D : va_G} {cA : Nat → ClassId} {ad : Nat → Nat} {A : Nat → Prop} {a1 : Int32} {a2 : Int32} {a3 : Int32} {X : IX} {Y : LX} {res : Int32} (hf : fn_Mod_sure X a1 a2 a3 = some res) : Met l zm_Mod_sure (zu_ws zm_Mod_sure zb_Mod_sure 5 (some .int)) zR_Mod_sure (va_Pc [.ref (ad 95), .int a1, .int a2, .int a3] (zu_Pre D cA ad A X Y)) (zu_Qi D cA ad A res X Y) 0 0 A := by
  refine Met.ofW (cc := zb_Mod_sure) (maxL := 5) (ret := (some .int)) (by decide +kernel) rfl ?_
  intro p e s m args below meth c s₁ B0 hml hv
  obtain ⟨rfl, hP, hST⟩ := hv
  have B : zu_B p s m _ c zb_Mod_sure 5 "StonePostModel" D cA ad A := ⟨B0.exec, B0.bytes, hml, findClass_of_methodNamed B0.named, (fun w hw => atoms_spec (ws := zu_ws zm_Mod_sure zb_Mod_sure 5 (some .int)) B0.pre w (List.mem_cons_of_mem _ hw)), hST⟩
  have hl := lv_entry ([.ref (ad 95), .int a1, .int a2, .int a3]) (n := 5) (Nat.le_of_ble_eq_true rfl)
  rw [lg_entry_eq]
  generalize (lg_sl ([.ref (ad 95), .int a1, .int a2, .int a3]) ++ List.replicate (5 - (lg_sl ([.ref (ad 95), .int a1, .int a2, .int a3])).length) Slot.unset).toArray = ls at hl ⊢
  exact zl_Mod_sure B B0.returns B0.notSynchronized s.heap [] ls hP va_S.rf hl  hf
theorem zw_Mod_sure {p : Program} {l : Launch} {e : Env} {R : Room} {s : State} {m : MethodId} {args : Array Value} {below : List Frame} {meth : Method} {c : Code} {H : Heap} {locs : List Loc} {cells slots : Nat} {Q : State → Prop} {cc : ByteArray} {pc nL : Nat} {ls : Array Slot} {rest st0 : List Value} {D : va_G} {cA : Nat → ClassId} {ad : Nat → Nat} {A : Nat → Prop} {X : IX} {Y : LX} {own : String} {index : Nat} {a1 : Int32} {a2 : Int32} {a3 : Int32} {v1 : Int32} (B : zu_B p s m args c cc nL own D cA ad A) (hP : va_P D zu_cl (zu_pic cA ad X Y) H) (hS : va_S A s.heap H locs) (hq : fn_Mod_sure X a1 a2 a3 = some v1) (m1 : Cond.methodLink own index zm_Mod_sure ∈ zu_TB) (hR1 : 2 + 1 ≤ R.frames) (hR2 : 8 + (5 + 11) + 43 ≤ R.locals) (hsz : ls.size = nL) (hst : st0 = .int a3 :: .int a2 :: .int a1 :: .ref (ad 95) :: rest) (hw : (rest.map fun v => v.category).sum ≤ 8) (hdg : decode cc pc = .ok (.invokevirtual index, 3)) (h00 : cells ≤ R.cells ∧ slots ≤ R.slots) (kk : ∀ (H1 : Heap) (locs1 : List Loc), va_P D zu_cl (zu_pic cA ad X Y) H1 → va_S A s.heap H1 locs1 → W p l e R s m args below meth c H1 locs1 cells slots Q (F0 m (pc + 3) ls (.int v1 :: rest))) : W p l e R s m args below meth c H locs cells slots Q (F0 m pc ls st0) := by
  subst hst
  exact zr_cVi (As := [.int a1, .int a2, .int a3]) (rest := rest) (n := 3) (C := "StonePostModel") (T := zt_Mod) (N := 23) B hP hS (zC_Mod_sure l  hq) (K := 7) rfl (by decide) (by decide) rfl rfl m1 zq_1013 zqP_27 zq_8 zq_1014 (by decide +kernel) ⟨hR1, hR2⟩ rfl rfl rfl hsz rfl hw hdg h00 kk
abbrev zR_Mod_landing : Room := { frames := 3, cells := 0, slots := 0, locals := 67 }
theorem zd_Mod_landing_0 : decode zb_Mod_landing 0 = .ok (.aload_n 0, 1) := by decide +kernel
theorem zd_Mod_landing_1 : decode zb_Mod_landing 1 = .ok (.iload_n 1, 1) := by decide +kernel
theorem zd_Mod_landing_2 : decode zb_Mod_landing 2 = .ok (.iload_n 2, 1) := by decide +kernel
theorem zd_Mod_landing_3 : decode zb_Mod_landing 3 = .ok (.iload_n 3, 1) := by decide +kernel
theorem zd_Mod_landing_4 : decode zb_Mod_landing 4 = .ok (.invokevirtual 104, 3) := by decide +kernel
theorem zd_Mod_landing_7 : decode zb_Mod_landing 7 = .ok (.istore 5, 2) := by decide +kernel
theorem zd_Mod_landing_9 : decode zb_Mod_landing 9 = .ok (.iload 4, 2) := by decide +kernel
theorem zd_Mod_landing_11 : decode zb_Mod_landing 11 = .ok (.ifCond .eq 13, 3) := by decide +kernel
theorem zd_Mod_landing_14 : decode zb_Mod_landing 14 = .ok (.iload 5, 2) := by decide +kernel
theorem zd_Mod_landing_16 : decode zb_Mod_landing 16 = .ok (.iconst 1, 1) := by decide +kernel
theorem zd_Mod_landing_17 : decode zb_Mod_landing 17 = .ok (.isub, 1) := by decide +kernel
theorem zd_Mod_landing_18 : decode zb_Mod_landing 18 = .ok (.invokestatic 101, 3) := by decide +kernel
theorem zd_Mod_landing_21 : decode zb_Mod_landing 21 = .ok (.goto 5, 3) := by decide +kernel
theorem zd_Mod_landing_24 : decode zb_Mod_landing 24 = .ok (.iload 5, 2) := by decide +kernel
theorem zd_Mod_landing_26 : decode zb_Mod_landing 26 = .ok (.istore 6, 2) := by decide +kernel
theorem zd_Mod_landing_28 : decode zb_Mod_landing 28 = .ok (.aload_n 0, 1) := by decide +kernel
theorem zd_Mod_landing_29 : decode zb_Mod_landing 29 = .ok (.iload_n 1, 1) := by decide +kernel
theorem zd_Mod_landing_30 : decode zb_Mod_landing 30 = .ok (.iconst 4, 1) := by decide +kernel
theorem zd_Mod_landing_31 : decode zb_Mod_landing 31 = .ok (.invokevirtual 74, 3) := by decide +kernel
theorem zd_Mod_landing_34 : decode zb_Mod_landing 34 = .ok (.iconst 1, 1) := by decide +kernel
theorem zd_Mod_landing_35 : decode zb_Mod_landing 35 = .ok (.if_icmp .ne 15, 3) := by decide +kernel
theorem zd_Mod_landing_38 : decode zb_Mod_landing 38 = .ok (.aload_n 0, 1) := by decide +kernel
theorem zd_Mod_landing_39 : decode zb_Mod_landing 39 = .ok (.iload_n 1, 1) := by decide +kernel
theorem zd_Mod_landing_40 : decode zb_Mod_landing 40 = .ok (.iconst 1, 1) := by decide +kernel
theorem zd_Mod_landing_41 : decode zb_Mod_landing 41 = .ok (.invokevirtual 74, 3) := by decide +kernel
theorem zd_Mod_landing_44 : decode zb_Mod_landing 44 = .ok (.iload 6, 2) := by decide +kernel
theorem zd_Mod_landing_46 : decode zb_Mod_landing 46 = .ok (.iadd, 1) := by decide +kernel
theorem zd_Mod_landing_47 : decode zb_Mod_landing 47 = .ok (.goto 12, 3) := by decide +kernel
theorem zd_Mod_landing_50 : decode zb_Mod_landing 50 = .ok (.aload_n 0, 1) := by decide +kernel
theorem zd_Mod_landing_51 : decode zb_Mod_landing 51 = .ok (.iload_n 1, 1) := by decide +kernel
theorem zd_Mod_landing_52 : decode zb_Mod_landing 52 = .ok (.iconst 1, 1) := by decide +kernel
theorem zd_Mod_landing_53 : decode zb_Mod_landing 53 = .ok (.invokevirtual 74, 3) := by decide +kernel
theorem zd_Mod_landing_56 : decode zb_Mod_landing 56 = .ok (.iload 6, 2) := by decide +kernel
theorem zd_Mod_landing_58 : decode zb_Mod_landing 58 = .ok (.isub, 1) := by decide +kernel
theorem zd_Mod_landing_59 : decode zb_Mod_landing 59 = .ok (.istore 7, 2) := by decide +kernel
theorem zd_Mod_landing_61 : decode zb_Mod_landing 61 = .ok (.iload 7, 2) := by decide +kernel
theorem zd_Mod_landing_63 : decode zb_Mod_landing 63 = .ok (.ifCond .ge 7, 3) := by decide +kernel
theorem zd_Mod_landing_66 : decode zb_Mod_landing 66 = .ok (.iconst 0, 1) := by decide +kernel
theorem zd_Mod_landing_67 : decode zb_Mod_landing 67 = .ok (.goto 17, 3) := by decide +kernel
theorem zd_Mod_landing_70 : decode zb_Mod_landing 70 = .ok (.iload 7, 2) := by decide +kernel
theorem zd_Mod_landing_72 : decode zb_Mod_landing 72 = .ok (.bipush 23, 2) := by decide +kernel
theorem zd_Mod_landing_74 : decode zb_Mod_landing 74 = .ok (.if_icmp .le 8, 3) := by decide +kernel
theorem zd_Mod_landing_77 : decode zb_Mod_landing 77 = .ok (.bipush 23, 2) := by decide +kernel
theorem zd_Mod_landing_79 : decode zb_Mod_landing 79 = .ok (.goto 5, 3) := by decide +kernel
theorem zd_Mod_landing_82 : decode zb_Mod_landing 82 = .ok (.iload 7, 2) := by decide +kernel
theorem zd_Mod_landing_84 : decode zb_Mod_landing 84 = .ok (.ireturn, 1) := by decide +kernel
set_option maxHeartbeats 4000000 in
theorem zl_Mod_landing_L84 {p : Program} {l : Launch} {e : Env} {s : State} {m : MethodId} {args : Array Value} {below : List Frame} {meth : Method} {c : Code} {D : va_G} {cA : Nat → ClassId} {ad : Nat → Nat} {A : Nat → Prop} (B : zu_B p s m args c zb_Mod_landing 8 "StonePostModel" D cA ad A) (hret : meth.sig.returnType = (some .int)) (hlk : meth.locks = false) {X : IX} {Y : LX} {res : Int32} (y0 : Int32) (H : Heap) (locs : List Loc) (ls : Array Slot) (hP : va_P D zu_cl (zu_pic cA ad X Y) H) (hS : va_S A s.heap H locs) (hl : lv_has ls 8 []) (hf : fn_Mod_landing_L84 X y0 = some res) : W p l e zR_Mod_landing s m args below meth c H locs 0 0 (MQ below (zu_Qi D cA ad A res X Y) args s 0 0 A) (F0 m 84 ls [.int y0]) := by
  obtain ⟨hx, hb, hml, hown, hts, hST⟩ := id B
  unfold fn_Mod_landing_L84 at hf
  obtain rfl := Option.some.inj hf
  exact zr_iret hx hb hret hlk hP hS zd_Mod_landing_84
set_option maxHeartbeats 4000000 in
theorem zl_Mod_landing_L59 {p : Program} {l : Launch} {e : Env} {s : State} {m : MethodId} {args : Array Value} {below : List Frame} {meth : Method} {c : Code} {D : va_G} {cA : Nat → ClassId} {ad : Nat → Nat} {A : Nat → Prop} (B : zu_B p s m args c zb_Mod_landing 8 "StonePostModel" D cA ad A) (hret : meth.sig.returnType = (some .int)) (hlk : meth.locks = false) {X : IX} {Y : LX} {res : Int32} (y0 : Int32) (H : Heap) (locs : List Loc) (ls : Array Slot) (hP : va_P D zu_cl (zu_pic cA ad X Y) H) (hS : va_S A s.heap H locs) (hl : lv_has ls 8 []) (hf : fn_Mod_landing_L59 X y0 = some res) : W p l e zR_Mod_landing s m args below meth c H locs 0 0 (MQ below (zu_Qi D cA ad A res X Y) args s 0 0 A) (F0 m 59 ls [.int y0]) := by
  obtain ⟨hx, hb, hml, hown, hts, hST⟩ := id B
  unfold fn_Mod_landing_L59 at hf
  refine lv_istore (lv' := [(7, .int y0)]) hx hb zd_Mod_landing_59 hl (by decide) rfl (fun ls hl => ?_)
  refine lv_iload hx hb zd_Mod_landing_61 (lv_at hl 0 rfl) ?_
  refine lv_if_ge (tgt := 70) hx hb zd_Mod_landing_63 (by decide) (fun c13 => ?_) (fun c13 => ?_)
  · have hf := zu_t c13 hf
    refine lv_iload hx hb zd_Mod_landing_70 (lv_at hl 0 rfl) ?_
    refine lv_bipush (v := 23) hx hb zd_Mod_landing_72 (by decide) ?_
    refine lv_icmp_le (tgt := 82) hx hb zd_Mod_landing_74 (by decide) (fun c14 => ?_) (fun c14 => ?_)
    · have hf := zu_t c14 hf
      refine lv_iload hx hb zd_Mod_landing_82 (lv_at hl 0 rfl) ?_
      exact zl_Mod_landing_L84 B hret hlk y0 _ _ _ hP hS (lv_sub hl [] rfl) hf
    · have hf := zu_f c14 hf
      refine lv_bipush (v := 23) hx hb zd_Mod_landing_77 (by decide) ?_
      refine lv_goto (tgt := 84) hx hb zd_Mod_landing_79 (by decide) ?_
      exact zl_Mod_landing_L84 B hret hlk (23 : Int32) _ _ _ hP hS (lv_sub hl [] rfl) hf
  · have hf := zu_f c13 hf
    refine lv_iconst (v := 0) hx hb zd_Mod_landing_66 (by decide) ?_
    refine lv_goto (tgt := 84) hx hb zd_Mod_landing_67 (by decide) ?_
    exact zl_Mod_landing_L84 B hret hlk (0 : Int32) _ _ _ hP hS (lv_sub hl [] rfl) hf
set_option maxHeartbeats 4000000 in
theorem zl_Mod_landing_L26 {p : Program} {l : Launch} {e : Env} {s : State} {m : MethodId} {args : Array Value} {below : List Frame} {meth : Method} {c : Code} {D : va_G} {cA : Nat → ClassId} {ad : Nat → Nat} {A : Nat → Prop} (B : zu_B p s m args c zb_Mod_landing 8 "StonePostModel" D cA ad A) (hret : meth.sig.returnType = (some .int)) (hlk : meth.locks = false) {X : IX} {Y : LX} {res : Int32} (x1 : Int32) (y0 : Int32) (H : Heap) (locs : List Loc) (ls : Array Slot) (hP : va_P D zu_cl (zu_pic cA ad X Y) H) (hS : va_S A s.heap H locs) (hl : lv_has ls 8 [(0, .ref (ad 95)), (1, .int x1)]) (hf : fn_Mod_landing_L26 X x1 y0 = some res) : W p l e zR_Mod_landing s m args below meth c H locs 0 0 (MQ below (zu_Qi D cA ad A res X Y) args s 0 0 A) (F0 m 26 ls [.int y0]) := by
  obtain ⟨hx, hb, hml, hown, hts, hST⟩ := id B
  unfold fn_Mod_landing_L26 at hf
  refine lv_istore (lv' := [(6, .int y0), (0, .ref (ad 95)), (1, .int x1)]) hx hb zd_Mod_landing_26 hl (by decide) rfl (fun ls hl => ?_)
  refine lv_aload_n hx hb zd_Mod_landing_28 rfl (lv_at hl 1 rfl) ?_
  refine lv_iload_n hx hb zd_Mod_landing_29 rfl (lv_at hl 2 rfl) ?_
  refine lv_iconst (v := 4) hx hb zd_Mod_landing_30 (by decide) ?_
  obtain ⟨v6, hq7, hf⟩ := zu_b1_e hf
  refine zw_Mod_its (rest := []) B hP hS hq7 zq_962 (Nat.le_of_ble_eq_true rfl) (Nat.le_of_ble_eq_true rfl) hl.1 rfl (Nat.le_of_ble_eq_true rfl) zd_Mod_landing_31 (by decide) (fun H locs hP hS => ?_)
  clear hq7
  refine lv_iconst (v := 1) hx hb zd_Mod_landing_34 (by decide) ?_
  refine lv_icmp_ne (tgt := 50) hx hb zd_Mod_landing_35 (by decide) (fun c8 => ?_) (fun c8 => ?_)
  · have hf := zu_f c8 hf
    refine lv_aload_n hx hb zd_Mod_landing_50 rfl (lv_at hl 1 rfl) ?_
    refine lv_iload_n hx hb zd_Mod_landing_51 rfl (lv_at hl 2 rfl) ?_
    refine lv_iconst (v := 1) hx hb zd_Mod_landing_52 (by decide) ?_
    obtain ⟨v9, hq10, hf⟩ := zu_b1_e hf
    refine zw_Mod_its (rest := []) B hP hS hq10 zq_962 (Nat.le_of_ble_eq_true rfl) (Nat.le_of_ble_eq_true rfl) hl.1 rfl (Nat.le_of_ble_eq_true rfl) zd_Mod_landing_53 (by decide) (fun H locs hP hS => ?_)
    clear hq10
    refine lv_iload hx hb zd_Mod_landing_56 (lv_at hl 0 rfl) ?_
    refine lv_isub hx hb zd_Mod_landing_58 ?_
    exact zl_Mod_landing_L59 B hret hlk (v9 - y0) _ _ _ hP hS (lv_sub hl [] rfl) hf
  · have hf := zu_t c8 hf
    refine lv_aload_n hx hb zd_Mod_landing_38 rfl (lv_at hl 1 rfl) ?_
    refine lv_iload_n hx hb zd_Mod_landing_39 rfl (lv_at hl 2 rfl) ?_
    refine lv_iconst (v := 1) hx hb zd_Mod_landing_40 (by decide) ?_
    obtain ⟨v11, hq12, hf⟩ := zu_b1_e hf
    refine zw_Mod_its (rest := []) B hP hS hq12 zq_962 (Nat.le_of_ble_eq_true rfl) (Nat.le_of_ble_eq_true rfl) hl.1 rfl (Nat.le_of_ble_eq_true rfl) zd_Mod_landing_41 (by decide) (fun H locs hP hS => ?_)
    clear hq12
    refine lv_iload hx hb zd_Mod_landing_44 (lv_at hl 0 rfl) ?_
    refine lv_iadd hx hb zd_Mod_landing_46 ?_
    refine lv_goto (tgt := 59) hx hb zd_Mod_landing_47 (by decide) ?_
    exact zl_Mod_landing_L59 B hret hlk (v11 + y0) _ _ _ hP hS (lv_sub hl [] rfl) hf
set_option maxHeartbeats 4000000 in
theorem zl_Mod_landing {p : Program} {l : Launch} {e : Env} {s : State} {m : MethodId} {args : Array Value} {below : List Frame} {meth : Method} {c : Code} {D : va_G} {cA : Nat → ClassId} {ad : Nat → Nat} {A : Nat → Prop} (B : zu_B p s m args c zb_Mod_landing 8 "StonePostModel" D cA ad A) (hret : meth.sig.returnType = (some .int)) (hlk : meth.locks = false) {X : IX} {Y : LX} {res : Int32} {a1 : Int32} {a2 : Int32} {a3 : Int32} {a4 : Int32} (H : Heap) (locs : List Loc) (ls : Array Slot) (hP : va_P D zu_cl (zu_pic cA ad X Y) H) (hS : va_S A s.heap H locs) (hl : lv_has ls 8 [(0, .ref (ad 95)), (1, .int a1), (2, .int a2), (3, .int a3), (4, .int a4)]) (hf : fn_Mod_landing X a1 a2 a3 a4 = some res) : W p l e zR_Mod_landing s m args below meth c H locs 0 0 (MQ below (zu_Qi D cA ad A res X Y) args s 0 0 A) (F0 m 0 ls []) := by
  obtain ⟨hx, hb, hml, hown, hts, hST⟩ := id B
  unfold fn_Mod_landing at hf
  refine lv_aload_n hx hb zd_Mod_landing_0 rfl (lv_at hl 0 rfl) ?_
  refine lv_iload_n hx hb zd_Mod_landing_1 rfl (lv_at hl 1 rfl) ?_
  refine lv_iload_n hx hb zd_Mod_landing_2 rfl (lv_at hl 2 rfl) ?_
  refine lv_iload_n hx hb zd_Mod_landing_3 rfl (lv_at hl 3 rfl) ?_
  obtain ⟨v1, hq2, hf⟩ := zu_b1_e hf
  refine zw_Mod_reach (rest := []) B hP hS hq2 zq_1004 (Nat.le_of_ble_eq_true rfl) (Nat.le_of_ble_eq_true rfl) hl.1 rfl (Nat.le_of_ble_eq_true rfl) zd_Mod_landing_4 (by decide) (fun H locs hP hS => ?_)
  clear hq2
  refine lv_istore (lv' := [(5, .int v1), (0, .ref (ad 95)), (1, .int a1), (2, .int a2), (3, .int a3), (4, .int a4)]) hx hb zd_Mod_landing_7 hl (by decide) rfl (fun ls hl => ?_)
  refine lv_iload hx hb zd_Mod_landing_9 (lv_at hl 5 rfl) ?_
  refine lv_if_eq (tgt := 24) hx hb zd_Mod_landing_11 (by decide) (fun c3 => ?_) (fun c3 => ?_)
  · have hf := zu_t c3 hf
    refine lv_iload hx hb zd_Mod_landing_24 (lv_at hl 0 rfl) ?_
    exact zl_Mod_landing_L26 B hret hlk a1 v1 _ _ _ hP hS (lv_sub hl [1, 2] rfl) hf
  · have hf := zu_f c3 hf
    refine lv_iload hx hb zd_Mod_landing_14 (lv_at hl 0 rfl) ?_
    refine lv_iconst (v := 1) hx hb zd_Mod_landing_16 (by decide) ?_
    refine lv_isub hx hb zd_Mod_landing_17 ?_
    obtain ⟨v4, ehq5, hf⟩ := zu_nx_e hf
    have hq5 := ehq5.symm
    refine zw_Mod_least0 (rest := []) B hP hS hq5 zq_1015 (Nat.le_of_ble_eq_true rfl) (Nat.le_of_ble_eq_true rfl) hl.1 rfl (Nat.le_of_ble_eq_true rfl) zd_Mod_landing_18 (by decide) (fun H locs hP hS => ?_)
    clear hq5 ehq5
    refine lv_goto (tgt := 26) hx hb zd_Mod_landing_21 (by decide) ?_
    exact zl_Mod_landing_L26 B hret hlk a1 v4 _ _ _ hP hS (lv_sub hl [1, 2] rfl) hf
theorem zC_Mod_landing (l : Launch) {D : va_G} {cA : Nat → ClassId} {ad : Nat → Nat} {A : Nat → Prop} {a1 : Int32} {a2 : Int32} {a3 : Int32} {a4 : Int32} {X : IX} {Y : LX} {res : Int32} (hf : fn_Mod_landing X a1 a2 a3 a4 = some res) : Met l zm_Mod_landing (zu_ws zm_Mod_landing zb_Mod_landing 8 (some .int)) zR_Mod_landing (va_Pc [.ref (ad 95), .int a1, .int a2, .int a3, .int a4] (zu_Pre D cA ad A X Y)) (zu_Qi D cA ad A res X Y) 0 0 A := by
  refine Met.ofW (cc := zb_Mod_landing) (maxL := 8) (ret := (some .int)) (by decide +kernel) rfl ?_
  intro p e s m args below meth c s₁ B0 hml hv
  obtain ⟨rfl, hP, hST⟩ := hv
  have B : zu_B p s m _ c zb_Mod_landing 8 "StonePostModel" D cA ad A := ⟨B0.exec, B0.bytes, hml, findClass_of_methodNamed B0.named, (fun w hw => atoms_spec (ws := zu_ws zm_Mod_landing zb_Mod_landing 8 (some .int)) B0.pre w (List.mem_cons_of_mem _ hw)), hST⟩
  have hl := lv_entry ([.ref (ad 95), .int a1, .int a2, .int a3, .int a4]) (n := 8) (Nat.le_of_ble_eq_true rfl)
  rw [lg_entry_eq]
  generalize (lg_sl ([.ref (ad 95), .int a1, .int a2, .int a3, .int a4]) ++ List.replicate (8 - (lg_sl ([.ref (ad 95), .int a1, .int a2, .int a3, .int a4])).length) Slot.unset).toArray = ls at hl ⊢
  exact zl_Mod_landing B B0.returns B0.notSynchronized s.heap [] ls hP va_S.rf hl  hf
theorem zw_Mod_landing {p : Program} {l : Launch} {e : Env} {R : Room} {s : State} {m : MethodId} {args : Array Value} {below : List Frame} {meth : Method} {c : Code} {H : Heap} {locs : List Loc} {cells slots : Nat} {Q : State → Prop} {cc : ByteArray} {pc nL : Nat} {ls : Array Slot} {rest st0 : List Value} {D : va_G} {cA : Nat → ClassId} {ad : Nat → Nat} {A : Nat → Prop} {X : IX} {Y : LX} {own : String} {index : Nat} {a1 : Int32} {a2 : Int32} {a3 : Int32} {a4 : Int32} {v1 : Int32} (B : zu_B p s m args c cc nL own D cA ad A) (hP : va_P D zu_cl (zu_pic cA ad X Y) H) (hS : va_S A s.heap H locs) (hq : fn_Mod_landing X a1 a2 a3 a4 = some v1) (m1 : Cond.methodLink own index zm_Mod_landing ∈ zu_TB) (hR1 : 3 + 1 ≤ R.frames) (hR2 : 8 + (8 + 11) + 67 ≤ R.locals) (hsz : ls.size = nL) (hst : st0 = .int a4 :: .int a3 :: .int a2 :: .int a1 :: .ref (ad 95) :: rest) (hw : (rest.map fun v => v.category).sum ≤ 8) (hdg : decode cc pc = .ok (.invokevirtual index, 3)) (h00 : cells ≤ R.cells ∧ slots ≤ R.slots) (kk : ∀ (H1 : Heap) (locs1 : List Loc), va_P D zu_cl (zu_pic cA ad X Y) H1 → va_S A s.heap H1 locs1 → W p l e R s m args below meth c H1 locs1 cells slots Q (F0 m (pc + 3) ls (.int v1 :: rest))) : W p l e R s m args below meth c H locs cells slots Q (F0 m pc ls st0) := by
  subst hst
  exact zr_cVi (As := [.int a1, .int a2, .int a3, .int a4]) (rest := rest) (n := 4) (C := "StonePostModel") (T := zt_Mod) (N := 23) B hP hS (zC_Mod_landing l  hq) (K := 7) rfl (by decide) (by decide) rfl rfl m1 zq_1024 zqP_28 zq_8 zq_1025 (by decide +kernel) ⟨hR1, hR2⟩ rfl rfl rfl hsz rfl hw hdg h00 kk
abbrev zR_Mod_isThrow : Room := { frames := 2, cells := 0, slots := 0, locals := 46 }
theorem zd_Mod_isThrow_0 : decode zb_Mod_isThrow 0 = .ok (.aload_n 0, 1) := by decide +kernel
theorem zd_Mod_isThrow_1 : decode zb_Mod_isThrow 1 = .ok (.iload_n 1, 1) := by decide +kernel
theorem zd_Mod_isThrow_2 : decode zb_Mod_isThrow 2 = .ok (.invokevirtual 87, 3) := by decide +kernel
theorem zd_Mod_isThrow_5 : decode zb_Mod_isThrow 5 = .ok (.ifCond .eq 29, 3) := by decide +kernel
theorem zd_Mod_isThrow_8 : decode zb_Mod_isThrow 8 = .ok (.iload_n 2, 1) := by decide +kernel
theorem zd_Mod_isThrow_9 : decode zb_Mod_isThrow 9 = .ok (.i2l, 1) := by decide +kernel
theorem zd_Mod_isThrow_10 : decode zb_Mod_isThrow 10 = .ok (.lconst 0, 1) := by decide +kernel
theorem zd_Mod_isThrow_11 : decode zb_Mod_isThrow 11 = .ok (.lconst 1, 1) := by decide +kernel
theorem zd_Mod_isThrow_12 : decode zb_Mod_isThrow 12 = .ok (.invokestatic 53, 3) := by decide +kernel
theorem zd_Mod_isThrow_15 : decode zb_Mod_isThrow 15 = .ok (.ifCond .eq 19, 3) := by decide +kernel
theorem zd_Mod_isThrow_18 : decode zb_Mod_isThrow 18 = .ok (.iload_n 3, 1) := by decide +kernel
theorem zd_Mod_isThrow_19 : decode zb_Mod_isThrow 19 = .ok (.i2l, 1) := by decide +kernel
theorem zd_Mod_isThrow_20 : decode zb_Mod_isThrow 20 = .ok (.lconst 0, 1) := by decide +kernel
theorem zd_Mod_isThrow_21 : decode zb_Mod_isThrow 21 = .ok (.ldc2_w 51, 3) := by decide +kernel
theorem zd_Mod_isThrow_24 : decode zb_Mod_isThrow 24 = .ok (.invokestatic 53, 3) := by decide +kernel
theorem zd_Mod_isThrow_27 : decode zb_Mod_isThrow 27 = .ok (.ifCond .eq 7, 3) := by decide +kernel
theorem zd_Mod_isThrow_30 : decode zb_Mod_isThrow 30 = .ok (.iconst 1, 1) := by decide +kernel
theorem zd_Mod_isThrow_31 : decode zb_Mod_isThrow 31 = .ok (.goto 4, 3) := by decide +kernel
theorem zd_Mod_isThrow_34 : decode zb_Mod_isThrow 34 = .ok (.iconst 0, 1) := by decide +kernel
theorem zd_Mod_isThrow_35 : decode zb_Mod_isThrow 35 = .ok (.ireturn, 1) := by decide +kernel
set_option maxHeartbeats 4000000 in
theorem zl_Mod_isThrow_L35 {p : Program} {l : Launch} {e : Env} {s : State} {m : MethodId} {args : Array Value} {below : List Frame} {meth : Method} {c : Code} {D : va_G} {cA : Nat → ClassId} {ad : Nat → Nat} {A : Nat → Prop} (B : zu_B p s m args c zb_Mod_isThrow 4 "StonePostModel" D cA ad A) (hret : meth.sig.returnType = (some .boolean)) (hlk : meth.locks = false) {X : IX} {Y : LX} {res : Int32} (y0 : Int32) (H : Heap) (locs : List Loc) (ls : Array Slot) (hP : va_P D zu_cl (zu_pic cA ad X Y) H) (hS : va_S A s.heap H locs) (hl : lv_has ls 4 []) (hf : fn_Mod_isThrow_L35 X y0 = some res) : W p l e zR_Mod_isThrow s m args below meth c H locs 0 0 (MQ below (zu_Qi D cA ad A res X Y) args s 0 0 A) (F0 m 35 ls [.int y0]) := by
  obtain ⟨hx, hb, hml, hown, hts, hST⟩ := id B
  unfold fn_Mod_isThrow_L35 at hf
  obtain ⟨hg10, hf⟩ := zu_gd_e hf
  obtain rfl := Option.some.inj hf
  exact zr_zret hx hb hret hlk hP hS hg10 zd_Mod_isThrow_35
set_option maxHeartbeats 4000000 in
theorem zl_Mod_isThrow_L34 {p : Program} {l : Launch} {e : Env} {s : State} {m : MethodId} {args : Array Value} {below : List Frame} {meth : Method} {c : Code} {D : va_G} {cA : Nat → ClassId} {ad : Nat → Nat} {A : Nat → Prop} (B : zu_B p s m args c zb_Mod_isThrow 4 "StonePostModel" D cA ad A) (hret : meth.sig.returnType = (some .boolean)) (hlk : meth.locks = false) {X : IX} {Y : LX} {res : Int32} (H : Heap) (locs : List Loc) (ls : Array Slot) (hP : va_P D zu_cl (zu_pic cA ad X Y) H) (hS : va_S A s.heap H locs) (hl : lv_has ls 4 []) (hf : fn_Mod_isThrow_L34 X = some res) : W p l e zR_Mod_isThrow s m args below meth c H locs 0 0 (MQ below (zu_Qi D cA ad A res X Y) args s 0 0 A) (F0 m 34 ls []) := by
  obtain ⟨hx, hb, hml, hown, hts, hST⟩ := id B
  unfold fn_Mod_isThrow_L34 at hf
  refine lv_iconst (v := 0) hx hb zd_Mod_isThrow_34 (by decide) ?_
  exact zl_Mod_isThrow_L35 B hret hlk (0 : Int32) _ _ _ hP hS (lv_sub hl [] rfl) hf
set_option maxHeartbeats 4000000 in
theorem zl_Mod_isThrow {p : Program} {l : Launch} {e : Env} {s : State} {m : MethodId} {args : Array Value} {below : List Frame} {meth : Method} {c : Code} {D : va_G} {cA : Nat → ClassId} {ad : Nat → Nat} {A : Nat → Prop} (B : zu_B p s m args c zb_Mod_isThrow 4 "StonePostModel" D cA ad A) (hret : meth.sig.returnType = (some .boolean)) (hlk : meth.locks = false) {X : IX} {Y : LX} {res : Int32} {a1 : Int32} {a2 : Int32} {a3 : Int32} (H : Heap) (locs : List Loc) (ls : Array Slot) (hP : va_P D zu_cl (zu_pic cA ad X Y) H) (hS : va_S A s.heap H locs) (hl : lv_has ls 4 [(0, .ref (ad 95)), (1, .int a1), (2, .int a2), (3, .int a3)]) (hf : fn_Mod_isThrow X a1 a2 a3 = some res) : W p l e zR_Mod_isThrow s m args below meth c H locs 0 0 (MQ below (zu_Qi D cA ad A res X Y) args s 0 0 A) (F0 m 0 ls []) := by
  obtain ⟨hx, hb, hml, hown, hts, hST⟩ := id B
  unfold fn_Mod_isThrow at hf
  refine lv_aload_n hx hb zd_Mod_isThrow_0 rfl (lv_at hl 0 rfl) ?_
  refine lv_iload_n hx hb zd_Mod_isThrow_1 rfl (lv_at hl 1 rfl) ?_
  obtain ⟨v1, hq2, hf⟩ := zu_b1_e hf
  refine zw_Mod_isThrower (rest := []) B hP hS hq2 zq_979 (Nat.le_of_ble_eq_true rfl) (Nat.le_of_ble_eq_true rfl) hl.1 rfl (Nat.le_of_ble_eq_true rfl) zd_Mod_isThrow_2 (by decide) (fun H locs hP hS => ?_)
  clear hq2
  refine lv_if_eq (tgt := 34) hx hb zd_Mod_isThrow_5 (by decide) (fun c3 => ?_) (fun c3 => ?_)
  · have hf := zu_t c3 hf
    exact zl_Mod_isThrow_L34 B hret hlk _ _ _ hP hS (lv_sub hl [] rfl) hf
  · have hf := zu_f c3 hf
    refine lv_iload_n hx hb zd_Mod_isThrow_8 rfl (lv_at hl 2 rfl) ?_
    refine lv_i2l hx hb zd_Mod_isThrow_9 rfl ?_
    refine lv_lconst (v := 0) hx hb zd_Mod_isThrow_10 (by decide) ?_
    refine lv_lconst (v := 1) hx hb zd_Mod_isThrow_11 (by decide) ?_
    obtain ⟨v4, hq5, hf⟩ := zu_b1_e hf
    refine zw_Mod_in (rest := []) B hP hS hq5 zq_939 (Nat.le_of_ble_eq_true rfl) (Nat.le_of_ble_eq_true rfl) hl.1 rfl (Nat.le_of_ble_eq_true rfl) zd_Mod_isThrow_12 (by decide) (fun H locs hP hS => ?_)
    clear hq5
    refine lv_if_eq (tgt := 34) hx hb zd_Mod_isThrow_15 (by decide) (fun c6 => ?_) (fun c6 => ?_)
    · have hf := zu_t c6 hf
      exact zl_Mod_isThrow_L34 B hret hlk _ _ _ hP hS (lv_sub hl [] rfl) hf
    · have hf := zu_f c6 hf
      refine lv_iload_n hx hb zd_Mod_isThrow_18 rfl (lv_at hl 3 rfl) ?_
      refine lv_i2l hx hb zd_Mod_isThrow_19 rfl ?_
      refine lv_lconst (v := 0) hx hb zd_Mod_isThrow_20 (by decide) ?_
      refine lv_ldc2 (v := 23) hx hb hown (hts _ zq_938) zd_Mod_isThrow_21 ?_
      obtain ⟨v7, hq8, hf⟩ := zu_b1_e hf
      refine zw_Mod_in (rest := []) B hP hS hq8 zq_939 (Nat.le_of_ble_eq_true rfl) (Nat.le_of_ble_eq_true rfl) hl.1 rfl (Nat.le_of_ble_eq_true rfl) zd_Mod_isThrow_24 (by decide) (fun H locs hP hS => ?_)
      clear hq8
      refine lv_if_eq (tgt := 34) hx hb zd_Mod_isThrow_27 (by decide) (fun c9 => ?_) (fun c9 => ?_)
      · have hf := zu_t c9 hf
        exact zl_Mod_isThrow_L34 B hret hlk _ _ _ hP hS (lv_sub hl [] rfl) hf
      · have hf := zu_f c9 hf
        refine lv_iconst (v := 1) hx hb zd_Mod_isThrow_30 (by decide) ?_
        refine lv_goto (tgt := 35) hx hb zd_Mod_isThrow_31 (by decide) ?_
        exact zl_Mod_isThrow_L35 B hret hlk (1 : Int32) _ _ _ hP hS (lv_sub hl [] rfl) hf
theorem zC_Mod_isThrow (l : Launch) {D : va_G} {cA : Nat → ClassId} {ad : Nat → Nat} {A : Nat → Prop} {a1 : Int32} {a2 : Int32} {a3 : Int32} {X : IX} {Y : LX} {res : Int32} (hf : fn_Mod_isThrow X a1 a2 a3 = some res) : Met l zm_Mod_isThrow (zu_ws zm_Mod_isThrow zb_Mod_isThrow 4 (some .boolean)) zR_Mod_isThrow (va_Pc [.ref (ad 95), .int a1, .int a2, .int a3] (zu_Pre D cA ad A X Y)) (zu_Qi D cA ad A res X Y) 0 0 A := by
  refine Met.ofW (cc := zb_Mod_isThrow) (maxL := 4) (ret := (some .boolean)) (by decide +kernel) rfl ?_
  intro p e s m args below meth c s₁ B0 hml hv
  obtain ⟨rfl, hP, hST⟩ := hv
  have B : zu_B p s m _ c zb_Mod_isThrow 4 "StonePostModel" D cA ad A := ⟨B0.exec, B0.bytes, hml, findClass_of_methodNamed B0.named, (fun w hw => atoms_spec (ws := zu_ws zm_Mod_isThrow zb_Mod_isThrow 4 (some .boolean)) B0.pre w (List.mem_cons_of_mem _ hw)), hST⟩
  have hl := lv_entry ([.ref (ad 95), .int a1, .int a2, .int a3]) (n := 4) (Nat.le_of_ble_eq_true rfl)
  rw [lg_entry_eq]
  generalize (lg_sl ([.ref (ad 95), .int a1, .int a2, .int a3]) ++ List.replicate (4 - (lg_sl ([.ref (ad 95), .int a1, .int a2, .int a3])).length) Slot.unset).toArray = ls at hl ⊢
  exact zl_Mod_isThrow B B0.returns B0.notSynchronized s.heap [] ls hP va_S.rf hl  hf
theorem zw_Mod_isThrow {p : Program} {l : Launch} {e : Env} {R : Room} {s : State} {m : MethodId} {args : Array Value} {below : List Frame} {meth : Method} {c : Code} {H : Heap} {locs : List Loc} {cells slots : Nat} {Q : State → Prop} {cc : ByteArray} {pc nL : Nat} {ls : Array Slot} {rest st0 : List Value} {D : va_G} {cA : Nat → ClassId} {ad : Nat → Nat} {A : Nat → Prop} {X : IX} {Y : LX} {own : String} {index : Nat} {a1 : Int32} {a2 : Int32} {a3 : Int32} {v1 : Int32} (B : zu_B p s m args c cc nL own D cA ad A) (hP : va_P D zu_cl (zu_pic cA ad X Y) H) (hS : va_S A s.heap H locs) (hq : fn_Mod_isThrow X a1 a2 a3 = some v1) (m1 : Cond.methodLink own index zm_Mod_isThrow ∈ zu_TB) (hR1 : 2 + 1 ≤ R.frames) (hR2 : 8 + (4 + 11) + 46 ≤ R.locals) (hsz : ls.size = nL) (hst : st0 = .int a3 :: .int a2 :: .int a1 :: .ref (ad 95) :: rest) (hw : (rest.map fun v => v.category).sum ≤ 8) (hdg : decode cc pc = .ok (.invokevirtual index, 3)) (h00 : cells ≤ R.cells ∧ slots ≤ R.slots) (kk : ∀ (H1 : Heap) (locs1 : List Loc), va_P D zu_cl (zu_pic cA ad X Y) H1 → va_S A s.heap H1 locs1 → W p l e R s m args below meth c H1 locs1 cells slots Q (F0 m (pc + 3) ls (.int v1 :: rest))) : W p l e R s m args below meth c H locs cells slots Q (F0 m pc ls st0) := by
  subst hst
  exact zr_cVi (As := [.int a1, .int a2, .int a3]) (rest := rest) (n := 3) (C := "StonePostModel") (T := zt_Mod) (N := 23) B hP hS (zC_Mod_isThrow l  hq) (K := 7) rfl (by decide) (by decide) rfl rfl m1 zq_1002 zqP_25 zq_8 zq_1003 (by decide +kernel) ⟨hR1, hR2⟩ rfl rfl rfl hsz rfl hw hdg h00 kk
abbrev zR_Mod_told : Room := { frames := 3, cells := 0, slots := 0, locals := 69 }
theorem zd_Mod_told_0 : decode zb_Mod_told 0 = .ok (.aload_n 0, 1) := by decide +kernel
theorem zd_Mod_told_1 : decode zb_Mod_told 1 = .ok (.iload_n 1, 1) := by decide +kernel
theorem zd_Mod_told_2 : decode zb_Mod_told 2 = .ok (.iload_n 3, 1) := by decide +kernel
theorem zd_Mod_told_3 : decode zb_Mod_told 3 = .ok (.iload 4, 2) := by decide +kernel
theorem zd_Mod_told_5 : decode zb_Mod_told 5 = .ok (.invokevirtual 108, 3) := by decide +kernel
theorem zd_Mod_told_8 : decode zb_Mod_told 8 = .ok (.ifCond .eq 13, 3) := by decide +kernel
theorem zd_Mod_told_11 : decode zb_Mod_told 11 = .ok (.iload_n 2, 1) := by decide +kernel
theorem zd_Mod_told_12 : decode zb_Mod_told 12 = .ok (.i2l, 1) := by decide +kernel
theorem zd_Mod_told_13 : decode zb_Mod_told 13 = .ok (.lconst 0, 1) := by decide +kernel
theorem zd_Mod_told_14 : decode zb_Mod_told 14 = .ok (.lconst 1, 1) := by decide +kernel
theorem zd_Mod_told_15 : decode zb_Mod_told 15 = .ok (.invokestatic 53, 3) := by decide +kernel
theorem zd_Mod_told_18 : decode zb_Mod_told 18 = .ok (.ifCond .ne 10, 3) := by decide +kernel
theorem zd_Mod_told_21 : decode zb_Mod_told 21 = .ok (.aload_n 0, 1) := by decide +kernel
theorem zd_Mod_told_22 : decode zb_Mod_told 22 = .ok (.ldc 50, 2) := by decide +kernel
theorem zd_Mod_told_24 : decode zb_Mod_told 24 = .ok (.invokevirtual 64, 3) := by decide +kernel
theorem zd_Mod_told_27 : decode zb_Mod_told 27 = .ok (.ireturn, 1) := by decide +kernel
theorem zd_Mod_told_28 : decode zb_Mod_told 28 = .ok (.iload_n 2, 1) := by decide +kernel
theorem zd_Mod_told_29 : decode zb_Mod_told 29 = .ok (.ifCond .ne 14, 3) := by decide +kernel
theorem zd_Mod_told_32 : decode zb_Mod_told 32 = .ok (.aload_n 0, 1) := by decide +kernel
theorem zd_Mod_told_33 : decode zb_Mod_told 33 = .ok (.iload_n 1, 1) := by decide +kernel
theorem zd_Mod_told_34 : decode zb_Mod_told 34 = .ok (.iload_n 3, 1) := by decide +kernel
theorem zd_Mod_told_35 : decode zb_Mod_told 35 = .ok (.iload 4, 2) := by decide +kernel
theorem zd_Mod_told_37 : decode zb_Mod_told 37 = .ok (.invokevirtual 104, 3) := by decide +kernel
theorem zd_Mod_told_40 : decode zb_Mod_told 40 = .ok (.goto 11, 3) := by decide +kernel
theorem zd_Mod_told_43 : decode zb_Mod_told 43 = .ok (.aload_n 0, 1) := by decide +kernel
theorem zd_Mod_told_44 : decode zb_Mod_told 44 = .ok (.iload_n 1, 1) := by decide +kernel
theorem zd_Mod_told_45 : decode zb_Mod_told 45 = .ok (.iload_n 3, 1) := by decide +kernel
theorem zd_Mod_told_46 : decode zb_Mod_told 46 = .ok (.iload 4, 2) := by decide +kernel
theorem zd_Mod_told_48 : decode zb_Mod_told 48 = .ok (.invokevirtual 112, 3) := by decide +kernel
theorem zd_Mod_told_51 : decode zb_Mod_told 51 = .ok (.ireturn, 1) := by decide +kernel
set_option maxHeartbeats 4000000 in
theorem zl_Mod_told_L51 {p : Program} {l : Launch} {e : Env} {s : State} {m : MethodId} {args : Array Value} {below : List Frame} {meth : Method} {c : Code} {D : va_G} {cA : Nat → ClassId} {ad : Nat → Nat} {A : Nat → Prop} (B : zu_B p s m args c zb_Mod_told 5 "StonePostModel" D cA ad A) (hret : meth.sig.returnType = (some .int)) (hlk : meth.locks = false) {Y : LX} {res : Int32 × IX} (y0 : Int32) (X : IX) (H : Heap) (locs : List Loc) (ls : Array Slot) (hP : va_P D zu_cl (zu_pic cA ad X Y) H) (hS : va_S A s.heap H locs) (hl : lv_has ls 5 []) (hf : fn_Mod_told_L51 y0 X = some res) : W p l e zR_Mod_told s m args below meth c H locs 0 0 (MQ below (zu_Qi D cA ad A res.1 res.2 Y) args s 0 0 A) (F0 m 51 ls [.int y0]) := by
  obtain ⟨hx, hb, hml, hown, hts, hST⟩ := id B
  unfold fn_Mod_told_L51 at hf
  obtain rfl := Option.some.inj hf
  exact zr_iret hx hb hret hlk hP hS zd_Mod_told_51
set_option maxHeartbeats 4000000 in
theorem zl_Mod_told_L21 {p : Program} {l : Launch} {e : Env} {s : State} {m : MethodId} {args : Array Value} {below : List Frame} {meth : Method} {c : Code} {D : va_G} {cA : Nat → ClassId} {ad : Nat → Nat} {A : Nat → Prop} (B : zu_B p s m args c zb_Mod_told 5 "StonePostModel" D cA ad A) (hret : meth.sig.returnType = (some .int)) (hlk : meth.locks = false) {Y : LX} {res : Int32 × IX} (X : IX) (H : Heap) (locs : List Loc) (ls : Array Slot) (hP : va_P D zu_cl (zu_pic cA ad X Y) H) (hS : va_S A s.heap H locs) (hl : lv_has ls 5 [(0, .ref (ad 95))]) (hf : fn_Mod_told_L21 X = some res) : W p l e zR_Mod_told s m args below meth c H locs 0 0 (MQ below (zu_Qi D cA ad A res.1 res.2 Y) args s 0 0 A) (F0 m 21 ls []) := by
  obtain ⟨hx, hb, hml, hown, hts, hST⟩ := id B
  unfold fn_Mod_told_L21 at hf
  refine lv_aload_n hx hb zd_Mod_told_21 rfl (lv_at hl 0 rfl) ?_
  refine lv_ldc (v := -1000001) hx hb hown (hts _ zq_943) zd_Mod_told_22 ?_
  obtain ⟨v12, X13, hq14, hf⟩ := zu_b2_e hf
  refine zw_Mod_finds (rest := []) B hP hS hq14 zq_944 (Nat.le_of_ble_eq_true rfl) (Nat.le_of_ble_eq_true rfl) hl.1 rfl (Nat.le_of_ble_eq_true rfl) zd_Mod_told_24 (by decide) (fun H locs hP hS => ?_)
  clear hq14
  obtain rfl := Option.some.inj hf
  exact zr_iret hx hb hret hlk hP hS zd_Mod_told_27
set_option maxHeartbeats 4000000 in
theorem zl_Mod_told {p : Program} {l : Launch} {e : Env} {s : State} {m : MethodId} {args : Array Value} {below : List Frame} {meth : Method} {c : Code} {D : va_G} {cA : Nat → ClassId} {ad : Nat → Nat} {A : Nat → Prop} (B : zu_B p s m args c zb_Mod_told 5 "StonePostModel" D cA ad A) (hret : meth.sig.returnType = (some .int)) (hlk : meth.locks = false) {Y : LX} {res : Int32 × IX} {a1 : Int32} {a2 : Int32} {a3 : Int32} {a4 : Int32} {X : IX} (H : Heap) (locs : List Loc) (ls : Array Slot) (hP : va_P D zu_cl (zu_pic cA ad X Y) H) (hS : va_S A s.heap H locs) (hl : lv_has ls 5 [(0, .ref (ad 95)), (1, .int a1), (2, .int a2), (3, .int a3), (4, .int a4)]) (hf : fn_Mod_told a1 a2 a3 a4 X = some res) : W p l e zR_Mod_told s m args below meth c H locs 0 0 (MQ below (zu_Qi D cA ad A res.1 res.2 Y) args s 0 0 A) (F0 m 0 ls []) := by
  obtain ⟨hx, hb, hml, hown, hts, hST⟩ := id B
  unfold fn_Mod_told at hf
  refine lv_aload_n hx hb zd_Mod_told_0 rfl (lv_at hl 0 rfl) ?_
  refine lv_iload_n hx hb zd_Mod_told_1 rfl (lv_at hl 1 rfl) ?_
  refine lv_iload_n hx hb zd_Mod_told_2 rfl (lv_at hl 3 rfl) ?_
  refine lv_iload hx hb zd_Mod_told_3 (lv_at hl 4 rfl) ?_
  obtain ⟨v1, hq2, hf⟩ := zu_b1_e hf
  refine zw_Mod_isThrow (rest := []) B hP hS hq2 zq_1000 (Nat.le_of_ble_eq_true rfl) (Nat.le_of_ble_eq_true rfl) hl.1 rfl (Nat.le_of_ble_eq_true rfl) zd_Mod_told_5 (by decide) (fun H locs hP hS => ?_)
  clear hq2
  refine lv_if_eq (tgt := 21) hx hb zd_Mod_told_8 (by decide) (fun c3 => ?_) (fun c3 => ?_)
  · have hf := zu_t c3 hf
    exact zl_Mod_told_L21 B hret hlk X _ _ _ hP hS (lv_sub hl [0] rfl) hf
  · have hf := zu_f c3 hf
    refine lv_iload_n hx hb zd_Mod_told_11 rfl (lv_at hl 2 rfl) ?_
    refine lv_i2l hx hb zd_Mod_told_12 rfl ?_
    refine lv_lconst (v := 0) hx hb zd_Mod_told_13 (by decide) ?_
    refine lv_lconst (v := 1) hx hb zd_Mod_told_14 (by decide) ?_
    obtain ⟨v4, hq5, hf⟩ := zu_b1_e hf
    refine zw_Mod_in (rest := []) B hP hS hq5 zq_939 (Nat.le_of_ble_eq_true rfl) (Nat.le_of_ble_eq_true rfl) hl.1 rfl (Nat.le_of_ble_eq_true rfl) zd_Mod_told_15 (by decide) (fun H locs hP hS => ?_)
    clear hq5
    refine lv_if_ne (tgt := 28) hx hb zd_Mod_told_18 (by decide) (fun c6 => ?_) (fun c6 => ?_)
    · have hf := zu_f c6 hf
      refine lv_iload_n hx hb zd_Mod_told_28 rfl (lv_at hl 2 rfl) ?_
      refine lv_if_ne (tgt := 43) hx hb zd_Mod_told_29 (by decide) (fun c7 => ?_) (fun c7 => ?_)
      · have hf := zu_f c7 hf
        refine lv_aload_n hx hb zd_Mod_told_43 rfl (lv_at hl 0 rfl) ?_
        refine lv_iload_n hx hb zd_Mod_told_44 rfl (lv_at hl 1 rfl) ?_
        refine lv_iload_n hx hb zd_Mod_told_45 rfl (lv_at hl 3 rfl) ?_
        refine lv_iload hx hb zd_Mod_told_46 (lv_at hl 4 rfl) ?_
        obtain ⟨v8, hq9, hf⟩ := zu_b1_e hf
        refine zw_Mod_sure (rest := []) B hP hS hq9 zq_1011 (Nat.le_of_ble_eq_true rfl) (Nat.le_of_ble_eq_true rfl) hl.1 rfl (Nat.le_of_ble_eq_true rfl) zd_Mod_told_48 (by decide) (fun H locs hP hS => ?_)
        clear hq9
        exact zl_Mod_told_L51 B hret hlk v8 X _ _ _ hP hS (lv_sub hl [] rfl) hf
      · have hf := zu_t c7 hf
        refine lv_aload_n hx hb zd_Mod_told_32 rfl (lv_at hl 0 rfl) ?_
        refine lv_iload_n hx hb zd_Mod_told_33 rfl (lv_at hl 1 rfl) ?_
        refine lv_iload_n hx hb zd_Mod_told_34 rfl (lv_at hl 3 rfl) ?_
        refine lv_iload hx hb zd_Mod_told_35 (lv_at hl 4 rfl) ?_
        obtain ⟨v10, hq11, hf⟩ := zu_b1_e hf
        refine zw_Mod_reach (rest := []) B hP hS hq11 zq_1004 (Nat.le_of_ble_eq_true rfl) (Nat.le_of_ble_eq_true rfl) hl.1 rfl (Nat.le_of_ble_eq_true rfl) zd_Mod_told_37 (by decide) (fun H locs hP hS => ?_)
        clear hq11
        refine lv_goto (tgt := 51) hx hb zd_Mod_told_40 (by decide) ?_
        exact zl_Mod_told_L51 B hret hlk v10 X _ _ _ hP hS (lv_sub hl [] rfl) hf
    · have hf := zu_t c6 hf
      exact zl_Mod_told_L21 B hret hlk X _ _ _ hP hS (lv_sub hl [0] rfl) hf
theorem zC_Mod_told (l : Launch) {D : va_G} {cA : Nat → ClassId} {ad : Nat → Nat} {A : Nat → Prop} {a1 : Int32} {a2 : Int32} {a3 : Int32} {a4 : Int32} {X : IX} {Y : LX} {res : Int32 × IX} (hf : fn_Mod_told a1 a2 a3 a4 X = some res) : Met l zm_Mod_told (zu_ws zm_Mod_told zb_Mod_told 5 (some .int)) zR_Mod_told (va_Pc [.ref (ad 95), .int a1, .int a2, .int a3, .int a4] (zu_Pre D cA ad A X Y)) (zu_Qi D cA ad A res.1 res.2 Y) 0 0 A := by
  refine Met.ofW (cc := zb_Mod_told) (maxL := 5) (ret := (some .int)) (by decide +kernel) rfl ?_
  intro p e s m args below meth c s₁ B0 hml hv
  obtain ⟨rfl, hP, hST⟩ := hv
  have B : zu_B p s m _ c zb_Mod_told 5 "StonePostModel" D cA ad A := ⟨B0.exec, B0.bytes, hml, findClass_of_methodNamed B0.named, (fun w hw => atoms_spec (ws := zu_ws zm_Mod_told zb_Mod_told 5 (some .int)) B0.pre w (List.mem_cons_of_mem _ hw)), hST⟩
  have hl := lv_entry ([.ref (ad 95), .int a1, .int a2, .int a3, .int a4]) (n := 5) (Nat.le_of_ble_eq_true rfl)
  rw [lg_entry_eq]
  generalize (lg_sl ([.ref (ad 95), .int a1, .int a2, .int a3, .int a4]) ++ List.replicate (5 - (lg_sl ([.ref (ad 95), .int a1, .int a2, .int a3, .int a4])).length) Slot.unset).toArray = ls at hl ⊢
  exact zl_Mod_told B B0.returns B0.notSynchronized s.heap [] ls hP va_S.rf hl  hf
theorem zw_Mod_told {p : Program} {l : Launch} {e : Env} {R : Room} {s : State} {m : MethodId} {args : Array Value} {below : List Frame} {meth : Method} {c : Code} {H : Heap} {locs : List Loc} {cells slots : Nat} {Q : State → Prop} {cc : ByteArray} {pc nL : Nat} {ls : Array Slot} {rest st0 : List Value} {D : va_G} {cA : Nat → ClassId} {ad : Nat → Nat} {A : Nat → Prop} {X : IX} {Y : LX} {own : String} {index : Nat} {a1 : Int32} {a2 : Int32} {a3 : Int32} {a4 : Int32} {v1 : Int32} {X1 : IX} (B : zu_B p s m args c cc nL own D cA ad A) (hP : va_P D zu_cl (zu_pic cA ad X Y) H) (hS : va_S A s.heap H locs) (hq : fn_Mod_told a1 a2 a3 a4 X = some (v1, X1)) (m1 : Cond.methodLink own index zm_Mod_told ∈ zu_TB) (hR1 : 3 + 1 ≤ R.frames) (hR2 : 8 + (5 + 11) + 69 ≤ R.locals) (hsz : ls.size = nL) (hst : st0 = .int a4 :: .int a3 :: .int a2 :: .int a1 :: .ref (ad 95) :: rest) (hw : (rest.map fun v => v.category).sum ≤ 8) (hdg : decode cc pc = .ok (.invokevirtual index, 3)) (h00 : cells ≤ R.cells ∧ slots ≤ R.slots) (kk : ∀ (H1 : Heap) (locs1 : List Loc), va_P D zu_cl (zu_pic cA ad X1 Y) H1 → va_S A s.heap H1 locs1 → W p l e R s m args below meth c H1 locs1 cells slots Q (F0 m (pc + 3) ls (.int v1 :: rest))) : W p l e R s m args below meth c H locs cells slots Q (F0 m pc ls st0) := by
  subst hst
  exact zr_cVi (As := [.int a1, .int a2, .int a3, .int a4]) (rest := rest) (n := 4) (C := "StonePostModel") (T := zt_Mod) (N := 23) B hP hS (zC_Mod_told l  hq) (K := 7) rfl (by decide) (by decide) rfl rfl m1 zq_997 zq_998 zq_8 zq_999 (by decide +kernel) ⟨hR1, hR2⟩ rfl rfl rfl hsz rfl hw hdg h00 kk
abbrev zR_Mod_falls : Room := { frames := 4, cells := 0, slots := 0, locals := 94 }
theorem zd_Mod_falls_0 : decode zb_Mod_falls 0 = .ok (.aload_n 0, 1) := by decide +kernel
theorem zd_Mod_falls_1 : decode zb_Mod_falls 1 = .ok (.iload_n 1, 1) := by decide +kernel
theorem zd_Mod_falls_2 : decode zb_Mod_falls 2 = .ok (.iload_n 2, 1) := by decide +kernel
theorem zd_Mod_falls_3 : decode zb_Mod_falls 3 = .ok (.iload_n 3, 1) := by decide +kernel
theorem zd_Mod_falls_4 : decode zb_Mod_falls 4 = .ok (.invokevirtual 108, 3) := by decide +kernel
theorem zd_Mod_falls_7 : decode zb_Mod_falls 7 = .ok (.ifCond .eq 15, 3) := by decide +kernel
theorem zd_Mod_falls_10 : decode zb_Mod_falls 10 = .ok (.aload_n 0, 1) := by decide +kernel
theorem zd_Mod_falls_11 : decode zb_Mod_falls 11 = .ok (.iload_n 1, 1) := by decide +kernel
theorem zd_Mod_falls_12 : decode zb_Mod_falls 12 = .ok (.iload_n 2, 1) := by decide +kernel
theorem zd_Mod_falls_13 : decode zb_Mod_falls 13 = .ok (.iload_n 3, 1) := by decide +kernel
theorem zd_Mod_falls_14 : decode zb_Mod_falls 14 = .ok (.iload 4, 2) := by decide +kernel
theorem zd_Mod_falls_16 : decode zb_Mod_falls 16 = .ok (.invokevirtual 115, 3) := by decide +kernel
theorem zd_Mod_falls_19 : decode zb_Mod_falls 19 = .ok (.goto 9, 3) := by decide +kernel
theorem zd_Mod_falls_22 : decode zb_Mod_falls 22 = .ok (.aload_n 0, 1) := by decide +kernel
theorem zd_Mod_falls_23 : decode zb_Mod_falls 23 = .ok (.ldc 50, 2) := by decide +kernel
theorem zd_Mod_falls_25 : decode zb_Mod_falls 25 = .ok (.invokevirtual 64, 3) := by decide +kernel
theorem zd_Mod_falls_28 : decode zb_Mod_falls 28 = .ok (.ireturn, 1) := by decide +kernel
set_option maxHeartbeats 4000000 in
theorem zl_Mod_falls_L28 {p : Program} {l : Launch} {e : Env} {s : State} {m : MethodId} {args : Array Value} {below : List Frame} {meth : Method} {c : Code} {D : va_G} {cA : Nat → ClassId} {ad : Nat → Nat} {A : Nat → Prop} (B : zu_B p s m args c zb_Mod_falls 5 "StonePostModel" D cA ad A) (hret : meth.sig.returnType = (some .int)) (hlk : meth.locks = false) {Y : LX} {res : Int32 × IX} (y0 : Int32) (X : IX) (H : Heap) (locs : List Loc) (ls : Array Slot) (hP : va_P D zu_cl (zu_pic cA ad X Y) H) (hS : va_S A s.heap H locs) (hl : lv_has ls 5 []) (hf : fn_Mod_falls_L28 y0 X = some res) : W p l e zR_Mod_falls s m args below meth c H locs 0 0 (MQ below (zu_Qi D cA ad A res.1 res.2 Y) args s 0 0 A) (F0 m 28 ls [.int y0]) := by
  obtain ⟨hx, hb, hml, hown, hts, hST⟩ := id B
  unfold fn_Mod_falls_L28 at hf
  obtain rfl := Option.some.inj hf
  exact zr_iret hx hb hret hlk hP hS zd_Mod_falls_28
set_option maxHeartbeats 4000000 in
theorem zl_Mod_falls {p : Program} {l : Launch} {e : Env} {s : State} {m : MethodId} {args : Array Value} {below : List Frame} {meth : Method} {c : Code} {D : va_G} {cA : Nat → ClassId} {ad : Nat → Nat} {A : Nat → Prop} (B : zu_B p s m args c zb_Mod_falls 5 "StonePostModel" D cA ad A) (hret : meth.sig.returnType = (some .int)) (hlk : meth.locks = false) {Y : LX} {res : Int32 × IX} {a1 : Int32} {a2 : Int32} {a3 : Int32} {a4 : Int32} {X : IX} (H : Heap) (locs : List Loc) (ls : Array Slot) (hP : va_P D zu_cl (zu_pic cA ad X Y) H) (hS : va_S A s.heap H locs) (hl : lv_has ls 5 [(0, .ref (ad 95)), (1, .int a1), (2, .int a2), (3, .int a3), (4, .int a4)]) (hf : fn_Mod_falls a1 a2 a3 a4 X = some res) : W p l e zR_Mod_falls s m args below meth c H locs 0 0 (MQ below (zu_Qi D cA ad A res.1 res.2 Y) args s 0 0 A) (F0 m 0 ls []) := by
  obtain ⟨hx, hb, hml, hown, hts, hST⟩ := id B
  unfold fn_Mod_falls at hf
  refine lv_aload_n hx hb zd_Mod_falls_0 rfl (lv_at hl 0 rfl) ?_
  refine lv_iload_n hx hb zd_Mod_falls_1 rfl (lv_at hl 1 rfl) ?_
  refine lv_iload_n hx hb zd_Mod_falls_2 rfl (lv_at hl 2 rfl) ?_
  refine lv_iload_n hx hb zd_Mod_falls_3 rfl (lv_at hl 3 rfl) ?_
  obtain ⟨v1, hq2, hf⟩ := zu_b1_e hf
  refine zw_Mod_isThrow (rest := []) B hP hS hq2 zq_1000 (Nat.le_of_ble_eq_true rfl) (Nat.le_of_ble_eq_true rfl) hl.1 rfl (Nat.le_of_ble_eq_true rfl) zd_Mod_falls_4 (by decide) (fun H locs hP hS => ?_)
  clear hq2
  refine lv_if_eq (tgt := 22) hx hb zd_Mod_falls_7 (by decide) (fun c3 => ?_) (fun c3 => ?_)
  · have hf := zu_t c3 hf
    refine lv_aload_n hx hb zd_Mod_falls_22 rfl (lv_at hl 0 rfl) ?_
    refine lv_ldc (v := -1000001) hx hb hown (hts _ zq_943) zd_Mod_falls_23 ?_
    obtain ⟨v4, X5, hq6, hf⟩ := zu_b2_e hf
    refine zw_Mod_finds (rest := []) B hP hS hq6 zq_944 (Nat.le_of_ble_eq_true rfl) (Nat.le_of_ble_eq_true rfl) hl.1 rfl (Nat.le_of_ble_eq_true rfl) zd_Mod_falls_25 (by decide) (fun H locs hP hS => ?_)
    clear hq6
    exact zl_Mod_falls_L28 B hret hlk v4 X5 _ _ _ hP hS (lv_sub hl [] rfl) hf
  · have hf := zu_f c3 hf
    refine lv_aload_n hx hb zd_Mod_falls_10 rfl (lv_at hl 0 rfl) ?_
    refine lv_iload_n hx hb zd_Mod_falls_11 rfl (lv_at hl 1 rfl) ?_
    refine lv_iload_n hx hb zd_Mod_falls_12 rfl (lv_at hl 2 rfl) ?_
    refine lv_iload_n hx hb zd_Mod_falls_13 rfl (lv_at hl 3 rfl) ?_
    refine lv_iload hx hb zd_Mod_falls_14 (lv_at hl 4 rfl) ?_
    obtain ⟨v7, hq8, hf⟩ := zu_b1_e hf
    refine zw_Mod_landing (rest := []) B hP hS hq8 zq_1022 (Nat.le_of_ble_eq_true rfl) (Nat.le_of_ble_eq_true rfl) hl.1 rfl (Nat.le_of_ble_eq_true rfl) zd_Mod_falls_16 (by decide) (fun H locs hP hS => ?_)
    clear hq8
    refine lv_goto (tgt := 28) hx hb zd_Mod_falls_19 (by decide) ?_
    exact zl_Mod_falls_L28 B hret hlk v7 X _ _ _ hP hS (lv_sub hl [] rfl) hf
theorem zC_Mod_falls (l : Launch) {D : va_G} {cA : Nat → ClassId} {ad : Nat → Nat} {A : Nat → Prop} {a1 : Int32} {a2 : Int32} {a3 : Int32} {a4 : Int32} {X : IX} {Y : LX} {res : Int32 × IX} (hf : fn_Mod_falls a1 a2 a3 a4 X = some res) : Met l zm_Mod_falls (zu_ws zm_Mod_falls zb_Mod_falls 5 (some .int)) zR_Mod_falls (va_Pc [.ref (ad 95), .int a1, .int a2, .int a3, .int a4] (zu_Pre D cA ad A X Y)) (zu_Qi D cA ad A res.1 res.2 Y) 0 0 A := by
  refine Met.ofW (cc := zb_Mod_falls) (maxL := 5) (ret := (some .int)) (by decide +kernel) rfl ?_
  intro p e s m args below meth c s₁ B0 hml hv
  obtain ⟨rfl, hP, hST⟩ := hv
  have B : zu_B p s m _ c zb_Mod_falls 5 "StonePostModel" D cA ad A := ⟨B0.exec, B0.bytes, hml, findClass_of_methodNamed B0.named, (fun w hw => atoms_spec (ws := zu_ws zm_Mod_falls zb_Mod_falls 5 (some .int)) B0.pre w (List.mem_cons_of_mem _ hw)), hST⟩
  have hl := lv_entry ([.ref (ad 95), .int a1, .int a2, .int a3, .int a4]) (n := 5) (Nat.le_of_ble_eq_true rfl)
  rw [lg_entry_eq]
  generalize (lg_sl ([.ref (ad 95), .int a1, .int a2, .int a3, .int a4]) ++ List.replicate (5 - (lg_sl ([.ref (ad 95), .int a1, .int a2, .int a3, .int a4])).length) Slot.unset).toArray = ls at hl ⊢
  exact zl_Mod_falls B B0.returns B0.notSynchronized s.heap [] ls hP va_S.rf hl  hf
theorem zw_Mod_falls {p : Program} {l : Launch} {e : Env} {R : Room} {s : State} {m : MethodId} {args : Array Value} {below : List Frame} {meth : Method} {c : Code} {H : Heap} {locs : List Loc} {cells slots : Nat} {Q : State → Prop} {cc : ByteArray} {pc nL : Nat} {ls : Array Slot} {rest st0 : List Value} {D : va_G} {cA : Nat → ClassId} {ad : Nat → Nat} {A : Nat → Prop} {X : IX} {Y : LX} {own : String} {index : Nat} {a1 : Int32} {a2 : Int32} {a3 : Int32} {a4 : Int32} {v1 : Int32} {X1 : IX} (B : zu_B p s m args c cc nL own D cA ad A) (hP : va_P D zu_cl (zu_pic cA ad X Y) H) (hS : va_S A s.heap H locs) (hq : fn_Mod_falls a1 a2 a3 a4 X = some (v1, X1)) (m1 : Cond.methodLink own index zm_Mod_falls ∈ zu_TB) (hR1 : 4 + 1 ≤ R.frames) (hR2 : 8 + (5 + 11) + 94 ≤ R.locals) (hsz : ls.size = nL) (hst : st0 = .int a4 :: .int a3 :: .int a2 :: .int a1 :: .ref (ad 95) :: rest) (hw : (rest.map fun v => v.category).sum ≤ 8) (hdg : decode cc pc = .ok (.invokevirtual index, 3)) (h00 : cells ≤ R.cells ∧ slots ≤ R.slots) (kk : ∀ (H1 : Heap) (locs1 : List Loc), va_P D zu_cl (zu_pic cA ad X1 Y) H1 → va_S A s.heap H1 locs1 → W p l e R s m args below meth c H1 locs1 cells slots Q (F0 m (pc + 3) ls (.int v1 :: rest))) : W p l e R s m args below meth c H locs cells slots Q (F0 m pc ls st0) := by
  subst hst
  exact zr_cVi (As := [.int a1, .int a2, .int a3, .int a4]) (rest := rest) (n := 4) (C := "StonePostModel") (T := zt_Mod) (N := 23) B hP hS (zC_Mod_falls l  hq) (K := 7) rfl (by decide) (by decide) rfl rfl m1 zq_1019 zq_1020 zq_8 zq_1021 (by decide +kernel) ⟨hR1, hR2⟩ rfl rfl rfl hsz rfl hw hdg h00 kk
abbrev zR_Mod_isStaying : Room := { frames := 0, cells := 0, slots := 0, locals := 0 }
theorem zd_Mod_isStaying_0 : decode zb_Mod_isStaying 0 = .ok (.iload_n 1, 1) := by decide +kernel
theorem zd_Mod_isStaying_1 : decode zb_Mod_isStaying 1 = .ok (.aload_n 0, 1) := by decide +kernel
theorem zd_Mod_isStaying_2 : decode zb_Mod_isStaying 2 = .ok (.getfield 7, 3) := by decide +kernel
theorem zd_Mod_isStaying_5 : decode zb_Mod_isStaying 5 = .ok (.iconst 3, 1) := by decide +kernel
theorem zd_Mod_isStaying_6 : decode zb_Mod_isStaying 6 = .ok (.iaload, 1) := by decide +kernel
theorem zd_Mod_isStaying_7 : decode zb_Mod_isStaying 7 = .ok (.if_icmp .eq 16, 3) := by decide +kernel
theorem zd_Mod_isStaying_10 : decode zb_Mod_isStaying 10 = .ok (.aload_n 0, 1) := by decide +kernel
theorem zd_Mod_isStaying_11 : decode zb_Mod_isStaying 11 = .ok (.getfield 7, 3) := by decide +kernel
theorem zd_Mod_isStaying_14 : decode zb_Mod_isStaying 14 = .ok (.bipush 6, 2) := by decide +kernel
theorem zd_Mod_isStaying_16 : decode zb_Mod_isStaying 16 = .ok (.iload_n 1, 1) := by decide +kernel
theorem zd_Mod_isStaying_17 : decode zb_Mod_isStaying 17 = .ok (.iadd, 1) := by decide +kernel
theorem zd_Mod_isStaying_18 : decode zb_Mod_isStaying 18 = .ok (.iaload, 1) := by decide +kernel
theorem zd_Mod_isStaying_19 : decode zb_Mod_isStaying 19 = .ok (.iconst 1, 1) := by decide +kernel
theorem zd_Mod_isStaying_20 : decode zb_Mod_isStaying 20 = .ok (.if_icmp .ne 7, 3) := by decide +kernel
theorem zd_Mod_isStaying_23 : decode zb_Mod_isStaying 23 = .ok (.iconst 1, 1) := by decide +kernel
theorem zd_Mod_isStaying_24 : decode zb_Mod_isStaying 24 = .ok (.goto 4, 3) := by decide +kernel
theorem zd_Mod_isStaying_27 : decode zb_Mod_isStaying 27 = .ok (.iconst 0, 1) := by decide +kernel
theorem zd_Mod_isStaying_28 : decode zb_Mod_isStaying 28 = .ok (.ireturn, 1) := by decide +kernel
set_option maxHeartbeats 4000000 in
theorem zl_Mod_isStaying_L28 {p : Program} {l : Launch} {e : Env} {s : State} {m : MethodId} {args : Array Value} {below : List Frame} {meth : Method} {c : Code} {D : va_G} {cA : Nat → ClassId} {ad : Nat → Nat} {A : Nat → Prop} (B : zu_B p s m args c zb_Mod_isStaying 2 "StonePostModel" D cA ad A) (hret : meth.sig.returnType = (some .boolean)) (hlk : meth.locks = false) {X : IX} {Y : LX} {res : Int32} (y0 : Int32) (H : Heap) (locs : List Loc) (ls : Array Slot) (hP : va_P D zu_cl (zu_pic cA ad X Y) H) (hS : va_S A s.heap H locs) (hl : lv_has ls 2 []) (hf : fn_Mod_isStaying_L28 X y0 = some res) : W p l e zR_Mod_isStaying s m args below meth c H locs 0 0 (MQ below (zu_Qi D cA ad A res X Y) args s 0 0 A) (F0 m 28 ls [.int y0]) := by
  obtain ⟨hx, hb, hml, hown, hts, hST⟩ := id B
  unfold fn_Mod_isStaying_L28 at hf
  obtain ⟨hg4, hf⟩ := zu_gd_e hf
  obtain rfl := Option.some.inj hf
  exact zr_zret hx hb hret hlk hP hS hg4 zd_Mod_isStaying_28
set_option maxHeartbeats 4000000 in
theorem zl_Mod_isStaying_L23 {p : Program} {l : Launch} {e : Env} {s : State} {m : MethodId} {args : Array Value} {below : List Frame} {meth : Method} {c : Code} {D : va_G} {cA : Nat → ClassId} {ad : Nat → Nat} {A : Nat → Prop} (B : zu_B p s m args c zb_Mod_isStaying 2 "StonePostModel" D cA ad A) (hret : meth.sig.returnType = (some .boolean)) (hlk : meth.locks = false) {X : IX} {Y : LX} {res : Int32} (H : Heap) (locs : List Loc) (ls : Array Slot) (hP : va_P D zu_cl (zu_pic cA ad X Y) H) (hS : va_S A s.heap H locs) (hl : lv_has ls 2 []) (hf : fn_Mod_isStaying_L23 X = some res) : W p l e zR_Mod_isStaying s m args below meth c H locs 0 0 (MQ below (zu_Qi D cA ad A res X Y) args s 0 0 A) (F0 m 23 ls []) := by
  obtain ⟨hx, hb, hml, hown, hts, hST⟩ := id B
  unfold fn_Mod_isStaying_L23 at hf
  refine lv_iconst (v := 1) hx hb zd_Mod_isStaying_23 (by decide) ?_
  refine lv_goto (tgt := 28) hx hb zd_Mod_isStaying_24 (by decide) ?_
  exact zl_Mod_isStaying_L28 B hret hlk (1 : Int32) _ _ _ hP hS (lv_sub hl [] rfl) hf
set_option maxHeartbeats 4000000 in
theorem zl_Mod_isStaying {p : Program} {l : Launch} {e : Env} {s : State} {m : MethodId} {args : Array Value} {below : List Frame} {meth : Method} {c : Code} {D : va_G} {cA : Nat → ClassId} {ad : Nat → Nat} {A : Nat → Prop} (B : zu_B p s m args c zb_Mod_isStaying 2 "StonePostModel" D cA ad A) (hret : meth.sig.returnType = (some .boolean)) (hlk : meth.locks = false) {X : IX} {Y : LX} {res : Int32} {a1 : Int32} (H : Heap) (locs : List Loc) (ls : Array Slot) (hP : va_P D zu_cl (zu_pic cA ad X Y) H) (hS : va_S A s.heap H locs) (hl : lv_has ls 2 [(0, .ref (ad 95)), (1, .int a1)]) (hf : fn_Mod_isStaying X a1 = some res) : W p l e zR_Mod_isStaying s m args below meth c H locs 0 0 (MQ below (zu_Qi D cA ad A res X Y) args s 0 0 A) (F0 m 0 ls []) := by
  obtain ⟨hx, hb, hml, hown, hts, hST⟩ := id B
  unfold fn_Mod_isStaying at hf
  refine lv_iload_n hx hb zd_Mod_isStaying_0 rfl (lv_at hl 1 rfl) ?_
  refine lv_aload_n hx hb zd_Mod_isStaying_1 rfl (lv_at hl 0 rfl) ?_
  refine zg_Mod_s B hP rfl zq_861 zd_Mod_isStaying_2 ?_
  refine lv_iconst (v := 3) hx hb zd_Mod_isStaying_5 (by decide) ?_
  refine zr_iald (j := 3) (by decide) B hP rfl (by decide) rfl (by decide) zd_Mod_isStaying_6 ?_
  refine lv_icmp_eq (tgt := 23) hx hb zd_Mod_isStaying_7 (by decide) (fun c1 => ?_) (fun c1 => ?_)
  · have hf := zu_t c1 hf
    exact zl_Mod_isStaying_L23 B hret hlk _ _ _ hP hS (lv_sub hl [] rfl) hf
  · have hf := zu_f c1 hf
    refine lv_aload_n hx hb zd_Mod_isStaying_10 rfl (lv_at hl 0 rfl) ?_
    refine zg_Mod_s B hP rfl zq_861 zd_Mod_isStaying_11 ?_
    refine lv_bipush (v := 6) hx hb zd_Mod_isStaying_14 (by decide) ?_
    refine lv_iload_n hx hb zd_Mod_isStaying_16 rfl (lv_at hl 1 rfl) ?_
    refine lv_iadd hx hb zd_Mod_isStaying_17 ?_
    obtain ⟨hg2, hf⟩ := zu_gd_e hf
    refine zr_iald rfl B hP rfl (by decide) rfl hg2 zd_Mod_isStaying_18 ?_
    refine lv_iconst (v := 1) hx hb zd_Mod_isStaying_19 (by decide) ?_
    refine lv_icmp_ne (tgt := 27) hx hb zd_Mod_isStaying_20 (by decide) (fun c3 => ?_) (fun c3 => ?_)
    · have hf := zu_f c3 hf
      refine lv_iconst (v := 0) hx hb zd_Mod_isStaying_27 (by decide) ?_
      exact zl_Mod_isStaying_L28 B hret hlk (0 : Int32) _ _ _ hP hS (lv_sub hl [] rfl) hf
    · have hf := zu_t c3 hf
      exact zl_Mod_isStaying_L23 B hret hlk _ _ _ hP hS (lv_sub hl [] rfl) hf
theorem zC_Mod_isStaying (l : Launch) {D : va_G} {cA : Nat → ClassId} {ad : Nat → Nat} {A : Nat → Prop} {a1 : Int32} {X : IX} {Y : LX} {res : Int32} (hf : fn_Mod_isStaying X a1 = some res) : Met l zm_Mod_isStaying (zu_ws zm_Mod_isStaying zb_Mod_isStaying 2 (some .boolean)) zR_Mod_isStaying (va_Pc [.ref (ad 95), .int a1] (zu_Pre D cA ad A X Y)) (zu_Qi D cA ad A res X Y) 0 0 A := by
  refine Met.ofW (cc := zb_Mod_isStaying) (maxL := 2) (ret := (some .boolean)) (by decide +kernel) rfl ?_
  intro p e s m args below meth c s₁ B0 hml hv
  obtain ⟨rfl, hP, hST⟩ := hv
  have B : zu_B p s m _ c zb_Mod_isStaying 2 "StonePostModel" D cA ad A := ⟨B0.exec, B0.bytes, hml, findClass_of_methodNamed B0.named, (fun w hw => atoms_spec (ws := zu_ws zm_Mod_isStaying zb_Mod_isStaying 2 (some .boolean)) B0.pre w (List.mem_cons_of_mem _ hw)), hST⟩
  have hl := lv_entry ([.ref (ad 95), .int a1]) (n := 2) (Nat.le_of_ble_eq_true rfl)
  rw [lg_entry_eq]
  generalize (lg_sl ([.ref (ad 95), .int a1]) ++ List.replicate (2 - (lg_sl ([.ref (ad 95), .int a1])).length) Slot.unset).toArray = ls at hl ⊢
  exact zl_Mod_isStaying B B0.returns B0.notSynchronized s.heap [] ls hP va_S.rf hl  hf
theorem zw_Mod_isStaying {p : Program} {l : Launch} {e : Env} {R : Room} {s : State} {m : MethodId} {args : Array Value} {below : List Frame} {meth : Method} {c : Code} {H : Heap} {locs : List Loc} {cells slots : Nat} {Q : State → Prop} {cc : ByteArray} {pc nL : Nat} {ls : Array Slot} {rest st0 : List Value} {D : va_G} {cA : Nat → ClassId} {ad : Nat → Nat} {A : Nat → Prop} {X : IX} {Y : LX} {own : String} {index : Nat} {a1 : Int32} {v1 : Int32} (B : zu_B p s m args c cc nL own D cA ad A) (hP : va_P D zu_cl (zu_pic cA ad X Y) H) (hS : va_S A s.heap H locs) (hq : fn_Mod_isStaying X a1 = some v1) (m1 : Cond.methodLink own index zm_Mod_isStaying ∈ zu_TB) (hR1 : 0 + 1 ≤ R.frames) (hR2 : 8 + (2 + 11) + 0 ≤ R.locals) (hsz : ls.size = nL) (hst : st0 = .int a1 :: .ref (ad 95) :: rest) (hw : (rest.map fun v => v.category).sum ≤ 8) (hdg : decode cc pc = .ok (.invokevirtual index, 3)) (h00 : cells ≤ R.cells ∧ slots ≤ R.slots) (kk : ∀ (H1 : Heap) (locs1 : List Loc), va_P D zu_cl (zu_pic cA ad X Y) H1 → va_S A s.heap H1 locs1 → W p l e R s m args below meth c H1 locs1 cells slots Q (F0 m (pc + 3) ls (.int v1 :: rest))) : W p l e R s m args below meth c H locs cells slots Q (F0 m pc ls st0) := by
  subst hst
  exact zr_cVi (As := [.int a1]) (rest := rest) (n := 1) (C := "StonePostModel") (T := zt_Mod) (N := 23) B hP hS (zC_Mod_isStaying l  hq) (K := 7) rfl (by decide) (by decide) rfl rfl m1 zq_1032 zqP_29 zq_8 zq_1033 (by decide +kernel) ⟨hR1, hR2⟩ rfl rfl rfl hsz rfl hw hdg h00 kk
abbrev zR_Mod_nearest : Room := { frames := 2, cells := 0, slots := 0, locals := 43 }
theorem zd_Mod_nearest_0 : decode zb_Mod_nearest 0 = .ok (.iconst (-1), 1) := by decide +kernel
theorem zd_Mod_nearest_1 : decode zb_Mod_nearest 1 = .ok (.istore_n 2, 1) := by decide +kernel
theorem zd_Mod_nearest_2 : decode zb_Mod_nearest 2 = .ok (.iconst 0, 1) := by decide +kernel
theorem zd_Mod_nearest_3 : decode zb_Mod_nearest 3 = .ok (.istore_n 3, 1) := by decide +kernel
theorem zd_Mod_nearest_4 : decode zb_Mod_nearest 4 = .ok (.iload_n 3, 1) := by decide +kernel
theorem zd_Mod_nearest_5 : decode zb_Mod_nearest 5 = .ok (.aload_n 0, 1) := by decide +kernel
theorem zd_Mod_nearest_6 : decode zb_Mod_nearest 6 = .ok (.getfield 7, 3) := by decide +kernel
theorem zd_Mod_nearest_9 : decode zb_Mod_nearest 9 = .ok (.iconst 1, 1) := by decide +kernel
theorem zd_Mod_nearest_10 : decode zb_Mod_nearest 10 = .ok (.iaload, 1) := by decide +kernel
theorem zd_Mod_nearest_11 : decode zb_Mod_nearest 11 = .ok (.if_icmp .ge 112, 3) := by decide +kernel
theorem zd_Mod_nearest_14 : decode zb_Mod_nearest 14 = .ok (.aload_n 0, 1) := by decide +kernel
theorem zd_Mod_nearest_15 : decode zb_Mod_nearest 15 = .ok (.iload_n 3, 1) := by decide +kernel
theorem zd_Mod_nearest_16 : decode zb_Mod_nearest 16 = .ok (.iconst 1, 1) := by decide +kernel
theorem zd_Mod_nearest_17 : decode zb_Mod_nearest 17 = .ok (.invokevirtual 74, 3) := by decide +kernel
theorem zd_Mod_nearest_20 : decode zb_Mod_nearest 20 = .ok (.iload_n 1, 1) := by decide +kernel
theorem zd_Mod_nearest_21 : decode zb_Mod_nearest 21 = .ok (.isub, 1) := by decide +kernel
theorem zd_Mod_nearest_22 : decode zb_Mod_nearest 22 = .ok (.invokestatic 119, 3) := by decide +kernel
theorem zd_Mod_nearest_25 : decode zb_Mod_nearest 25 = .ok (.istore 4, 2) := by decide +kernel
theorem zd_Mod_nearest_27 : decode zb_Mod_nearest 27 = .ok (.aload_n 0, 1) := by decide +kernel
theorem zd_Mod_nearest_28 : decode zb_Mod_nearest 28 = .ok (.iload_n 3, 1) := by decide +kernel
theorem zd_Mod_nearest_29 : decode zb_Mod_nearest 29 = .ok (.bipush 7, 2) := by decide +kernel
theorem zd_Mod_nearest_31 : decode zb_Mod_nearest 31 = .ok (.invokevirtual 74, 3) := by decide +kernel
theorem zd_Mod_nearest_34 : decode zb_Mod_nearest 34 = .ok (.ifCond .ne 18, 3) := by decide +kernel
theorem zd_Mod_nearest_37 : decode zb_Mod_nearest 37 = .ok (.iload 4, 2) := by decide +kernel
theorem zd_Mod_nearest_39 : decode zb_Mod_nearest 39 = .ok (.aload_n 0, 1) := by decide +kernel
theorem zd_Mod_nearest_40 : decode zb_Mod_nearest 40 = .ok (.getfield 7, 3) := by decide +kernel
theorem zd_Mod_nearest_43 : decode zb_Mod_nearest 43 = .ok (.iconst 4, 1) := by decide +kernel
theorem zd_Mod_nearest_44 : decode zb_Mod_nearest 44 = .ok (.iaload, 1) := by decide +kernel
theorem zd_Mod_nearest_45 : decode zb_Mod_nearest 45 = .ok (.if_icmp .gt 7, 3) := by decide +kernel
theorem zd_Mod_nearest_48 : decode zb_Mod_nearest 48 = .ok (.iconst 1, 1) := by decide +kernel
theorem zd_Mod_nearest_49 : decode zb_Mod_nearest 49 = .ok (.goto 4, 3) := by decide +kernel
theorem zd_Mod_nearest_52 : decode zb_Mod_nearest 52 = .ok (.iconst 0, 1) := by decide +kernel
theorem zd_Mod_nearest_53 : decode zb_Mod_nearest 53 = .ok (.istore 5, 2) := by decide +kernel
theorem zd_Mod_nearest_55 : decode zb_Mod_nearest 55 = .ok (.iload_n 2, 1) := by decide +kernel
theorem zd_Mod_nearest_56 : decode zb_Mod_nearest 56 = .ok (.ifCond .ge 8, 3) := by decide +kernel
theorem zd_Mod_nearest_59 : decode zb_Mod_nearest 59 = .ok (.bipush 99, 2) := by decide +kernel
theorem zd_Mod_nearest_61 : decode zb_Mod_nearest 61 = .ok (.goto 14, 3) := by decide +kernel
theorem zd_Mod_nearest_64 : decode zb_Mod_nearest 64 = .ok (.aload_n 0, 1) := by decide +kernel
theorem zd_Mod_nearest_65 : decode zb_Mod_nearest 65 = .ok (.iload_n 2, 1) := by decide +kernel
theorem zd_Mod_nearest_66 : decode zb_Mod_nearest 66 = .ok (.iconst 1, 1) := by decide +kernel
theorem zd_Mod_nearest_67 : decode zb_Mod_nearest 67 = .ok (.invokevirtual 74, 3) := by decide +kernel
theorem zd_Mod_nearest_70 : decode zb_Mod_nearest 70 = .ok (.iload_n 1, 1) := by decide +kernel
theorem zd_Mod_nearest_71 : decode zb_Mod_nearest 71 = .ok (.isub, 1) := by decide +kernel
theorem zd_Mod_nearest_72 : decode zb_Mod_nearest 72 = .ok (.invokestatic 119, 3) := by decide +kernel
theorem zd_Mod_nearest_75 : decode zb_Mod_nearest 75 = .ok (.istore 6, 2) := by decide +kernel
theorem zd_Mod_nearest_77 : decode zb_Mod_nearest 77 = .ok (.iload 5, 2) := by decide +kernel
theorem zd_Mod_nearest_79 : decode zb_Mod_nearest 79 = .ok (.ifCond .eq 36, 3) := by decide +kernel
theorem zd_Mod_nearest_82 : decode zb_Mod_nearest 82 = .ok (.iload 4, 2) := by decide +kernel
theorem zd_Mod_nearest_84 : decode zb_Mod_nearest 84 = .ok (.iload 6, 2) := by decide +kernel
theorem zd_Mod_nearest_86 : decode zb_Mod_nearest 86 = .ok (.if_icmp .lt 25, 3) := by decide +kernel
theorem zd_Mod_nearest_89 : decode zb_Mod_nearest 89 = .ok (.iload 4, 2) := by decide +kernel
theorem zd_Mod_nearest_91 : decode zb_Mod_nearest 91 = .ok (.iload 6, 2) := by decide +kernel
theorem zd_Mod_nearest_93 : decode zb_Mod_nearest 93 = .ok (.if_icmp .ne 22, 3) := by decide +kernel
theorem zd_Mod_nearest_96 : decode zb_Mod_nearest 96 = .ok (.aload_n 0, 1) := by decide +kernel
theorem zd_Mod_nearest_97 : decode zb_Mod_nearest 97 = .ok (.iload_n 3, 1) := by decide +kernel
theorem zd_Mod_nearest_98 : decode zb_Mod_nearest 98 = .ok (.iconst 1, 1) := by decide +kernel
theorem zd_Mod_nearest_99 : decode zb_Mod_nearest 99 = .ok (.invokevirtual 74, 3) := by decide +kernel
theorem zd_Mod_nearest_102 : decode zb_Mod_nearest 102 = .ok (.aload_n 0, 1) := by decide +kernel
theorem zd_Mod_nearest_103 : decode zb_Mod_nearest 103 = .ok (.iload_n 2, 1) := by decide +kernel
theorem zd_Mod_nearest_104 : decode zb_Mod_nearest 104 = .ok (.iconst 1, 1) := by decide +kernel
theorem zd_Mod_nearest_105 : decode zb_Mod_nearest 105 = .ok (.invokevirtual 74, 3) := by decide +kernel
theorem zd_Mod_nearest_108 : decode zb_Mod_nearest 108 = .ok (.if_icmp .ge 7, 3) := by decide +kernel
theorem zd_Mod_nearest_111 : decode zb_Mod_nearest 111 = .ok (.iload_n 3, 1) := by decide +kernel
theorem zd_Mod_nearest_112 : decode zb_Mod_nearest 112 = .ok (.goto 4, 3) := by decide +kernel
theorem zd_Mod_nearest_115 : decode zb_Mod_nearest 115 = .ok (.iload_n 2, 1) := by decide +kernel
theorem zd_Mod_nearest_116 : decode zb_Mod_nearest 116 = .ok (.istore_n 2, 1) := by decide +kernel
theorem zd_Mod_nearest_117 : decode zb_Mod_nearest 117 = .ok (.iinc 3 1, 3) := by decide +kernel
theorem zd_Mod_nearest_120 : decode zb_Mod_nearest 120 = .ok (.goto (-116), 3) := by decide +kernel
theorem zd_Mod_nearest_123 : decode zb_Mod_nearest 123 = .ok (.iload_n 2, 1) := by decide +kernel
theorem zd_Mod_nearest_124 : decode zb_Mod_nearest 124 = .ok (.ireturn, 1) := by decide +kernel
set_option maxHeartbeats 4000000 in
theorem zl_Mod_nearest_L116 {p : Program} {l : Launch} {e : Env} {s : State} {m : MethodId} {args : Array Value} {below : List Frame} {meth : Method} {c : Code} {D : va_G} {cA : Nat → ClassId} {ad : Nat → Nat} {A : Nat → Prop} (B : zu_B p s m args c zb_Mod_nearest 7 "StonePostModel" D cA ad A) (hret : meth.sig.returnType = (some .int)) (hlk : meth.locks = false) {X : IX} {Y : LX} {res : Int32} {k4 : Int32 → Int32 → Int32 → Option Int32} (hk4 : ∀ (x1 : Int32) (x2 : Int32) (x3 : Int32) (H : Heap) (locs : List Loc) (ls : Array Slot), va_P D zu_cl (zu_pic cA ad X Y) H → va_S A s.heap H locs → lv_has ls 7 [(0, .ref (ad 95)), (1, .int x1), (2, .int x2), (3, .int x3)] → k4 x1 x2 x3 = some res → W p l e zR_Mod_nearest s m args below meth c H locs 0 0 (MQ below (zu_Qi D cA ad A res X Y) args s 0 0 A) (F0 m 4 ls [])) (x1 : Int32) (x3 : Int32) (y0 : Int32) (H : Heap) (locs : List Loc) (ls : Array Slot) (hP : va_P D zu_cl (zu_pic cA ad X Y) H) (hS : va_S A s.heap H locs) (hl : lv_has ls 7 [(0, .ref (ad 95)), (1, .int x1), (3, .int x3)]) (hf : fn_Mod_nearest_L116 X k4 x1 x3 y0 = some res) : W p l e zR_Mod_nearest s m args below meth c H locs 0 0 (MQ below (zu_Qi D cA ad A res X Y) args s 0 0 A) (F0 m 116 ls [.int y0]) := by
  obtain ⟨hx, hb, hml, hown, hts, hST⟩ := id B
  unfold fn_Mod_nearest_L116 at hf
  refine lv_istore_n (lv' := [(2, .int y0), (0, .ref (ad 95)), (1, .int x1), (3, .int x3)]) hx hb zd_Mod_nearest_116 rfl hl (by decide) rfl (fun ls hl => ?_)
  obtain ⟨v23, ev23, hf⟩ := zu_nx_e hf
  refine lv_iinc (v := v23) (lv' := [(3, .int v23), (2, .int y0), (0, .ref (ad 95)), (1, .int x1)]) hx hb zd_Mod_nearest_117 hl (k := 3) rfl (by rw [ev23]; rfl) (by decide) rfl (fun ls hl => ?_)
  clear ev23
  refine lv_goto (tgt := 4) hx hb zd_Mod_nearest_120 (by decide) ?_
  exact hk4 x1 y0 v23 _ _ _ hP hS (lv_sub hl [2, 3, 1, 0] rfl) hf
set_option maxHeartbeats 4000000 in
theorem zl_Mod_nearest_L115 {p : Program} {l : Launch} {e : Env} {s : State} {m : MethodId} {args : Array Value} {below : List Frame} {meth : Method} {c : Code} {D : va_G} {cA : Nat → ClassId} {ad : Nat → Nat} {A : Nat → Prop} (B : zu_B p s m args c zb_Mod_nearest 7 "StonePostModel" D cA ad A) (hret : meth.sig.returnType = (some .int)) (hlk : meth.locks = false) {X : IX} {Y : LX} {res : Int32} {k4 : Int32 → Int32 → Int32 → Option Int32} (hk4 : ∀ (x1 : Int32) (x2 : Int32) (x3 : Int32) (H : Heap) (locs : List Loc) (ls : Array Slot), va_P D zu_cl (zu_pic cA ad X Y) H → va_S A s.heap H locs → lv_has ls 7 [(0, .ref (ad 95)), (1, .int x1), (2, .int x2), (3, .int x3)] → k4 x1 x2 x3 = some res → W p l e zR_Mod_nearest s m args below meth c H locs 0 0 (MQ below (zu_Qi D cA ad A res X Y) args s 0 0 A) (F0 m 4 ls [])) (x1 : Int32) (x2 : Int32) (x3 : Int32) (H : Heap) (locs : List Loc) (ls : Array Slot) (hP : va_P D zu_cl (zu_pic cA ad X Y) H) (hS : va_S A s.heap H locs) (hl : lv_has ls 7 [(0, .ref (ad 95)), (1, .int x1), (2, .int x2), (3, .int x3)]) (hf : fn_Mod_nearest_L115 X k4 x1 x2 x3 = some res) : W p l e zR_Mod_nearest s m args below meth c H locs 0 0 (MQ below (zu_Qi D cA ad A res X Y) args s 0 0 A) (F0 m 115 ls []) := by
  obtain ⟨hx, hb, hml, hown, hts, hST⟩ := id B
  unfold fn_Mod_nearest_L115 at hf
  refine lv_iload_n hx hb zd_Mod_nearest_115 rfl (lv_at hl 2 rfl) ?_
  exact zl_Mod_nearest_L116 B hret hlk hk4 x1 x3 x2 _ _ _ hP hS (lv_sub hl [0, 1, 3] rfl) hf
set_option maxHeartbeats 4000000 in
theorem zl_Mod_nearest_L111 {p : Program} {l : Launch} {e : Env} {s : State} {m : MethodId} {args : Array Value} {below : List Frame} {meth : Method} {c : Code} {D : va_G} {cA : Nat → ClassId} {ad : Nat → Nat} {A : Nat → Prop} (B : zu_B p s m args c zb_Mod_nearest 7 "StonePostModel" D cA ad A) (hret : meth.sig.returnType = (some .int)) (hlk : meth.locks = false) {X : IX} {Y : LX} {res : Int32} {k4 : Int32 → Int32 → Int32 → Option Int32} (hk4 : ∀ (x1 : Int32) (x2 : Int32) (x3 : Int32) (H : Heap) (locs : List Loc) (ls : Array Slot), va_P D zu_cl (zu_pic cA ad X Y) H → va_S A s.heap H locs → lv_has ls 7 [(0, .ref (ad 95)), (1, .int x1), (2, .int x2), (3, .int x3)] → k4 x1 x2 x3 = some res → W p l e zR_Mod_nearest s m args below meth c H locs 0 0 (MQ below (zu_Qi D cA ad A res X Y) args s 0 0 A) (F0 m 4 ls [])) (x1 : Int32) (x3 : Int32) (H : Heap) (locs : List Loc) (ls : Array Slot) (hP : va_P D zu_cl (zu_pic cA ad X Y) H) (hS : va_S A s.heap H locs) (hl : lv_has ls 7 [(0, .ref (ad 95)), (1, .int x1), (3, .int x3)]) (hf : fn_Mod_nearest_L111 X k4 x1 x3 = some res) : W p l e zR_Mod_nearest s m args below meth c H locs 0 0 (MQ below (zu_Qi D cA ad A res X Y) args s 0 0 A) (F0 m 111 ls []) := by
  obtain ⟨hx, hb, hml, hown, hts, hST⟩ := id B
  unfold fn_Mod_nearest_L111 at hf
  refine lv_iload_n hx hb zd_Mod_nearest_111 rfl (lv_at hl 2 rfl) ?_
  refine lv_goto (tgt := 116) hx hb zd_Mod_nearest_112 (by decide) ?_
  exact zl_Mod_nearest_L116 B hret hlk hk4 x1 x3 x3 _ _ _ hP hS (lv_sub hl [0, 1, 2] rfl) hf
set_option maxHeartbeats 4000000 in
theorem zl_Mod_nearest_L75 {p : Program} {l : Launch} {e : Env} {s : State} {m : MethodId} {args : Array Value} {below : List Frame} {meth : Method} {c : Code} {D : va_G} {cA : Nat → ClassId} {ad : Nat → Nat} {A : Nat → Prop} (B : zu_B p s m args c zb_Mod_nearest 7 "StonePostModel" D cA ad A) (hret : meth.sig.returnType = (some .int)) (hlk : meth.locks = false) {X : IX} {Y : LX} {res : Int32} {k4 : Int32 → Int32 → Int32 → Option Int32} (hk4 : ∀ (x1 : Int32) (x2 : Int32) (x3 : Int32) (H : Heap) (locs : List Loc) (ls : Array Slot), va_P D zu_cl (zu_pic cA ad X Y) H → va_S A s.heap H locs → lv_has ls 7 [(0, .ref (ad 95)), (1, .int x1), (2, .int x2), (3, .int x3)] → k4 x1 x2 x3 = some res → W p l e zR_Mod_nearest s m args below meth c H locs 0 0 (MQ below (zu_Qi D cA ad A res X Y) args s 0 0 A) (F0 m 4 ls [])) (x1 : Int32) (x2 : Int32) (x3 : Int32) (x4 : Int32) (x5 : Int32) (y0 : Int32) (H : Heap) (locs : List Loc) (ls : Array Slot) (hP : va_P D zu_cl (zu_pic cA ad X Y) H) (hS : va_S A s.heap H locs) (hl : lv_has ls 7 [(0, .ref (ad 95)), (1, .int x1), (2, .int x2), (3, .int x3), (4, .int x4), (5, .int x5)]) (hf : fn_Mod_nearest_L75 X k4 x1 x2 x3 x4 x5 y0 = some res) : W p l e zR_Mod_nearest s m args below meth c H locs 0 0 (MQ below (zu_Qi D cA ad A res X Y) args s 0 0 A) (F0 m 75 ls [.int y0]) := by
  obtain ⟨hx, hb, hml, hown, hts, hST⟩ := id B
  unfold fn_Mod_nearest_L75 at hf
  refine lv_istore (lv' := [(6, .int y0), (0, .ref (ad 95)), (1, .int x1), (2, .int x2), (3, .int x3), (4, .int x4), (5, .int x5)]) hx hb zd_Mod_nearest_75 hl (by decide) rfl (fun ls hl => ?_)
  refine lv_iload hx hb zd_Mod_nearest_77 (lv_at hl 6 rfl) ?_
  refine lv_if_eq (tgt := 115) hx hb zd_Mod_nearest_79 (by decide) (fun c15 => ?_) (fun c15 => ?_)
  · have hf := zu_t c15 hf
    exact zl_Mod_nearest_L115 B hret hlk hk4 x1 x2 x3 _ _ _ hP hS (lv_sub hl [1, 2, 3, 4] rfl) hf
  · have hf := zu_f c15 hf
    refine lv_iload hx hb zd_Mod_nearest_82 (lv_at hl 5 rfl) ?_
    refine lv_iload hx hb zd_Mod_nearest_84 (lv_at hl 0 rfl) ?_
    refine lv_icmp_lt (tgt := 111) hx hb zd_Mod_nearest_86 (by decide) (fun c16 => ?_) (fun c16 => ?_)
    · have hf := zu_t c16 hf
      exact zl_Mod_nearest_L111 B hret hlk hk4 x1 x3 _ _ _ hP hS (lv_sub hl [1, 2, 4] rfl) hf
    · have hf := zu_f c16 hf
      refine lv_iload hx hb zd_Mod_nearest_89 (lv_at hl 5 rfl) ?_
      refine lv_iload hx hb zd_Mod_nearest_91 (lv_at hl 0 rfl) ?_
      refine lv_icmp_ne (tgt := 115) hx hb zd_Mod_nearest_93 (by decide) (fun c17 => ?_) (fun c17 => ?_)
      · have hf := zu_f c17 hf
        exact zl_Mod_nearest_L115 B hret hlk hk4 x1 x2 x3 _ _ _ hP hS (lv_sub hl [1, 2, 3, 4] rfl) hf
      · have hf := zu_t c17 hf
        refine lv_aload_n hx hb zd_Mod_nearest_96 rfl (lv_at hl 1 rfl) ?_
        refine lv_iload_n hx hb zd_Mod_nearest_97 rfl (lv_at hl 4 rfl) ?_
        refine lv_iconst (v := 1) hx hb zd_Mod_nearest_98 (by decide) ?_
        obtain ⟨v18, hq19, hf⟩ := zu_b1_e hf
        refine zw_Mod_its (rest := []) B hP hS hq19 zq_962 (Nat.le_of_ble_eq_true rfl) (Nat.le_of_ble_eq_true rfl) hl.1 rfl (Nat.le_of_ble_eq_true rfl) zd_Mod_nearest_99 (by decide) (fun H locs hP hS => ?_)
        clear hq19
        refine lv_aload_n hx hb zd_Mod_nearest_102 rfl (lv_at hl 1 rfl) ?_
        refine lv_iload_n hx hb zd_Mod_nearest_103 rfl (lv_at hl 3 rfl) ?_
        refine lv_iconst (v := 1) hx hb zd_Mod_nearest_104 (by decide) ?_
        obtain ⟨v20, hq21, hf⟩ := zu_b1_e hf
        refine zw_Mod_its (rest := [.int v18]) B hP hS hq21 zq_962 (Nat.le_of_ble_eq_true rfl) (Nat.le_of_ble_eq_true rfl) hl.1 rfl (Nat.le_of_ble_eq_true rfl) zd_Mod_nearest_105 (by decide) (fun H locs hP hS => ?_)
        clear hq21
        refine lv_icmp_ge (tgt := 115) hx hb zd_Mod_nearest_108 (by decide) (fun c22 => ?_) (fun c22 => ?_)
        · have hf := zu_t c22 hf
          exact zl_Mod_nearest_L115 B hret hlk hk4 x1 x2 x3 _ _ _ hP hS (lv_sub hl [1, 2, 3, 4] rfl) hf
        · have hf := zu_f c22 hf
          exact zl_Mod_nearest_L111 B hret hlk hk4 x1 x3 _ _ _ hP hS (lv_sub hl [1, 2, 4] rfl) hf
set_option maxHeartbeats 4000000 in
theorem zl_Mod_nearest_L53 {p : Program} {l : Launch} {e : Env} {s : State} {m : MethodId} {args : Array Value} {below : List Frame} {meth : Method} {c : Code} {D : va_G} {cA : Nat → ClassId} {ad : Nat → Nat} {A : Nat → Prop} (B : zu_B p s m args c zb_Mod_nearest 7 "StonePostModel" D cA ad A) (hret : meth.sig.returnType = (some .int)) (hlk : meth.locks = false) {X : IX} {Y : LX} {res : Int32} {k4 : Int32 → Int32 → Int32 → Option Int32} (hk4 : ∀ (x1 : Int32) (x2 : Int32) (x3 : Int32) (H : Heap) (locs : List Loc) (ls : Array Slot), va_P D zu_cl (zu_pic cA ad X Y) H → va_S A s.heap H locs → lv_has ls 7 [(0, .ref (ad 95)), (1, .int x1), (2, .int x2), (3, .int x3)] → k4 x1 x2 x3 = some res → W p l e zR_Mod_nearest s m args below meth c H locs 0 0 (MQ below (zu_Qi D cA ad A res X Y) args s 0 0 A) (F0 m 4 ls [])) (x1 : Int32) (x2 : Int32) (x3 : Int32) (x4 : Int32) (y0 : Int32) (H : Heap) (locs : List Loc) (ls : Array Slot) (hP : va_P D zu_cl (zu_pic cA ad X Y) H) (hS : va_S A s.heap H locs) (hl : lv_has ls 7 [(0, .ref (ad 95)), (1, .int x1), (2, .int x2), (3, .int x3), (4, .int x4)]) (hf : fn_Mod_nearest_L53 X k4 x1 x2 x3 x4 y0 = some res) : W p l e zR_Mod_nearest s m args below meth c H locs 0 0 (MQ below (zu_Qi D cA ad A res X Y) args s 0 0 A) (F0 m 53 ls [.int y0]) := by
  obtain ⟨hx, hb, hml, hown, hts, hST⟩ := id B
  unfold fn_Mod_nearest_L53 at hf
  refine lv_istore (lv' := [(5, .int y0), (0, .ref (ad 95)), (1, .int x1), (2, .int x2), (3, .int x3), (4, .int x4)]) hx hb zd_Mod_nearest_53 hl (by decide) rfl (fun ls hl => ?_)
  refine lv_iload_n hx hb zd_Mod_nearest_55 rfl (lv_at hl 3 rfl) ?_
  refine lv_if_ge (tgt := 64) hx hb zd_Mod_nearest_56 (by decide) (fun c10 => ?_) (fun c10 => ?_)
  · have hf := zu_t c10 hf
    refine lv_aload_n hx hb zd_Mod_nearest_64 rfl (lv_at hl 1 rfl) ?_
    refine lv_iload_n hx hb zd_Mod_nearest_65 rfl (lv_at hl 3 rfl) ?_
    refine lv_iconst (v := 1) hx hb zd_Mod_nearest_66 (by decide) ?_
    obtain ⟨v11, hq12, hf⟩ := zu_b1_e hf
    refine zw_Mod_its (rest := []) B hP hS hq12 zq_962 (Nat.le_of_ble_eq_true rfl) (Nat.le_of_ble_eq_true rfl) hl.1 rfl (Nat.le_of_ble_eq_true rfl) zd_Mod_nearest_67 (by decide) (fun H locs hP hS => ?_)
    clear hq12
    refine lv_iload_n hx hb zd_Mod_nearest_70 rfl (lv_at hl 2 rfl) ?_
    refine lv_isub hx hb zd_Mod_nearest_71 ?_
    obtain ⟨v13, ehq14, hf⟩ := zu_nx_e hf
    have hq14 := ehq14.symm
    refine zw_Mod_size (rest := []) B hP hS hq14 zq_1038 (Nat.le_of_ble_eq_true rfl) (Nat.le_of_ble_eq_true rfl) hl.1 rfl (Nat.le_of_ble_eq_true rfl) zd_Mod_nearest_72 (by decide) (fun H locs hP hS => ?_)
    clear hq14 ehq14
    exact zl_Mod_nearest_L75 B hret hlk hk4 x1 x2 x3 x4 y0 v13 _ _ _ hP hS (lv_sub hl [1, 2, 3, 4, 5, 0] rfl) hf
  · have hf := zu_f c10 hf
    refine lv_bipush (v := 99) hx hb zd_Mod_nearest_59 (by decide) ?_
    refine lv_goto (tgt := 75) hx hb zd_Mod_nearest_61 (by decide) ?_
    exact zl_Mod_nearest_L75 B hret hlk hk4 x1 x2 x3 x4 y0 (99 : Int32) _ _ _ hP hS (lv_sub hl [1, 2, 3, 4, 5, 0] rfl) hf
set_option maxHeartbeats 4000000 in
theorem zl_Mod_nearest_L52 {p : Program} {l : Launch} {e : Env} {s : State} {m : MethodId} {args : Array Value} {below : List Frame} {meth : Method} {c : Code} {D : va_G} {cA : Nat → ClassId} {ad : Nat → Nat} {A : Nat → Prop} (B : zu_B p s m args c zb_Mod_nearest 7 "StonePostModel" D cA ad A) (hret : meth.sig.returnType = (some .int)) (hlk : meth.locks = false) {X : IX} {Y : LX} {res : Int32} {k4 : Int32 → Int32 → Int32 → Option Int32} (hk4 : ∀ (x1 : Int32) (x2 : Int32) (x3 : Int32) (H : Heap) (locs : List Loc) (ls : Array Slot), va_P D zu_cl (zu_pic cA ad X Y) H → va_S A s.heap H locs → lv_has ls 7 [(0, .ref (ad 95)), (1, .int x1), (2, .int x2), (3, .int x3)] → k4 x1 x2 x3 = some res → W p l e zR_Mod_nearest s m args below meth c H locs 0 0 (MQ below (zu_Qi D cA ad A res X Y) args s 0 0 A) (F0 m 4 ls [])) (x1 : Int32) (x2 : Int32) (x3 : Int32) (x4 : Int32) (H : Heap) (locs : List Loc) (ls : Array Slot) (hP : va_P D zu_cl (zu_pic cA ad X Y) H) (hS : va_S A s.heap H locs) (hl : lv_has ls 7 [(0, .ref (ad 95)), (1, .int x1), (2, .int x2), (3, .int x3), (4, .int x4)]) (hf : fn_Mod_nearest_L52 X k4 x1 x2 x3 x4 = some res) : W p l e zR_Mod_nearest s m args below meth c H locs 0 0 (MQ below (zu_Qi D cA ad A res X Y) args s 0 0 A) (F0 m 52 ls []) := by
  obtain ⟨hx, hb, hml, hown, hts, hST⟩ := id B
  unfold fn_Mod_nearest_L52 at hf
  refine lv_iconst (v := 0) hx hb zd_Mod_nearest_52 (by decide) ?_
  exact zl_Mod_nearest_L53 B hret hlk hk4 x1 x2 x3 x4 (0 : Int32) _ _ _ hP hS (lv_sub hl [0, 1, 2, 3, 4] rfl) hf
set_option maxHeartbeats 4000000 in
theorem zl_Mod_nearest_B4 {p : Program} {l : Launch} {e : Env} {s : State} {m : MethodId} {args : Array Value} {below : List Frame} {meth : Method} {c : Code} {D : va_G} {cA : Nat → ClassId} {ad : Nat → Nat} {A : Nat → Prop} (B : zu_B p s m args c zb_Mod_nearest 7 "StonePostModel" D cA ad A) (hret : meth.sig.returnType = (some .int)) (hlk : meth.locks = false) {X : IX} {Y : LX} {res : Int32} {k4 : Int32 → Int32 → Int32 → Option Int32} (hk4 : ∀ (x1 : Int32) (x2 : Int32) (x3 : Int32) (H : Heap) (locs : List Loc) (ls : Array Slot), va_P D zu_cl (zu_pic cA ad X Y) H → va_S A s.heap H locs → lv_has ls 7 [(0, .ref (ad 95)), (1, .int x1), (2, .int x2), (3, .int x3)] → k4 x1 x2 x3 = some res → W p l e zR_Mod_nearest s m args below meth c H locs 0 0 (MQ below (zu_Qi D cA ad A res X Y) args s 0 0 A) (F0 m 4 ls [])) (x1 : Int32) (x2 : Int32) (x3 : Int32) (H : Heap) (locs : List Loc) (ls : Array Slot) (hP : va_P D zu_cl (zu_pic cA ad X Y) H) (hS : va_S A s.heap H locs) (hl : lv_has ls 7 [(0, .ref (ad 95)), (1, .int x1), (2, .int x2), (3, .int x3)]) (hf : fn_Mod_nearest_B4 X k4 x1 x2 x3 = some res) : W p l e zR_Mod_nearest s m args below meth c H locs 0 0 (MQ below (zu_Qi D cA ad A res X Y) args s 0 0 A) (F0 m 4 ls []) := by
  obtain ⟨hx, hb, hml, hown, hts, hST⟩ := id B
  unfold fn_Mod_nearest_B4 at hf
  refine lv_iload_n hx hb zd_Mod_nearest_4 rfl (lv_at hl 3 rfl) ?_
  refine lv_aload_n hx hb zd_Mod_nearest_5 rfl (lv_at hl 0 rfl) ?_
  refine zg_Mod_s B hP rfl zq_861 zd_Mod_nearest_6 ?_
  refine lv_iconst (v := 1) hx hb zd_Mod_nearest_9 (by decide) ?_
  refine zr_iald (j := 1) (by decide) B hP rfl (by decide) rfl (by decide) zd_Mod_nearest_10 ?_
  refine lv_icmp_ge (tgt := 123) hx hb zd_Mod_nearest_11 (by decide) (fun c1 => ?_) (fun c1 => ?_)
  · have hf := zu_t c1 hf
    refine lv_iload_n hx hb zd_Mod_nearest_123 rfl (lv_at hl 2 rfl) ?_
    obtain rfl := Option.some.inj hf
    exact zr_iret hx hb hret hlk hP hS zd_Mod_nearest_124
  · have hf := zu_f c1 hf
    refine lv_aload_n hx hb zd_Mod_nearest_14 rfl (lv_at hl 0 rfl) ?_
    refine lv_iload_n hx hb zd_Mod_nearest_15 rfl (lv_at hl 3 rfl) ?_
    refine lv_iconst (v := 1) hx hb zd_Mod_nearest_16 (by decide) ?_
    obtain ⟨v2, hq3, hf⟩ := zu_b1_e hf
    refine zw_Mod_its (rest := []) B hP hS hq3 zq_962 (Nat.le_of_ble_eq_true rfl) (Nat.le_of_ble_eq_true rfl) hl.1 rfl (Nat.le_of_ble_eq_true rfl) zd_Mod_nearest_17 (by decide) (fun H locs hP hS => ?_)
    clear hq3
    refine lv_iload_n hx hb zd_Mod_nearest_20 rfl (lv_at hl 1 rfl) ?_
    refine lv_isub hx hb zd_Mod_nearest_21 ?_
    obtain ⟨v4, ehq5, hf⟩ := zu_nx_e hf
    have hq5 := ehq5.symm
    refine zw_Mod_size (rest := []) B hP hS hq5 zq_1038 (Nat.le_of_ble_eq_true rfl) (Nat.le_of_ble_eq_true rfl) hl.1 rfl (Nat.le_of_ble_eq_true rfl) zd_Mod_nearest_22 (by decide) (fun H locs hP hS => ?_)
    clear hq5 ehq5
    refine lv_istore (lv' := [(4, .int v4), (0, .ref (ad 95)), (1, .int x1), (2, .int x2), (3, .int x3)]) hx hb zd_Mod_nearest_25 hl (by decide) rfl (fun ls hl => ?_)
    refine lv_aload_n hx hb zd_Mod_nearest_27 rfl (lv_at hl 1 rfl) ?_
    refine lv_iload_n hx hb zd_Mod_nearest_28 rfl (lv_at hl 4 rfl) ?_
    refine lv_bipush (v := 7) hx hb zd_Mod_nearest_29 (by decide) ?_
    obtain ⟨v6, hq7, hf⟩ := zu_b1_e hf
    refine zw_Mod_its (rest := []) B hP hS hq7 zq_962 (Nat.le_of_ble_eq_true rfl) (Nat.le_of_ble_eq_true rfl) hl.1 rfl (Nat.le_of_ble_eq_true rfl) zd_Mod_nearest_31 (by decide) (fun H locs hP hS => ?_)
    clear hq7
    refine lv_if_ne (tgt := 52) hx hb zd_Mod_nearest_34 (by decide) (fun c8 => ?_) (fun c8 => ?_)
    · have hf := zu_f c8 hf
      exact zl_Mod_nearest_L52 B hret hlk hk4 x1 x2 x3 v4 _ _ _ hP hS (lv_sub hl [1, 2, 3, 4, 0] rfl) hf
    · have hf := zu_t c8 hf
      refine lv_iload hx hb zd_Mod_nearest_37 (lv_at hl 0 rfl) ?_
      refine lv_aload_n hx hb zd_Mod_nearest_39 rfl (lv_at hl 1 rfl) ?_
      refine zg_Mod_s B hP rfl zq_861 zd_Mod_nearest_40 ?_
      refine lv_iconst (v := 4) hx hb zd_Mod_nearest_43 (by decide) ?_
      refine zr_iald (j := 4) (by decide) B hP rfl (by decide) rfl (by decide) zd_Mod_nearest_44 ?_
      refine lv_icmp_gt (tgt := 52) hx hb zd_Mod_nearest_45 (by decide) (fun c9 => ?_) (fun c9 => ?_)
      · have hf := zu_t c9 hf
        exact zl_Mod_nearest_L52 B hret hlk hk4 x1 x2 x3 v4 _ _ _ hP hS (lv_sub hl [1, 2, 3, 4, 0] rfl) hf
      · have hf := zu_f c9 hf
        refine lv_iconst (v := 1) hx hb zd_Mod_nearest_48 (by decide) ?_
        refine lv_goto (tgt := 53) hx hb zd_Mod_nearest_49 (by decide) ?_
        exact zl_Mod_nearest_L53 B hret hlk hk4 x1 x2 x3 v4 (1 : Int32) _ _ _ hP hS (lv_sub hl [1, 2, 3, 4, 0] rfl) hf
theorem zl_Mod_nearest_L4 {p : Program} {l : Launch} {e : Env} {s : State} {m : MethodId} {args : Array Value} {below : List Frame} {meth : Method} {c : Code} {D : va_G} {cA : Nat → ClassId} {ad : Nat → Nat} {A : Nat → Prop} (B : zu_B p s m args c zb_Mod_nearest 7 "StonePostModel" D cA ad A) (hret : meth.sig.returnType = (some .int)) (hlk : meth.locks = false) {X : IX} {Y : LX} {res : Int32} : ∀ (n : Nat) (x1 : Int32) (x2 : Int32) (x3 : Int32) (H : Heap) (locs : List Loc) (ls : Array Slot), va_P D zu_cl (zu_pic cA ad X Y) H → va_S A s.heap H locs → lv_has ls 7 [(0, .ref (ad 95)), (1, .int x1), (2, .int x2), (3, .int x3)] → fn_Mod_nearest_L4 X n x1 x2 x3 = some res → W p l e zR_Mod_nearest s m args below meth c H locs 0 0 (MQ below (zu_Qi D cA ad A res X Y) args s 0 0 A) (F0 m 4 ls []) := by
  intro n
  induction n with
  | zero =>
    intro x1 x2 x3 H locs ls hP hS hl hf
    exact (Option.some_ne_none _ hf.symm).elim
  | succ n ih =>
    intro x1 x2 x3 H locs ls hP hS hl hf
    exact zl_Mod_nearest_B4 B hret hlk ih x1 x2 x3 H locs ls hP hS hl  hf
set_option maxHeartbeats 4000000 in
theorem zl_Mod_nearest {p : Program} {l : Launch} {e : Env} {s : State} {m : MethodId} {args : Array Value} {below : List Frame} {meth : Method} {c : Code} {D : va_G} {cA : Nat → ClassId} {ad : Nat → Nat} {A : Nat → Prop} (B : zu_B p s m args c zb_Mod_nearest 7 "StonePostModel" D cA ad A) (hret : meth.sig.returnType = (some .int)) (hlk : meth.locks = false) {X : IX} {Y : LX} {res : Int32} {a1 : Int32} (H : Heap) (locs : List Loc) (ls : Array Slot) (hP : va_P D zu_cl (zu_pic cA ad X Y) H) (hS : va_S A s.heap H locs) (hl : lv_has ls 7 [(0, .ref (ad 95)), (1, .int a1)]) (hf : fn_Mod_nearest X a1 = some res) : W p l e zR_Mod_nearest s m args below meth c H locs 0 0 (MQ below (zu_Qi D cA ad A res X Y) args s 0 0 A) (F0 m 0 ls []) := by
  obtain ⟨hx, hb, hml, hown, hts, hST⟩ := id B
  unfold fn_Mod_nearest at hf
  refine lv_iconst (v := -1) hx hb zd_Mod_nearest_0 (by decide) ?_
  refine lv_istore_n (lv' := [(2, .int (-1 : Int32)), (0, .ref (ad 95)), (1, .int a1)]) hx hb zd_Mod_nearest_1 rfl hl (by decide) rfl (fun ls hl => ?_)
  refine lv_iconst (v := 0) hx hb zd_Mod_nearest_2 (by decide) ?_
  refine lv_istore_n (lv' := [(3, .int (0 : Int32)), (2, .int (-1 : Int32)), (0, .ref (ad 95)), (1, .int a1)]) hx hb zd_Mod_nearest_3 rfl hl (by decide) rfl (fun ls hl => ?_)
  exact zl_Mod_nearest_L4 B hret hlk 400 a1 (-1 : Int32) (0 : Int32) _ _ _ hP hS (lv_sub hl [2, 3, 1, 0] rfl) hf
theorem zC_Mod_nearest (l : Launch) {D : va_G} {cA : Nat → ClassId} {ad : Nat → Nat} {A : Nat → Prop} {a1 : Int32} {X : IX} {Y : LX} {res : Int32} (hf : fn_Mod_nearest X a1 = some res) : Met l zm_Mod_nearest (zu_ws zm_Mod_nearest zb_Mod_nearest 7 (some .int)) zR_Mod_nearest (va_Pc [.ref (ad 95), .int a1] (zu_Pre D cA ad A X Y)) (zu_Qi D cA ad A res X Y) 0 0 A := by
  refine Met.ofW (cc := zb_Mod_nearest) (maxL := 7) (ret := (some .int)) (by decide +kernel) rfl ?_
  intro p e s m args below meth c s₁ B0 hml hv
  obtain ⟨rfl, hP, hST⟩ := hv
  have B : zu_B p s m _ c zb_Mod_nearest 7 "StonePostModel" D cA ad A := ⟨B0.exec, B0.bytes, hml, findClass_of_methodNamed B0.named, (fun w hw => atoms_spec (ws := zu_ws zm_Mod_nearest zb_Mod_nearest 7 (some .int)) B0.pre w (List.mem_cons_of_mem _ hw)), hST⟩
  have hl := lv_entry ([.ref (ad 95), .int a1]) (n := 7) (Nat.le_of_ble_eq_true rfl)
  rw [lg_entry_eq]
  generalize (lg_sl ([.ref (ad 95), .int a1]) ++ List.replicate (7 - (lg_sl ([.ref (ad 95), .int a1])).length) Slot.unset).toArray = ls at hl ⊢
  exact zl_Mod_nearest B B0.returns B0.notSynchronized s.heap [] ls hP va_S.rf hl  hf
theorem zw_Mod_nearest {p : Program} {l : Launch} {e : Env} {R : Room} {s : State} {m : MethodId} {args : Array Value} {below : List Frame} {meth : Method} {c : Code} {H : Heap} {locs : List Loc} {cells slots : Nat} {Q : State → Prop} {cc : ByteArray} {pc nL : Nat} {ls : Array Slot} {rest st0 : List Value} {D : va_G} {cA : Nat → ClassId} {ad : Nat → Nat} {A : Nat → Prop} {X : IX} {Y : LX} {own : String} {index : Nat} {a1 : Int32} {v1 : Int32} (B : zu_B p s m args c cc nL own D cA ad A) (hP : va_P D zu_cl (zu_pic cA ad X Y) H) (hS : va_S A s.heap H locs) (hq : fn_Mod_nearest X a1 = some v1) (m1 : Cond.methodLink own index zm_Mod_nearest ∈ zu_TB) (hR1 : 2 + 1 ≤ R.frames) (hR2 : 8 + (7 + 11) + 43 ≤ R.locals) (hsz : ls.size = nL) (hst : st0 = .int a1 :: .ref (ad 95) :: rest) (hw : (rest.map fun v => v.category).sum ≤ 8) (hdg : decode cc pc = .ok (.invokevirtual index, 3)) (h00 : cells ≤ R.cells ∧ slots ≤ R.slots) (kk : ∀ (H1 : Heap) (locs1 : List Loc), va_P D zu_cl (zu_pic cA ad X Y) H1 → va_S A s.heap H1 locs1 → W p l e R s m args below meth c H1 locs1 cells slots Q (F0 m (pc + 3) ls (.int v1 :: rest))) : W p l e R s m args below meth c H locs cells slots Q (F0 m pc ls st0) := by
  subst hst
  exact zr_cVi (As := [.int a1]) (rest := rest) (n := 1) (C := "StonePostModel") (T := zt_Mod) (N := 23) B hP hS (zC_Mod_nearest l  hq) (K := 7) rfl (by decide) (by decide) rfl rfl m1 zq_1036 zqP_30 zq_8 zq_1037 (by decide +kernel) ⟨hR1, hR2⟩ rfl rfl rfl hsz rfl hw hdg h00 kk
