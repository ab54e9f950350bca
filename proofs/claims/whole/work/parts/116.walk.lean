abbrev zR_Mod_letterItem : Room := { frames := 5, cells := 0, slots := 0, locals := 113 }
theorem zd_Mod_letterItem_0 : decode zb_Mod_letterItem 0 = .ok (.aload_n 0, 1) := by decide +kernel
theorem zd_Mod_letterItem_1 : decode zb_Mod_letterItem 1 = .ok (.aload_n 0, 1) := by decide +kernel
theorem zd_Mod_letterItem_2 : decode zb_Mod_letterItem 2 = .ok (.invokevirtual 274, 3) := by decide +kernel
theorem zd_Mod_letterItem_5 : decode zb_Mod_letterItem 5 = .ok (.ldc2_w 321, 3) := by decide +kernel
theorem zd_Mod_letterItem_8 : decode zb_Mod_letterItem 8 = .ok (.lcmp, 1) := by decide +kernel
theorem zd_Mod_letterItem_9 : decode zb_Mod_letterItem 9 = .ok (.ifCond .ne 7, 3) := by decide +kernel
theorem zd_Mod_letterItem_12 : decode zb_Mod_letterItem 12 = .ok (.iconst 1, 1) := by decide +kernel
theorem zd_Mod_letterItem_13 : decode zb_Mod_letterItem 13 = .ok (.goto 4, 3) := by decide +kernel
theorem zd_Mod_letterItem_16 : decode zb_Mod_letterItem 16 = .ok (.iconst 0, 1) := by decide +kernel
theorem zd_Mod_letterItem_17 : decode zb_Mod_letterItem 17 = .ok (.invokevirtual 270, 3) := by decide +kernel
theorem zd_Mod_letterItem_20 : decode zb_Mod_letterItem 20 = .ok (.aload_n 0, 1) := by decide +kernel
theorem zd_Mod_letterItem_21 : decode zb_Mod_letterItem 21 = .ok (.getfield 256, 3) := by decide +kernel
theorem zd_Mod_letterItem_24 : decode zb_Mod_letterItem 24 = .ok (.ifCond .ne 10, 3) := by decide +kernel
theorem zd_Mod_letterItem_27 : decode zb_Mod_letterItem 27 = .ok (.aload_n 0, 1) := by decide +kernel
theorem zd_Mod_letterItem_28 : decode zb_Mod_letterItem 28 = .ok (.iconst 0, 1) := by decide +kernel
theorem zd_Mod_letterItem_29 : decode zb_Mod_letterItem 29 = .ok (.bipush 23, 2) := by decide +kernel
theorem zd_Mod_letterItem_31 : decode zb_Mod_letterItem 31 = .ok (.invokevirtual 300, 3) := by decide +kernel
theorem zd_Mod_letterItem_34 : decode zb_Mod_letterItem 34 = .ok (.aload_n 0, 1) := by decide +kernel
theorem zd_Mod_letterItem_35 : decode zb_Mod_letterItem 35 = .ok (.getfield 256, 3) := by decide +kernel
theorem zd_Mod_letterItem_38 : decode zb_Mod_letterItem 38 = .ok (.ifCond .ne 31, 3) := by decide +kernel
theorem zd_Mod_letterItem_41 : decode zb_Mod_letterItem 41 = .ok (.aload_n 0, 1) := by decide +kernel
theorem zd_Mod_letterItem_42 : decode zb_Mod_letterItem 42 = .ok (.getfield 7, 3) := by decide +kernel
theorem zd_Mod_letterItem_45 : decode zb_Mod_letterItem 45 = .ok (.bipush 120, 2) := by decide +kernel
theorem zd_Mod_letterItem_47 : decode zb_Mod_letterItem 47 = .ok (.aload_n 0, 1) := by decide +kernel
theorem zd_Mod_letterItem_48 : decode zb_Mod_letterItem 48 = .ok (.getfield 7, 3) := by decide +kernel
theorem zd_Mod_letterItem_51 : decode zb_Mod_letterItem 51 = .ok (.iconst 2, 1) := by decide +kernel
theorem zd_Mod_letterItem_52 : decode zb_Mod_letterItem 52 = .ok (.iaload, 1) := by decide +kernel
theorem zd_Mod_letterItem_53 : decode zb_Mod_letterItem 53 = .ok (.iadd, 1) := by decide +kernel
theorem zd_Mod_letterItem_54 : decode zb_Mod_letterItem 54 = .ok (.aload_n 0, 1) := by decide +kernel
theorem zd_Mod_letterItem_55 : decode zb_Mod_letterItem 55 = .ok (.getfield 267, 3) := by decide +kernel
theorem zd_Mod_letterItem_58 : decode zb_Mod_letterItem 58 = .ok (.iastore, 1) := by decide +kernel
theorem zd_Mod_letterItem_59 : decode zb_Mod_letterItem 59 = .ok (.aload_n 0, 1) := by decide +kernel
theorem zd_Mod_letterItem_60 : decode zb_Mod_letterItem 60 = .ok (.getfield 7, 3) := by decide +kernel
theorem zd_Mod_letterItem_63 : decode zb_Mod_letterItem 63 = .ok (.iconst 2, 1) := by decide +kernel
theorem zd_Mod_letterItem_64 : decode zb_Mod_letterItem 64 = .ok (.dup2, 1) := by decide +kernel
theorem zd_Mod_letterItem_65 : decode zb_Mod_letterItem 65 = .ok (.iaload, 1) := by decide +kernel
theorem zd_Mod_letterItem_66 : decode zb_Mod_letterItem 66 = .ok (.iconst 1, 1) := by decide +kernel
theorem zd_Mod_letterItem_67 : decode zb_Mod_letterItem 67 = .ok (.iadd, 1) := by decide +kernel
theorem zd_Mod_letterItem_68 : decode zb_Mod_letterItem 68 = .ok (.iastore, 1) := by decide +kernel
theorem zd_Mod_letterItem_69 : decode zb_Mod_letterItem 69 = .ok (.return_, 1) := by decide +kernel
set_option maxHeartbeats 4000000 in
theorem zl_Mod_letterItem_L69 {p : Program} {l : Launch} {e : Env} {s : State} {m : MethodId} {args : Array Value} {below : List Frame} {meth : Method} {c : Code} {D : va_G} {cA : Nat → ClassId} {ad : Nat → Nat} {A : Nat → Prop} (B : zu_B p s m args c zb_Mod_letterItem 1 "StonePostModel" D cA ad A) (hret : meth.sig.returnType = none) (hlk : meth.locks = false) {Y : LX} {res : IX} (X : IX) (H : Heap) (locs : List Loc) (ls : Array Slot) (hP : va_P D zu_cl (zu_pic cA ad X Y) H) (hS : va_S A s.heap H locs) (hl : lv_has ls 1 []) (hf : fn_Mod_letterItem_L69 X = some res) : W p l e zR_Mod_letterItem s m args below meth c H locs 0 0 (MQ below (zu_Qv D cA ad A res Y) args s 0 0 A) (F0 m 69 ls []) := by
  obtain ⟨hx, hb, hml, hown, hts, hST⟩ := id B
  unfold fn_Mod_letterItem_L69 at hf
  obtain rfl := Option.some.inj hf
  exact zr_vret hx hb hret hlk hP hS zd_Mod_letterItem_69
set_option maxHeartbeats 4000000 in
theorem zl_Mod_letterItem_L34 {p : Program} {l : Launch} {e : Env} {s : State} {m : MethodId} {args : Array Value} {below : List Frame} {meth : Method} {c : Code} {D : va_G} {cA : Nat → ClassId} {ad : Nat → Nat} {A : Nat → Prop} (B : zu_B p s m args c zb_Mod_letterItem 1 "StonePostModel" D cA ad A) (hret : meth.sig.returnType = none) (hlk : meth.locks = false) {Y : LX} {res : IX} (X : IX) (H : Heap) (locs : List Loc) (ls : Array Slot) (hP : va_P D zu_cl (zu_pic cA ad X Y) H) (hS : va_S A s.heap H locs) (hl : lv_has ls 1 [(0, .ref (ad 95))]) (hf : fn_Mod_letterItem_L34 X = some res) : W p l e zR_Mod_letterItem s m args below meth c H locs 0 0 (MQ below (zu_Qv D cA ad A res Y) args s 0 0 A) (F0 m 34 ls []) := by
  obtain ⟨hx, hb, hml, hown, hts, hST⟩ := id B
  unfold fn_Mod_letterItem_L34 at hf
  refine lv_aload_n hx hb zd_Mod_letterItem_34 rfl (lv_at hl 0 rfl) ?_
  refine zg_Mod_isWrong B hP rfl zq_879 zd_Mod_letterItem_35 ?_
  refine lv_if_ne (tgt := 69) hx hb zd_Mod_letterItem_38 (by decide) (fun c9 => ?_) (fun c9 => ?_)
  · have hf := zu_f c9 hf
    exact zl_Mod_letterItem_L69 B hret hlk X _ _ _ hP hS (lv_sub hl [] rfl) hf
  · have hf := zu_t c9 hf
    refine lv_aload_n hx hb zd_Mod_letterItem_41 rfl (lv_at hl 0 rfl) ?_
    refine zg_Mod_s B hP rfl zq_861 zd_Mod_letterItem_42 ?_
    refine lv_bipush (v := 120) hx hb zd_Mod_letterItem_45 (by decide) ?_
    refine lv_aload_n hx hb zd_Mod_letterItem_47 rfl (lv_at hl 0 rfl) ?_
    refine zg_Mod_s B hP rfl zq_861 zd_Mod_letterItem_48 ?_
    refine lv_iconst (v := 2) hx hb zd_Mod_letterItem_51 (by decide) ?_
    refine zr_iald (j := 2) (by decide) B hP rfl (by decide) rfl (by decide) zd_Mod_letterItem_52 ?_
    refine lv_iadd hx hb zd_Mod_letterItem_53 ?_
    refine lv_aload_n hx hb zd_Mod_letterItem_54 rfl (lv_at hl 0 rfl) ?_
    refine zg_Mod_value B hP rfl zq_878 zd_Mod_letterItem_55 ?_
    obtain ⟨hg10, hf⟩ := zu_gd_e hf
    refine zr_iast rfl B hP hS hf rfl (by decide) rfl hg10 zd_Mod_letterItem_58 (fun X11 H locs hf hP hS => ?_)
    refine lv_aload_n hx hb zd_Mod_letterItem_59 rfl (lv_at hl 0 rfl) ?_
    refine zg_Mod_s B hP rfl zq_861 zd_Mod_letterItem_60 ?_
    refine lv_iconst (v := 2) hx hb zd_Mod_letterItem_63 (by decide) ?_
    refine lv_dup2_11 hx hb zd_Mod_letterItem_64 rfl rfl ?_
    refine zr_iald (j := 2) (by decide) B hP rfl (by decide) rfl (by decide) zd_Mod_letterItem_65 ?_
    refine lv_iconst (v := 1) hx hb zd_Mod_letterItem_66 (by decide) ?_
    refine lv_iadd hx hb zd_Mod_letterItem_67 ?_
    refine zr_iast (j := 2) (by decide) B hP hS hf rfl (by decide) rfl (by decide) zd_Mod_letterItem_68 (fun X12 H locs hf hP hS => ?_)
    exact zl_Mod_letterItem_L69 B hret hlk X12 _ _ _ hP hS (lv_sub hl [] rfl) hf
set_option maxHeartbeats 4000000 in
theorem zl_Mod_letterItem_L17 {p : Program} {l : Launch} {e : Env} {s : State} {m : MethodId} {args : Array Value} {below : List Frame} {meth : Method} {c : Code} {D : va_G} {cA : Nat → ClassId} {ad : Nat → Nat} {A : Nat → Prop} (B : zu_B p s m args c zb_Mod_letterItem 1 "StonePostModel" D cA ad A) (hret : meth.sig.returnType = none) (hlk : meth.locks = false) {Y : LX} {res : IX} (y0 : Int32) (X : IX) (H : Heap) (locs : List Loc) (ls : Array Slot) (hP : va_P D zu_cl (zu_pic cA ad X Y) H) (hS : va_S A s.heap H locs) (hl : lv_has ls 1 [(0, .ref (ad 95))]) (hf : fn_Mod_letterItem_L17 y0 X = some res) : W p l e zR_Mod_letterItem s m args below meth c H locs 0 0 (MQ below (zu_Qv D cA ad A res Y) args s 0 0 A) (F0 m 17 ls [.int y0, .ref (ad 95)]) := by
  obtain ⟨hx, hb, hml, hown, hts, hST⟩ := id B
  unfold fn_Mod_letterItem_L17 at hf
  obtain ⟨X4, hq5, hf⟩ := zu_b1_e hf
  refine zw_Mod_needs (rest := []) B hP hS hq5 zq_1293 (Nat.le_of_ble_eq_true rfl) (Nat.le_of_ble_eq_true rfl) hl.1 rfl (Nat.le_of_ble_eq_true rfl) zd_Mod_letterItem_17 (by decide) (fun H locs hP hS => ?_)
  clear hq5
  refine lv_aload_n hx hb zd_Mod_letterItem_20 rfl (lv_at hl 0 rfl) ?_
  refine zg_Mod_isWrong B hP rfl zq_879 zd_Mod_letterItem_21 ?_
  refine lv_if_ne (tgt := 34) hx hb zd_Mod_letterItem_24 (by decide) (fun c6 => ?_) (fun c6 => ?_)
  · have hf := zu_f c6 hf
    exact zl_Mod_letterItem_L34 B hret hlk X4 _ _ _ hP hS (lv_sub hl [0] rfl) hf
  · have hf := zu_t c6 hf
    refine lv_aload_n hx hb zd_Mod_letterItem_27 rfl (lv_at hl 0 rfl) ?_
    refine lv_iconst (v := 0) hx hb zd_Mod_letterItem_28 (by decide) ?_
    refine lv_bipush (v := 23) hx hb zd_Mod_letterItem_29 (by decide) ?_
    obtain ⟨X7, hq8, hf⟩ := zu_b1_e hf
    refine zw_Mod_number (rest := []) B hP hS hq8 zq_1297 (Nat.le_of_ble_eq_true rfl) (Nat.le_of_ble_eq_true rfl) hl.1 rfl (Nat.le_of_ble_eq_true rfl) zd_Mod_letterItem_31 (by decide) (fun H locs hP hS => ?_)
    clear hq8
    exact zl_Mod_letterItem_L34 B hret hlk X7 _ _ _ hP hS (lv_sub hl [0] rfl) hf
set_option maxHeartbeats 4000000 in
theorem zl_Mod_letterItem {p : Program} {l : Launch} {e : Env} {s : State} {m : MethodId} {args : Array Value} {below : List Frame} {meth : Method} {c : Code} {D : va_G} {cA : Nat → ClassId} {ad : Nat → Nat} {A : Nat → Prop} (B : zu_B p s m args c zb_Mod_letterItem 1 "StonePostModel" D cA ad A) (hret : meth.sig.returnType = none) (hlk : meth.locks = false) {Y : LX} {res : IX} {X : IX} (H : Heap) (locs : List Loc) (ls : Array Slot) (hP : va_P D zu_cl (zu_pic cA ad X Y) H) (hS : va_S A s.heap H locs) (hl : lv_has ls 1 [(0, .ref (ad 95))]) (hf : fn_Mod_letterItem X = some res) : W p l e zR_Mod_letterItem s m args below meth c H locs 0 0 (MQ below (zu_Qv D cA ad A res Y) args s 0 0 A) (F0 m 0 ls []) := by
  obtain ⟨hx, hb, hml, hown, hts, hST⟩ := id B
  unfold fn_Mod_letterItem at hf
  refine lv_aload_n hx hb zd_Mod_letterItem_0 rfl (lv_at hl 0 rfl) ?_
  refine lv_aload_n hx hb zd_Mod_letterItem_1 rfl (lv_at hl 0 rfl) ?_
  obtain ⟨v1, hq2, hf⟩ := zu_b1_e hf
  refine zw_Mod_word (rest := [.ref (ad 95)]) B hP hS hq2 zq_1268 (Nat.le_of_ble_eq_true rfl) (Nat.le_of_ble_eq_true rfl) hl.1 rfl (Nat.le_of_ble_eq_true rfl) zd_Mod_letterItem_2 (by decide) (fun H locs hP hS => ?_)
  clear hq2
  refine lv_ldc2 (v := 408572082) hx hb hown (hts _ zq_1325) zd_Mod_letterItem_5 ?_
  refine W.lcmp hx hb zd_Mod_letterItem_8 ?_
  refine lv_if_ne (tgt := 16) hx hb zd_Mod_letterItem_9 (by decide) (fun c3 => ?_) (fun c3 => ?_)
  · have hf := zu_f c3 hf
    refine lv_iconst (v := 0) hx hb zd_Mod_letterItem_16 (by decide) ?_
    exact zl_Mod_letterItem_L17 B hret hlk (0 : Int32) X _ _ _ hP hS (lv_sub hl [0] rfl) hf
  · have hf := zu_t c3 hf
    refine lv_iconst (v := 1) hx hb zd_Mod_letterItem_12 (by decide) ?_
    refine lv_goto (tgt := 17) hx hb zd_Mod_letterItem_13 (by decide) ?_
    exact zl_Mod_letterItem_L17 B hret hlk (1 : Int32) X _ _ _ hP hS (lv_sub hl [0] rfl) hf
theorem zC_Mod_letterItem (l : Launch) {D : va_G} {cA : Nat → ClassId} {ad : Nat → Nat} {A : Nat → Prop} {X : IX} {Y : LX} {res : IX} (hf : fn_Mod_letterItem X = some res) : Met l zm_Mod_letterItem (zu_ws zm_Mod_letterItem zb_Mod_letterItem 1 none) zR_Mod_letterItem (va_Pc [.ref (ad 95)] (zu_Pre D cA ad A X Y)) (zu_Qv D cA ad A res Y) 0 0 A := by
  refine Met.ofW (cc := zb_Mod_letterItem) (maxL := 1) (ret := none) (by decide +kernel) rfl ?_
  intro p e s m args below meth c s₁ B0 hml hv
  obtain ⟨rfl, hP, hST⟩ := hv
  have B : zu_B p s m _ c zb_Mod_letterItem 1 "StonePostModel" D cA ad A := ⟨B0.exec, B0.bytes, hml, findClass_of_methodNamed B0.named, (fun w hw => atoms_spec (ws := zu_ws zm_Mod_letterItem zb_Mod_letterItem 1 none) B0.pre w (List.mem_cons_of_mem _ hw)), hST⟩
  have hl := lv_entry ([.ref (ad 95)]) (n := 1) (Nat.le_of_ble_eq_true rfl)
  rw [lg_entry_eq]
  generalize (lg_sl ([.ref (ad 95)]) ++ List.replicate (1 - (lg_sl ([.ref (ad 95)])).length) Slot.unset).toArray = ls at hl ⊢
  exact zl_Mod_letterItem B B0.returns B0.notSynchronized s.heap [] ls hP va_S.rf hl  hf
theorem zw_Mod_letterItem {p : Program} {l : Launch} {e : Env} {R : Room} {s : State} {m : MethodId} {args : Array Value} {below : List Frame} {meth : Method} {c : Code} {H : Heap} {locs : List Loc} {cells slots : Nat} {Q : State → Prop} {cc : ByteArray} {pc nL : Nat} {ls : Array Slot} {rest st0 : List Value} {D : va_G} {cA : Nat → ClassId} {ad : Nat → Nat} {A : Nat → Prop} {X : IX} {Y : LX} {own : String} {index : Nat} {X1 : IX} (B : zu_B p s m args c cc nL own D cA ad A) (hP : va_P D zu_cl (zu_pic cA ad X Y) H) (hS : va_S A s.heap H locs) (hq : fn_Mod_letterItem X = some X1) (m1 : Cond.methodLink own index zm_Mod_letterItem ∈ zu_TB) (hR1 : 5 + 1 ≤ R.frames) (hR2 : 8 + (1 + 11) + 113 ≤ R.locals) (hsz : ls.size = nL) (hst : st0 = .ref (ad 95) :: rest) (hw : (rest.map fun v => v.category).sum ≤ 8) (hdg : decode cc pc = .ok (.invokevirtual index, 3)) (h00 : cells ≤ R.cells ∧ slots ≤ R.slots) (kk : ∀ (H1 : Heap) (locs1 : List Loc), va_P D zu_cl (zu_pic cA ad X1 Y) H1 → va_S A s.heap H1 locs1 → W p l e R s m args below meth c H1 locs1 cells slots Q (F0 m (pc + 3) ls (rest))) : W p l e R s m args below meth c H locs cells slots Q (F0 m pc ls st0) := by
  subst hst
  exact zr_cVv (As := []) (rest := rest) (n := 0) (C := "StonePostModel") (T := zt_Mod) (N := 23) B hP hS (zC_Mod_letterItem l  hq) (K := 7) rfl (by decide) (by decide) rfl rfl m1 zq_1323 zqP_61 zq_8 zq_1324 (by decide +kernel) ⟨hR1, hR2⟩ rfl rfl rfl hsz rfl hw hdg h00 kk
abbrev zR_Mod_item : Room := { frames := 7, cells := 0, slots := 0, locals := 164 }
theorem zd_Mod_item_0 : decode zb_Mod_item 0 = .ok (.aload_n 0, 1) := by decide +kernel
theorem zd_Mod_item_1 : decode zb_Mod_item 1 = .ok (.invokevirtual 323, 3) := by decide +kernel
theorem zd_Mod_item_4 : decode zb_Mod_item 4 = .ok (.istore_n 1, 1) := by decide +kernel
theorem zd_Mod_item_5 : decode zb_Mod_item 5 = .ok (.aload_n 0, 1) := by decide +kernel
theorem zd_Mod_item_6 : decode zb_Mod_item 6 = .ok (.invokevirtual 326, 3) := by decide +kernel
theorem zd_Mod_item_9 : decode zb_Mod_item 9 = .ok (.istore_n 2, 1) := by decide +kernel
theorem zd_Mod_item_10 : decode zb_Mod_item 10 = .ok (.iload_n 1, 1) := by decide +kernel
theorem zd_Mod_item_11 : decode zb_Mod_item 11 = .ok (.ifCond .lt 11, 3) := by decide +kernel
theorem zd_Mod_item_14 : decode zb_Mod_item 14 = .ok (.aload_n 0, 1) := by decide +kernel
theorem zd_Mod_item_15 : decode zb_Mod_item 15 = .ok (.iload_n 1, 1) := by decide +kernel
theorem zd_Mod_item_16 : decode zb_Mod_item 16 = .ok (.invokevirtual 329, 3) := by decide +kernel
theorem zd_Mod_item_19 : decode zb_Mod_item 19 = .ok (.goto 96, 3) := by decide +kernel
theorem zd_Mod_item_22 : decode zb_Mod_item 22 = .ok (.iload_n 2, 1) := by decide +kernel
theorem zd_Mod_item_23 : decode zb_Mod_item 23 = .ok (.ifCond .lt 11, 3) := by decide +kernel
theorem zd_Mod_item_26 : decode zb_Mod_item 26 = .ok (.aload_n 0, 1) := by decide +kernel
theorem zd_Mod_item_27 : decode zb_Mod_item 27 = .ok (.iload_n 2, 1) := by decide +kernel
theorem zd_Mod_item_28 : decode zb_Mod_item 28 = .ok (.invokevirtual 332, 3) := by decide +kernel
theorem zd_Mod_item_31 : decode zb_Mod_item 31 = .ok (.goto 84, 3) := by decide +kernel
theorem zd_Mod_item_34 : decode zb_Mod_item 34 = .ok (.aload_n 0, 1) := by decide +kernel
theorem zd_Mod_item_35 : decode zb_Mod_item 35 = .ok (.invokevirtual 274, 3) := by decide +kernel
theorem zd_Mod_item_38 : decode zb_Mod_item 38 = .ok (.ldc2_w 335, 3) := by decide +kernel
theorem zd_Mod_item_41 : decode zb_Mod_item 41 = .ok (.lcmp, 1) := by decide +kernel
theorem zd_Mod_item_42 : decode zb_Mod_item 42 = .ok (.ifCond .ne 21, 3) := by decide +kernel
theorem zd_Mod_item_45 : decode zb_Mod_item 45 = .ok (.aload_n 0, 1) := by decide +kernel
theorem zd_Mod_item_46 : decode zb_Mod_item 46 = .ok (.getfield 7, 3) := by decide +kernel
theorem zd_Mod_item_49 : decode zb_Mod_item 49 = .ok (.iconst 3, 1) := by decide +kernel
theorem zd_Mod_item_50 : decode zb_Mod_item 50 = .ok (.aload_n 0, 1) := by decide +kernel
theorem zd_Mod_item_51 : decode zb_Mod_item 51 = .ok (.iconst 1, 1) := by decide +kernel
theorem zd_Mod_item_52 : decode zb_Mod_item 52 = .ok (.iconst 0, 1) := by decide +kernel
theorem zd_Mod_item_53 : decode zb_Mod_item 53 = .ok (.bipush 23, 2) := by decide +kernel
theorem zd_Mod_item_55 : decode zb_Mod_item 55 = .ok (.iconst 0, 1) := by decide +kernel
theorem zd_Mod_item_56 : decode zb_Mod_item 56 = .ok (.invokevirtual 304, 3) := by decide +kernel
theorem zd_Mod_item_59 : decode zb_Mod_item 59 = .ok (.iastore, 1) := by decide +kernel
theorem zd_Mod_item_60 : decode zb_Mod_item 60 = .ok (.goto 55, 3) := by decide +kernel
theorem zd_Mod_item_63 : decode zb_Mod_item 63 = .ok (.aload_n 0, 1) := by decide +kernel
theorem zd_Mod_item_64 : decode zb_Mod_item 64 = .ok (.invokevirtual 274, 3) := by decide +kernel
theorem zd_Mod_item_67 : decode zb_Mod_item 67 = .ok (.ldc2_w 337, 3) := by decide +kernel
theorem zd_Mod_item_70 : decode zb_Mod_item 70 = .ok (.lcmp, 1) := by decide +kernel
theorem zd_Mod_item_71 : decode zb_Mod_item 71 = .ok (.ifCond .ne 21, 3) := by decide +kernel
theorem zd_Mod_item_74 : decode zb_Mod_item 74 = .ok (.aload_n 0, 1) := by decide +kernel
theorem zd_Mod_item_75 : decode zb_Mod_item 75 = .ok (.getfield 7, 3) := by decide +kernel
theorem zd_Mod_item_78 : decode zb_Mod_item 78 = .ok (.iconst 4, 1) := by decide +kernel
theorem zd_Mod_item_79 : decode zb_Mod_item 79 = .ok (.aload_n 0, 1) := by decide +kernel
theorem zd_Mod_item_80 : decode zb_Mod_item 80 = .ok (.iconst 1, 1) := by decide +kernel
theorem zd_Mod_item_81 : decode zb_Mod_item 81 = .ok (.iconst 0, 1) := by decide +kernel
theorem zd_Mod_item_82 : decode zb_Mod_item 82 = .ok (.bipush 9, 2) := by decide +kernel
theorem zd_Mod_item_84 : decode zb_Mod_item 84 = .ok (.iconst 0, 1) := by decide +kernel
theorem zd_Mod_item_85 : decode zb_Mod_item 85 = .ok (.invokevirtual 304, 3) := by decide +kernel
theorem zd_Mod_item_88 : decode zb_Mod_item 88 = .ok (.iastore, 1) := by decide +kernel
theorem zd_Mod_item_89 : decode zb_Mod_item 89 = .ok (.goto 26, 3) := by decide +kernel
theorem zd_Mod_item_92 : decode zb_Mod_item 92 = .ok (.aload_n 0, 1) := by decide +kernel
theorem zd_Mod_item_93 : decode zb_Mod_item 93 = .ok (.getfield 7, 3) := by decide +kernel
theorem zd_Mod_item_96 : decode zb_Mod_item 96 = .ok (.iconst 2, 1) := by decide +kernel
theorem zd_Mod_item_97 : decode zb_Mod_item 97 = .ok (.iaload, 1) := by decide +kernel
theorem zd_Mod_item_98 : decode zb_Mod_item 98 = .ok (.bipush 12, 2) := by decide +kernel
theorem zd_Mod_item_100 : decode zb_Mod_item 100 = .ok (.if_icmp .ne 11, 3) := by decide +kernel
theorem zd_Mod_item_103 : decode zb_Mod_item 103 = .ok (.aload_n 0, 1) := by decide +kernel
theorem zd_Mod_item_104 : decode zb_Mod_item 104 = .ok (.iconst 0, 1) := by decide +kernel
theorem zd_Mod_item_105 : decode zb_Mod_item 105 = .ok (.invokevirtual 270, 3) := by decide +kernel
theorem zd_Mod_item_108 : decode zb_Mod_item 108 = .ok (.goto 7, 3) := by decide +kernel
theorem zd_Mod_item_111 : decode zb_Mod_item 111 = .ok (.aload_n 0, 1) := by decide +kernel
theorem zd_Mod_item_112 : decode zb_Mod_item 112 = .ok (.invokevirtual 339, 3) := by decide +kernel
theorem zd_Mod_item_115 : decode zb_Mod_item 115 = .ok (.return_, 1) := by decide +kernel
set_option maxHeartbeats 4000000 in
theorem zl_Mod_item_L115 {p : Program} {l : Launch} {e : Env} {s : State} {m : MethodId} {args : Array Value} {below : List Frame} {meth : Method} {c : Code} {D : va_G} {cA : Nat → ClassId} {ad : Nat → Nat} {A : Nat → Prop} (B : zu_B p s m args c zb_Mod_item 3 "StonePostModel" D cA ad A) (hret : meth.sig.returnType = none) (hlk : meth.locks = false) {Y : LX} {res : IX} (X : IX) (H : Heap) (locs : List Loc) (ls : Array Slot) (hP : va_P D zu_cl (zu_pic cA ad X Y) H) (hS : va_S A s.heap H locs) (hl : lv_has ls 3 []) (hf : fn_Mod_item_L115 X = some res) : W p l e zR_Mod_item s m args below meth c H locs 0 0 (MQ below (zu_Qv D cA ad A res Y) args s 0 0 A) (F0 m 115 ls []) := by
  obtain ⟨hx, hb, hml, hown, hts, hST⟩ := id B
  unfold fn_Mod_item_L115 at hf
  obtain rfl := Option.some.inj hf
  exact zr_vret hx hb hret hlk hP hS zd_Mod_item_115
set_option maxHeartbeats 4000000 in
theorem zl_Mod_item {p : Program} {l : Launch} {e : Env} {s : State} {m : MethodId} {args : Array Value} {below : List Frame} {meth : Method} {c : Code} {D : va_G} {cA : Nat → ClassId} {ad : Nat → Nat} {A : Nat → Prop} (B : zu_B p s m args c zb_Mod_item 3 "StonePostModel" D cA ad A) (hret : meth.sig.returnType = none) (hlk : meth.locks = false) {Y : LX} {res : IX} {X : IX} (H : Heap) (locs : List Loc) (ls : Array Slot) (hP : va_P D zu_cl (zu_pic cA ad X Y) H) (hS : va_S A s.heap H locs) (hl : lv_has ls 3 [(0, .ref (ad 95))]) (hf : fn_Mod_item X = some res) : W p l e zR_Mod_item s m args below meth c H locs 0 0 (MQ below (zu_Qv D cA ad A res Y) args s 0 0 A) (F0 m 0 ls []) := by
  obtain ⟨hx, hb, hml, hown, hts, hST⟩ := id B
  unfold fn_Mod_item at hf
  refine lv_aload_n hx hb zd_Mod_item_0 rfl (lv_at hl 0 rfl) ?_
  obtain ⟨v1, hq2, hf⟩ := zu_b1_e hf
  refine zw_Mod_stuffHere (rest := []) B hP hS hq2 zq_1264 (Nat.le_of_ble_eq_true rfl) (Nat.le_of_ble_eq_true rfl) hl.1 rfl (Nat.le_of_ble_eq_true rfl) zd_Mod_item_1 (by decide) (fun H locs hP hS => ?_)
  clear hq2
  refine lv_istore_n (lv' := [(1, .int v1), (0, .ref (ad 95))]) hx hb zd_Mod_item_4 rfl hl (by decide) rfl (fun ls hl => ?_)
  refine lv_aload_n hx hb zd_Mod_item_5 rfl (lv_at hl 1 rfl) ?_
  obtain ⟨v3, hq4, hf⟩ := zu_b1_e hf
  refine zw_Mod_kindHere (rest := []) B hP hS hq4 zq_1278 (Nat.le_of_ble_eq_true rfl) (Nat.le_of_ble_eq_true rfl) hl.1 rfl (Nat.le_of_ble_eq_true rfl) zd_Mod_item_6 (by decide) (fun H locs hP hS => ?_)
  clear hq4
  refine lv_istore_n (lv' := [(2, .int v3), (1, .int v1), (0, .ref (ad 95))]) hx hb zd_Mod_item_9 rfl hl (by decide) rfl (fun ls hl => ?_)
  refine lv_iload_n hx hb zd_Mod_item_10 rfl (lv_at hl 1 rfl) ?_
  refine lv_if_lt (tgt := 22) hx hb zd_Mod_item_11 (by decide) (fun c5 => ?_) (fun c5 => ?_)
  · have hf := zu_t c5 hf
    refine lv_iload_n hx hb zd_Mod_item_22 rfl (lv_at hl 0 rfl) ?_
    refine lv_if_lt (tgt := 34) hx hb zd_Mod_item_23 (by decide) (fun c6 => ?_) (fun c6 => ?_)
    · have hf := zu_t c6 hf
      refine lv_aload_n hx hb zd_Mod_item_34 rfl (lv_at hl 2 rfl) ?_
      obtain ⟨v7, hq8, hf⟩ := zu_b1_e hf
      refine zw_Mod_word (rest := []) B hP hS hq8 zq_1268 (Nat.le_of_ble_eq_true rfl) (Nat.le_of_ble_eq_true rfl) hl.1 rfl (Nat.le_of_ble_eq_true rfl) zd_Mod_item_35 (by decide) (fun H locs hP hS => ?_)
      clear hq8
      refine lv_ldc2 (v := 277925) hx hb hown (hts _ zq_1319) zd_Mod_item_38 ?_
      refine W.lcmp hx hb zd_Mod_item_41 ?_
      refine lv_if_ne (tgt := 63) hx hb zd_Mod_item_42 (by decide) (fun c9 => ?_) (fun c9 => ?_)
      · have hf := zu_f c9 hf
        refine lv_aload_n hx hb zd_Mod_item_63 rfl (lv_at hl 2 rfl) ?_
        obtain ⟨v10, hq11, hf⟩ := zu_b1_e hf
        refine zw_Mod_word (rest := []) B hP hS hq11 zq_1268 (Nat.le_of_ble_eq_true rfl) (Nat.le_of_ble_eq_true rfl) hl.1 rfl (Nat.le_of_ble_eq_true rfl) zd_Mod_item_64 (by decide) (fun H locs hP hS => ?_)
        clear hq11
        refine lv_ldc2 (v := 6475880) hx hb hown (hts _ zq_1320) zd_Mod_item_67 ?_
        refine W.lcmp hx hb zd_Mod_item_70 ?_
        refine lv_if_ne (tgt := 92) hx hb zd_Mod_item_71 (by decide) (fun c12 => ?_) (fun c12 => ?_)
        · have hf := zu_f c12 hf
          refine lv_aload_n hx hb zd_Mod_item_92 rfl (lv_at hl 2 rfl) ?_
          refine zg_Mod_s B hP rfl zq_861 zd_Mod_item_93 ?_
          refine lv_iconst (v := 2) hx hb zd_Mod_item_96 (by decide) ?_
          refine zr_iald (j := 2) (by decide) B hP rfl (by decide) rfl (by decide) zd_Mod_item_97 ?_
          refine lv_bipush (v := 12) hx hb zd_Mod_item_98 (by decide) ?_
          refine lv_icmp_ne (tgt := 111) hx hb zd_Mod_item_100 (by decide) (fun c13 => ?_) (fun c13 => ?_)
          · have hf := zu_f c13 hf
            refine lv_aload_n hx hb zd_Mod_item_111 rfl (lv_at hl 2 rfl) ?_
            obtain ⟨X14, hq15, hf⟩ := zu_b1_e hf
            refine zw_Mod_letterItem (rest := []) B hP hS hq15 zq_1321 (Nat.le_of_ble_eq_true rfl) (Nat.le_of_ble_eq_true rfl) hl.1 rfl (Nat.le_of_ble_eq_true rfl) zd_Mod_item_112 (by decide) (fun H locs hP hS => ?_)
            clear hq15
            exact zl_Mod_item_L115 B hret hlk X14 _ _ _ hP hS (lv_sub hl [] rfl) hf
          · have hf := zu_t c13 hf
            refine lv_aload_n hx hb zd_Mod_item_103 rfl (lv_at hl 2 rfl) ?_
            refine lv_iconst (v := 0) hx hb zd_Mod_item_104 (by decide) ?_
            obtain ⟨X16, hq17, hf⟩ := zu_b1_e hf
            refine zw_Mod_needs (rest := []) B hP hS hq17 zq_1293 (Nat.le_of_ble_eq_true rfl) (Nat.le_of_ble_eq_true rfl) hl.1 rfl (Nat.le_of_ble_eq_true rfl) zd_Mod_item_105 (by decide) (fun H locs hP hS => ?_)
            clear hq17
            refine lv_goto (tgt := 115) hx hb zd_Mod_item_108 (by decide) ?_
            exact zl_Mod_item_L115 B hret hlk X16 _ _ _ hP hS (lv_sub hl [] rfl) hf
        · have hf := zu_t c12 hf
          refine lv_aload_n hx hb zd_Mod_item_74 rfl (lv_at hl 2 rfl) ?_
          refine zg_Mod_s B hP rfl zq_861 zd_Mod_item_75 ?_
          refine lv_iconst (v := 4) hx hb zd_Mod_item_78 (by decide) ?_
          refine lv_aload_n hx hb zd_Mod_item_79 rfl (lv_at hl 2 rfl) ?_
          refine lv_iconst (v := 1) hx hb zd_Mod_item_80 (by decide) ?_
          refine lv_iconst (v := 0) hx hb zd_Mod_item_81 (by decide) ?_
          refine lv_bipush (v := 9) hx hb zd_Mod_item_82 (by decide) ?_
          refine lv_iconst (v := 0) hx hb zd_Mod_item_84 (by decide) ?_
          obtain ⟨v18, X19, hq20, hf⟩ := zu_b2_e hf
          refine zw_Mod_perhaps (rest := [.int (4 : Int32), .ref (ad 96)]) B hP hS hq20 zq_1302 (Nat.le_of_ble_eq_true rfl) (Nat.le_of_ble_eq_true rfl) hl.1 rfl (Nat.le_of_ble_eq_true rfl) zd_Mod_item_85 (by decide) (fun H locs hP hS => ?_)
          clear hq20
          refine zr_iast (j := 4) (by decide) B hP hS hf rfl (by decide) rfl (by decide) zd_Mod_item_88 (fun X21 H locs hf hP hS => ?_)
          refine lv_goto (tgt := 115) hx hb zd_Mod_item_89 (by decide) ?_
          exact zl_Mod_item_L115 B hret hlk X21 _ _ _ hP hS (lv_sub hl [] rfl) hf
      · have hf := zu_t c9 hf
        refine lv_aload_n hx hb zd_Mod_item_45 rfl (lv_at hl 2 rfl) ?_
        refine zg_Mod_s B hP rfl zq_861 zd_Mod_item_46 ?_
        refine lv_iconst (v := 3) hx hb zd_Mod_item_49 (by decide) ?_
        refine lv_aload_n hx hb zd_Mod_item_50 rfl (lv_at hl 2 rfl) ?_
        refine lv_iconst (v := 1) hx hb zd_Mod_item_51 (by decide) ?_
        refine lv_iconst (v := 0) hx hb zd_Mod_item_52 (by decide) ?_
        refine lv_bipush (v := 23) hx hb zd_Mod_item_53 (by decide) ?_
        refine lv_iconst (v := 0) hx hb zd_Mod_item_55 (by decide) ?_
        obtain ⟨v22, X23, hq24, hf⟩ := zu_b2_e hf
        refine zw_Mod_perhaps (rest := [.int (3 : Int32), .ref (ad 96)]) B hP hS hq24 zq_1302 (Nat.le_of_ble_eq_true rfl) (Nat.le_of_ble_eq_true rfl) hl.1 rfl (Nat.le_of_ble_eq_true rfl) zd_Mod_item_56 (by decide) (fun H locs hP hS => ?_)
        clear hq24
        refine zr_iast (j := 3) (by decide) B hP hS hf rfl (by decide) rfl (by decide) zd_Mod_item_59 (fun X25 H locs hf hP hS => ?_)
        refine lv_goto (tgt := 115) hx hb zd_Mod_item_60 (by decide) ?_
        exact zl_Mod_item_L115 B hret hlk X25 _ _ _ hP hS (lv_sub hl [] rfl) hf
    · have hf := zu_f c6 hf
      refine lv_aload_n hx hb zd_Mod_item_26 rfl (lv_at hl 2 rfl) ?_
      refine lv_iload_n hx hb zd_Mod_item_27 rfl (lv_at hl 0 rfl) ?_
      obtain ⟨X26, hq27, hf⟩ := zu_b1_e hf
      refine zw_Mod_throwerItem (rest := []) B hP hS hq27 zq_1306 (Nat.le_of_ble_eq_true rfl) (Nat.le_of_ble_eq_true rfl) hl.1 rfl (Nat.le_of_ble_eq_true rfl) zd_Mod_item_28 (by decide) (fun H locs hP hS => ?_)
      clear hq27
      refine lv_goto (tgt := 115) hx hb zd_Mod_item_31 (by decide) ?_
      exact zl_Mod_item_L115 B hret hlk X26 _ _ _ hP hS (lv_sub hl [] rfl) hf
  · have hf := zu_f c5 hf
    refine lv_aload_n hx hb zd_Mod_item_14 rfl (lv_at hl 2 rfl) ?_
    refine lv_iload_n hx hb zd_Mod_item_15 rfl (lv_at hl 1 rfl) ?_
    obtain ⟨X28, hq29, hf⟩ := zu_b1_e hf
    refine zw_Mod_stuffItem (rest := []) B hP hS hq29 zq_1289 (Nat.le_of_ble_eq_true rfl) (Nat.le_of_ble_eq_true rfl) hl.1 rfl (Nat.le_of_ble_eq_true rfl) zd_Mod_item_16 (by decide) (fun H locs hP hS => ?_)
    clear hq29
    refine lv_goto (tgt := 115) hx hb zd_Mod_item_19 (by decide) ?_
    exact zl_Mod_item_L115 B hret hlk X28 _ _ _ hP hS (lv_sub hl [] rfl) hf
theorem zC_Mod_item (l : Launch) {D : va_G} {cA : Nat → ClassId} {ad : Nat → Nat} {A : Nat → Prop} {X : IX} {Y : LX} {res : IX} (hf : fn_Mod_item X = some res) : Met l zm_Mod_item (zu_ws zm_Mod_item zb_Mod_item 3 none) zR_Mod_item (va_Pc [.ref (ad 95)] (zu_Pre D cA ad A X Y)) (zu_Qv D cA ad A res Y) 0 0 A := by
  refine Met.ofW (cc := zb_Mod_item) (maxL := 3) (ret := none) (by decide +kernel) rfl ?_
  intro p e s m args below meth c s₁ B0 hml hv
  obtain ⟨rfl, hP, hST⟩ := hv
  have B : zu_B p s m _ c zb_Mod_item 3 "StonePostModel" D cA ad A := ⟨B0.exec, B0.bytes, hml, findClass_of_methodNamed B0.named, (fun w hw => atoms_spec (ws := zu_ws zm_Mod_item zb_Mod_item 3 none) B0.pre w (List.mem_cons_of_mem _ hw)), hST⟩
  have hl := lv_entry ([.ref (ad 95)]) (n := 3) (Nat.le_of_ble_eq_true rfl)
  rw [lg_entry_eq]
  generalize (lg_sl ([.ref (ad 95)]) ++ List.replicate (3 - (lg_sl ([.ref (ad 95)])).length) Slot.unset).toArray = ls at hl ⊢
  exact zl_Mod_item B B0.returns B0.notSynchronized s.heap [] ls hP va_S.rf hl  hf
theorem zw_Mod_item {p : Program} {l : Launch} {e : Env} {R : Room} {s : State} {m : MethodId} {args : Array Value} {below : List Frame} {meth : Method} {c : Code} {H : Heap} {locs : List Loc} {cells slots : Nat} {Q : State → Prop} {cc : ByteArray} {pc nL : Nat} {ls : Array Slot} {rest st0 : List Value} {D : va_G} {cA : Nat → ClassId} {ad : Nat → Nat} {A : Nat → Prop} {X : IX} {Y : LX} {own : String} {index : Nat} {X1 : IX} (B : zu_B p s m args c cc nL own D cA ad A) (hP : va_P D zu_cl (zu_pic cA ad X Y) H) (hS : va_S A s.heap H locs) (hq : fn_Mod_item X = some X1) (m1 : Cond.methodLink own index zm_Mod_item ∈ zu_TB) (hR1 : 7 + 1 ≤ R.frames) (hR2 : 8 + (3 + 11) + 164 ≤ R.locals) (hsz : ls.size = nL) (hst : st0 = .ref (ad 95) :: rest) (hw : (rest.map fun v => v.category).sum ≤ 8) (hdg : decode cc pc = .ok (.invokevirtual index, 3)) (h00 : cells ≤ R.cells ∧ slots ≤ R.slots) (kk : ∀ (H1 : Heap) (locs1 : List Loc), va_P D zu_cl (zu_pic cA ad X1 Y) H1 → va_S A s.heap H1 locs1 → W p l e R s m args below meth c H1 locs1 cells slots Q (F0 m (pc + 3) ls (rest))) : W p l e R s m args below meth c H locs cells slots Q (F0 m pc ls st0) := by
  subst hst
  exact zr_cVv (As := []) (rest := rest) (n := 0) (C := "StonePostModel") (T := zt_Mod) (N := 23) B hP hS (zC_Mod_item l  hq) (K := 7) rfl (by decide) (by decide) rfl rfl m1 zq_1262 zqP_51 zq_8 zq_1263 (by decide +kernel) ⟨hR1, hR2⟩ rfl rfl rfl hsz rfl hw hdg h00 kk
abbrev zR_Mod_text : Room := { frames := 8, cells := 0, slots := 0, locals := 186 }
theorem zd_Mod_text_0 : decode zb_Mod_text 0 = .ok (.aload_n 0, 1) := by decide +kernel
theorem zd_Mod_text_1 : decode zb_Mod_text 1 = .ok (.invokevirtual 202, 3) := by decide +kernel
theorem zd_Mod_text_4 : decode zb_Mod_text 4 = .ok (.aload_n 0, 1) := by decide +kernel
theorem zd_Mod_text_5 : decode zb_Mod_text 5 = .ok (.iconst 0, 1) := by decide +kernel
theorem zd_Mod_text_6 : decode zb_Mod_text 6 = .ok (.putfield 241, 3) := by decide +kernel
theorem zd_Mod_text_9 : decode zb_Mod_text 9 = .ok (.aload_n 0, 1) := by decide +kernel
theorem zd_Mod_text_10 : decode zb_Mod_text 10 = .ok (.iconst 0, 1) := by decide +kernel
theorem zd_Mod_text_11 : decode zb_Mod_text 11 = .ok (.putfield 256, 3) := by decide +kernel
theorem zd_Mod_text_14 : decode zb_Mod_text 14 = .ok (.aload_n 0, 1) := by decide +kernel
theorem zd_Mod_text_15 : decode zb_Mod_text 15 = .ok (.invokevirtual 260, 3) := by decide +kernel
theorem zd_Mod_text_18 : decode zb_Mod_text 18 = .ok (.iconst 1, 1) := by decide +kernel
theorem zd_Mod_text_19 : decode zb_Mod_text 19 = .ok (.istore_n 1, 1) := by decide +kernel
theorem zd_Mod_text_20 : decode zb_Mod_text 20 = .ok (.aload_n 0, 1) := by decide +kernel
theorem zd_Mod_text_21 : decode zb_Mod_text 21 = .ok (.invokevirtual 342, 3) := by decide +kernel
theorem zd_Mod_text_24 : decode zb_Mod_text 24 = .ok (.aload_n 0, 1) := by decide +kernel
theorem zd_Mod_text_25 : decode zb_Mod_text 25 = .ok (.getfield 256, 3) := by decide +kernel
theorem zd_Mod_text_28 : decode zb_Mod_text 28 = .ok (.ifCond .ne 46, 3) := by decide +kernel
theorem zd_Mod_text_31 : decode zb_Mod_text 31 = .ok (.aload_n 0, 1) := by decide +kernel
theorem zd_Mod_text_32 : decode zb_Mod_text 32 = .ok (.getfield 244, 3) := by decide +kernel
theorem zd_Mod_text_35 : decode zb_Mod_text 35 = .ok (.aload_n 0, 1) := by decide +kernel
theorem zd_Mod_text_36 : decode zb_Mod_text 36 = .ok (.getfield 232, 3) := by decide +kernel
theorem zd_Mod_text_39 : decode zb_Mod_text 39 = .ok (.if_icmp .ge 35, 3) := by decide +kernel
theorem zd_Mod_text_42 : decode zb_Mod_text 42 = .ok (.aload_n 0, 1) := by decide +kernel
theorem zd_Mod_text_43 : decode zb_Mod_text 43 = .ok (.aload_n 0, 1) := by decide +kernel
theorem zd_Mod_text_44 : decode zb_Mod_text 44 = .ok (.aload_n 0, 1) := by decide +kernel
theorem zd_Mod_text_45 : decode zb_Mod_text 45 = .ok (.getfield 244, 3) := by decide +kernel
theorem zd_Mod_text_48 : decode zb_Mod_text 48 = .ok (.invokevirtual 247, 3) := by decide +kernel
theorem zd_Mod_text_51 : decode zb_Mod_text 51 = .ok (.bipush 59, 2) := by decide +kernel
theorem zd_Mod_text_53 : decode zb_Mod_text 53 = .ok (.if_icmp .ne 7, 3) := by decide +kernel
theorem zd_Mod_text_56 : decode zb_Mod_text 56 = .ok (.iconst 1, 1) := by decide +kernel
theorem zd_Mod_text_57 : decode zb_Mod_text 57 = .ok (.goto 4, 3) := by decide +kernel
theorem zd_Mod_text_60 : decode zb_Mod_text 60 = .ok (.iconst 0, 1) := by decide +kernel
theorem zd_Mod_text_61 : decode zb_Mod_text 61 = .ok (.invokevirtual 270, 3) := by decide +kernel
theorem zd_Mod_text_64 : decode zb_Mod_text 64 = .ok (.aload_n 0, 1) := by decide +kernel
theorem zd_Mod_text_65 : decode zb_Mod_text 65 = .ok (.invokevirtual 342, 3) := by decide +kernel
theorem zd_Mod_text_68 : decode zb_Mod_text 68 = .ok (.iinc 1 1, 3) := by decide +kernel
theorem zd_Mod_text_71 : decode zb_Mod_text 71 = .ok (.goto (-47), 3) := by decide +kernel
theorem zd_Mod_text_74 : decode zb_Mod_text 74 = .ok (.aload_n 0, 1) := by decide +kernel
theorem zd_Mod_text_75 : decode zb_Mod_text 75 = .ok (.iconst 0, 1) := by decide +kernel
theorem zd_Mod_text_76 : decode zb_Mod_text 76 = .ok (.putfield 232, 3) := by decide +kernel
theorem zd_Mod_text_79 : decode zb_Mod_text 79 = .ok (.aload_n 0, 1) := by decide +kernel
theorem zd_Mod_text_80 : decode zb_Mod_text 80 = .ok (.getfield 256, 3) := by decide +kernel
theorem zd_Mod_text_83 : decode zb_Mod_text 83 = .ok (.ifCond .eq 14, 3) := by decide +kernel
theorem zd_Mod_text_86 : decode zb_Mod_text 86 = .ok (.aload_n 0, 1) := by decide +kernel
theorem zd_Mod_text_87 : decode zb_Mod_text 87 = .ok (.invokevirtual 213, 3) := by decide +kernel
theorem zd_Mod_text_90 : decode zb_Mod_text 90 = .ok (.iconst (-1), 1) := by decide +kernel
theorem zd_Mod_text_91 : decode zb_Mod_text 91 = .ok (.aload_n 0, 1) := by decide +kernel
theorem zd_Mod_text_92 : decode zb_Mod_text 92 = .ok (.getfield 244, 3) := by decide +kernel
theorem zd_Mod_text_95 : decode zb_Mod_text 95 = .ok (.isub, 1) := by decide +kernel
theorem zd_Mod_text_96 : decode zb_Mod_text 96 = .ok (.ireturn, 1) := by decide +kernel
theorem zd_Mod_text_97 : decode zb_Mod_text 97 = .ok (.iload_n 1, 1) := by decide +kernel
theorem zd_Mod_text_98 : decode zb_Mod_text 98 = .ok (.ireturn, 1) := by decide +kernel
set_option maxHeartbeats 4000000 in
theorem zl_Mod_text_L74 {p : Program} {l : Launch} {e : Env} {s : State} {m : MethodId} {args : Array Value} {below : List Frame} {meth : Method} {c : Code} {D : va_G} {cA : Nat → ClassId} {ad : Nat → Nat} {A : Nat → Prop} (B : zu_B p s m args c zb_Mod_text 2 "StonePostModel" D cA ad A) (hret : meth.sig.returnType = (some .int)) (hlk : meth.locks = false) {Y : LX} {res : Int32 × IX} (x1 : Int32) (X : IX) (H : Heap) (locs : List Loc) (ls : Array Slot) (hP : va_P D zu_cl (zu_pic cA ad X Y) H) (hS : va_S A s.heap H locs) (hl : lv_has ls 2 [(0, .ref (ad 95)), (1, .int x1)]) (hf : fn_Mod_text_L74 x1 X = some res) : W p l e zR_Mod_text s m args below meth c H locs 0 0 (MQ below (zu_Qi D cA ad A res.1 res.2 Y) args s 0 0 A) (F0 m 74 ls []) := by
  obtain ⟨hx, hb, hml, hown, hts, hST⟩ := id B
  unfold fn_Mod_text_L74 at hf
  refine lv_aload_n hx hb zd_Mod_text_74 rfl (lv_at hl 0 rfl) ?_
  refine lv_iconst (v := 0) hx hb zd_Mod_text_75 (by decide) ?_
  refine zp_Mod_taped B hP hS hf rfl zq_875 zd_Mod_text_76 (fun X14 H locs hf hP hS => ?_)
  refine lv_aload_n hx hb zd_Mod_text_79 rfl (lv_at hl 0 rfl) ?_
  refine zg_Mod_isWrong B hP rfl zq_879 zd_Mod_text_80 ?_
  refine lv_if_eq (tgt := 97) hx hb zd_Mod_text_83 (by decide) (fun c15 => ?_) (fun c15 => ?_)
  · have hf := zu_t c15 hf
    refine lv_iload_n hx hb zd_Mod_text_97 rfl (lv_at hl 1 rfl) ?_
    obtain rfl := Option.some.inj hf
    exact zr_iret hx hb hret hlk hP hS zd_Mod_text_98
  · have hf := zu_f c15 hf
    refine lv_aload_n hx hb zd_Mod_text_86 rfl (lv_at hl 0 rfl) ?_
    obtain ⟨X16, hq17, hf⟩ := zu_b1_e hf
    refine zw_Mod_putsBack (rest := []) B hP hS hq17 zq_1174 (Nat.le_of_ble_eq_true rfl) (Nat.le_of_ble_eq_true rfl) hl.1 rfl (Nat.le_of_ble_eq_true rfl) zd_Mod_text_87 (by decide) (fun H locs hP hS => ?_)
    clear hq17
    refine lv_iconst (v := -1) hx hb zd_Mod_text_90 (by decide) ?_
    refine lv_aload_n hx hb zd_Mod_text_91 rfl (lv_at hl 0 rfl) ?_
    refine zg_Mod_begins B hP rfl zq_876 zd_Mod_text_92 ?_
    refine lv_isub hx hb zd_Mod_text_95 ?_
    obtain rfl := Option.some.inj hf
    exact zr_iret hx hb hret hlk hP hS zd_Mod_text_96
set_option maxHeartbeats 4000000 in
theorem zl_Mod_text_L61 {p : Program} {l : Launch} {e : Env} {s : State} {m : MethodId} {args : Array Value} {below : List Frame} {meth : Method} {c : Code} {D : va_G} {cA : Nat → ClassId} {ad : Nat → Nat} {A : Nat → Prop} (B : zu_B p s m args c zb_Mod_text 2 "StonePostModel" D cA ad A) (hret : meth.sig.returnType = (some .int)) (hlk : meth.locks = false) {Y : LX} {res : Int32 × IX} {k24 : Int32 → IX → Option (Int32 × IX)} (hk24 : ∀ (x1 : Int32) (X : IX) (H : Heap) (locs : List Loc) (ls : Array Slot), va_P D zu_cl (zu_pic cA ad X Y) H → va_S A s.heap H locs → lv_has ls 2 [(0, .ref (ad 95)), (1, .int x1)] → k24 x1 X = some res → W p l e zR_Mod_text s m args below meth c H locs 0 0 (MQ below (zu_Qi D cA ad A res.1 res.2 Y) args s 0 0 A) (F0 m 24 ls [])) (x1 : Int32) (y0 : Int32) (X : IX) (H : Heap) (locs : List Loc) (ls : Array Slot) (hP : va_P D zu_cl (zu_pic cA ad X Y) H) (hS : va_S A s.heap H locs) (hl : lv_has ls 2 [(0, .ref (ad 95)), (1, .int x1)]) (hf : fn_Mod_text_L61 k24 x1 y0 X = some res) : W p l e zR_Mod_text s m args below meth c H locs 0 0 (MQ below (zu_Qi D cA ad A res.1 res.2 Y) args s 0 0 A) (F0 m 61 ls [.int y0, .ref (ad 95)]) := by
  obtain ⟨hx, hb, hml, hown, hts, hST⟩ := id B
  unfold fn_Mod_text_L61 at hf
  obtain ⟨X18, hq19, hf⟩ := zu_b1_e hf
  refine zw_Mod_needs (rest := []) B hP hS hq19 zq_1293 (Nat.le_of_ble_eq_true rfl) (Nat.le_of_ble_eq_true rfl) hl.1 rfl (Nat.le_of_ble_eq_true rfl) zd_Mod_text_61 (by decide) (fun H locs hP hS => ?_)
  clear hq19
  refine lv_aload_n hx hb zd_Mod_text_64 rfl (lv_at hl 0 rfl) ?_
  obtain ⟨X20, hq21, hf⟩ := zu_b1_e hf
  refine zw_Mod_item (rest := []) B hP hS hq21 zq_1260 (Nat.le_of_ble_eq_true rfl) (Nat.le_of_ble_eq_true rfl) hl.1 rfl (Nat.le_of_ble_eq_true rfl) zd_Mod_text_65 (by decide) (fun H locs hP hS => ?_)
  clear hq21
  obtain ⟨v22, ev22, hf⟩ := zu_nx_e hf
  refine lv_iinc (v := v22) (lv' := [(1, .int v22), (0, .ref (ad 95))]) hx hb zd_Mod_text_68 hl (k := 1) rfl (by rw [ev22]; rfl) (by decide) rfl (fun ls hl => ?_)
  clear ev22
  refine lv_goto (tgt := 24) hx hb zd_Mod_text_71 (by decide) ?_
  exact hk24 v22 X20 _ _ _ hP hS (lv_sub hl [1, 0] rfl) hf
set_option maxHeartbeats 4000000 in
theorem zl_Mod_text_B24 {p : Program} {l : Launch} {e : Env} {s : State} {m : MethodId} {args : Array Value} {below : List Frame} {meth : Method} {c : Code} {D : va_G} {cA : Nat → ClassId} {ad : Nat → Nat} {A : Nat → Prop} (B : zu_B p s m args c zb_Mod_text 2 "StonePostModel" D cA ad A) (hret : meth.sig.returnType = (some .int)) (hlk : meth.locks = false) {Y : LX} {res : Int32 × IX} {k24 : Int32 → IX → Option (Int32 × IX)} (hk24 : ∀ (x1 : Int32) (X : IX) (H : Heap) (locs : List Loc) (ls : Array Slot), va_P D zu_cl (zu_pic cA ad X Y) H → va_S A s.heap H locs → lv_has ls 2 [(0, .ref (ad 95)), (1, .int x1)] → k24 x1 X = some res → W p l e zR_Mod_text s m args below meth c H locs 0 0 (MQ below (zu_Qi D cA ad A res.1 res.2 Y) args s 0 0 A) (F0 m 24 ls [])) (x1 : Int32) (X : IX) (H : Heap) (locs : List Loc) (ls : Array Slot) (hP : va_P D zu_cl (zu_pic cA ad X Y) H) (hS : va_S A s.heap H locs) (hl : lv_has ls 2 [(0, .ref (ad 95)), (1, .int x1)]) (hf : fn_Mod_text_B24 k24 x1 X = some res) : W p l e zR_Mod_text s m args below meth c H locs 0 0 (MQ below (zu_Qi D cA ad A res.1 res.2 Y) args s 0 0 A) (F0 m 24 ls []) := by
  obtain ⟨hx, hb, hml, hown, hts, hST⟩ := id B
  unfold fn_Mod_text_B24 at hf
  refine lv_aload_n hx hb zd_Mod_text_24 rfl (lv_at hl 0 rfl) ?_
  refine zg_Mod_isWrong B hP rfl zq_879 zd_Mod_text_25 ?_
  refine lv_if_ne (tgt := 74) hx hb zd_Mod_text_28 (by decide) (fun c9 => ?_) (fun c9 => ?_)
  · have hf := zu_f c9 hf
    exact zl_Mod_text_L74 B hret hlk x1 X _ _ _ hP hS (lv_sub hl [0, 1] rfl) hf
  · have hf := zu_t c9 hf
    refine lv_aload_n hx hb zd_Mod_text_31 rfl (lv_at hl 0 rfl) ?_
    refine zg_Mod_begins B hP rfl zq_876 zd_Mod_text_32 ?_
    refine lv_aload_n hx hb zd_Mod_text_35 rfl (lv_at hl 0 rfl) ?_
    refine zg_Mod_taped B hP rfl zq_875 zd_Mod_text_36 ?_
    refine lv_icmp_ge (tgt := 74) hx hb zd_Mod_text_39 (by decide) (fun c10 => ?_) (fun c10 => ?_)
    · have hf := zu_t c10 hf
      exact zl_Mod_text_L74 B hret hlk x1 X _ _ _ hP hS (lv_sub hl [0, 1] rfl) hf
    · have hf := zu_f c10 hf
      refine lv_aload_n hx hb zd_Mod_text_42 rfl (lv_at hl 0 rfl) ?_
      refine lv_aload_n hx hb zd_Mod_text_43 rfl (lv_at hl 0 rfl) ?_
      refine lv_aload_n hx hb zd_Mod_text_44 rfl (lv_at hl 0 rfl) ?_
      refine zg_Mod_begins B hP rfl zq_876 zd_Mod_text_45 ?_
      obtain ⟨v11, hq12, hf⟩ := zu_b1_e hf
      refine zw_Mod_byteAt (rest := [.ref (ad 95)]) B hP hS hq12 zq_1247 (Nat.le_of_ble_eq_true rfl) (Nat.le_of_ble_eq_true rfl) hl.1 rfl (Nat.le_of_ble_eq_true rfl) zd_Mod_text_48 (by decide) (fun H locs hP hS => ?_)
      clear hq12
      refine lv_bipush (v := 59) hx hb zd_Mod_text_51 (by decide) ?_
      refine lv_icmp_ne (tgt := 60) hx hb zd_Mod_text_53 (by decide) (fun c13 => ?_) (fun c13 => ?_)
      · have hf := zu_f c13 hf
        refine lv_iconst (v := 0) hx hb zd_Mod_text_60 (by decide) ?_
        exact zl_Mod_text_L61 B hret hlk hk24 x1 (0 : Int32) X _ _ _ hP hS (lv_sub hl [0, 1] rfl) hf
      · have hf := zu_t c13 hf
        refine lv_iconst (v := 1) hx hb zd_Mod_text_56 (by decide) ?_
        refine lv_goto (tgt := 61) hx hb zd_Mod_text_57 (by decide) ?_
        exact zl_Mod_text_L61 B hret hlk hk24 x1 (1 : Int32) X _ _ _ hP hS (lv_sub hl [0, 1] rfl) hf
theorem zl_Mod_text_L24 {p : Program} {l : Launch} {e : Env} {s : State} {m : MethodId} {args : Array Value} {below : List Frame} {meth : Method} {c : Code} {D : va_G} {cA : Nat → ClassId} {ad : Nat → Nat} {A : Nat → Prop} (B : zu_B p s m args c zb_Mod_text 2 "StonePostModel" D cA ad A) (hret : meth.sig.returnType = (some .int)) (hlk : meth.locks = false) {Y : LX} {res : Int32 × IX} : ∀ (n : Nat) (x1 : Int32) (X : IX) (H : Heap) (locs : List Loc) (ls : Array Slot), va_P D zu_cl (zu_pic cA ad X Y) H → va_S A s.heap H locs → lv_has ls 2 [(0, .ref (ad 95)), (1, .int x1)] → fn_Mod_text_L24 n x1 X = some res → W p l e zR_Mod_text s m args below meth c H locs 0 0 (MQ below (zu_Qi D cA ad A res.1 res.2 Y) args s 0 0 A) (F0 m 24 ls []) := by
  intro n
  induction n with
  | zero =>
    intro x1 X H locs ls hP hS hl hf
    exact (Option.some_ne_none _ hf.symm).elim
  | succ n ih =>
    intro x1 X H locs ls hP hS hl hf
    exact zl_Mod_text_B24 B hret hlk ih x1 X H locs ls hP hS hl  hf
set_option maxHeartbeats 4000000 in
theorem zl_Mod_text {p : Program} {l : Launch} {e : Env} {s : State} {m : MethodId} {args : Array Value} {below : List Frame} {meth : Method} {c : Code} {D : va_G} {cA : Nat → ClassId} {ad : Nat → Nat} {A : Nat → Prop} (B : zu_B p s m args c zb_Mod_text 2 "StonePostModel" D cA ad A) (hret : meth.sig.returnType = (some .int)) (hlk : meth.locks = false) {Y : LX} {res : Int32 × IX} {X : IX} (H : Heap) (locs : List Loc) (ls : Array Slot) (hP : va_P D zu_cl (zu_pic cA ad X Y) H) (hS : va_S A s.heap H locs) (hl : lv_has ls 2 [(0, .ref (ad 95))]) (hf : fn_Mod_text X = some res) : W p l e zR_Mod_text s m args below meth c H locs 0 0 (MQ below (zu_Qi D cA ad A res.1 res.2 Y) args s 0 0 A) (F0 m 0 ls []) := by
  obtain ⟨hx, hb, hml, hown, hts, hST⟩ := id B
  unfold fn_Mod_text at hf
  refine lv_aload_n hx hb zd_Mod_text_0 rfl (lv_at hl 0 rfl) ?_
  obtain ⟨X1, hq2, hf⟩ := zu_b1_e hf
  refine zw_Mod_puts (rest := []) B hP hS hq2 zq_1162 (Nat.le_of_ble_eq_true rfl) (Nat.le_of_ble_eq_true rfl) hl.1 rfl (Nat.le_of_ble_eq_true rfl) zd_Mod_text_1 (by decide) (fun H locs hP hS => ?_)
  clear hq2
  refine lv_aload_n hx hb zd_Mod_text_4 rfl (lv_at hl 0 rfl) ?_
  refine lv_iconst (v := 0) hx hb zd_Mod_text_5 (by decide) ?_
  refine zp_Mod_to B hP hS hf rfl zq_877 zd_Mod_text_6 (fun X3 H locs hf hP hS => ?_)
  refine lv_aload_n hx hb zd_Mod_text_9 rfl (lv_at hl 0 rfl) ?_
  refine lv_iconst (v := 0) hx hb zd_Mod_text_10 (by decide) ?_
  refine zp_Mod_isWrong B hP hS hf rfl rfl zq_879 zd_Mod_text_11 (fun X4 H locs hf hP hS => ?_)
  refine lv_aload_n hx hb zd_Mod_text_14 rfl (lv_at hl 0 rfl) ?_
  obtain ⟨X5, hq6, hf⟩ := zu_b1_e hf
  refine zw_Mod_token (rest := []) B hP hS hq6 zq_1243 (Nat.le_of_ble_eq_true rfl) (Nat.le_of_ble_eq_true rfl) hl.1 rfl (Nat.le_of_ble_eq_true rfl) zd_Mod_text_15 (by decide) (fun H locs hP hS => ?_)
  clear hq6
  refine lv_iconst (v := 1) hx hb zd_Mod_text_18 (by decide) ?_
  refine lv_istore_n (lv' := [(1, .int (1 : Int32)), (0, .ref (ad 95))]) hx hb zd_Mod_text_19 rfl hl (by decide) rfl (fun ls hl => ?_)
  refine lv_aload_n hx hb zd_Mod_text_20 rfl (lv_at hl 1 rfl) ?_
  obtain ⟨X7, hq8, hf⟩ := zu_b1_e hf
  refine zw_Mod_item (rest := []) B hP hS hq8 zq_1260 (Nat.le_of_ble_eq_true rfl) (Nat.le_of_ble_eq_true rfl) hl.1 rfl (Nat.le_of_ble_eq_true rfl) zd_Mod_text_21 (by decide) (fun H locs hP hS => ?_)
  clear hq8
  exact zl_Mod_text_L24 B hret hlk 400 (1 : Int32) X7 _ _ _ hP hS (lv_sub hl [1, 0] rfl) hf
theorem zC_Mod_text (l : Launch) {D : va_G} {cA : Nat → ClassId} {ad : Nat → Nat} {A : Nat → Prop} {X : IX} {Y : LX} {res : Int32 × IX} (hf : fn_Mod_text X = some res) : Met l zm_Mod_text (zu_ws zm_Mod_text zb_Mod_text 2 (some .int)) zR_Mod_text (va_Pc [.ref (ad 95)] (zu_Pre D cA ad A X Y)) (zu_Qi D cA ad A res.1 res.2 Y) 0 0 A := by
  refine Met.ofW (cc := zb_Mod_text) (maxL := 2) (ret := (some .int)) (by decide +kernel) rfl ?_
  intro p e s m args below meth c s₁ B0 hml hv
  obtain ⟨rfl, hP, hST⟩ := hv
  have B : zu_B p s m _ c zb_Mod_text 2 "StonePostModel" D cA ad A := ⟨B0.exec, B0.bytes, hml, findClass_of_methodNamed B0.named, (fun w hw => atoms_spec (ws := zu_ws zm_Mod_text zb_Mod_text 2 (some .int)) B0.pre w (List.mem_cons_of_mem _ hw)), hST⟩
  have hl := lv_entry ([.ref (ad 95)]) (n := 2) (Nat.le_of_ble_eq_true rfl)
  rw [lg_entry_eq]
  generalize (lg_sl ([.ref (ad 95)]) ++ List.replicate (2 - (lg_sl ([.ref (ad 95)])).length) Slot.unset).toArray = ls at hl ⊢
  exact zl_Mod_text B B0.returns B0.notSynchronized s.heap [] ls hP va_S.rf hl  hf
theorem zw_Mod_text {p : Program} {l : Launch} {e : Env} {R : Room} {s : State} {m : MethodId} {args : Array Value} {below : List Frame} {meth : Method} {c : Code} {H : Heap} {locs : List Loc} {cells slots : Nat} {Q : State → Prop} {cc : ByteArray} {pc nL : Nat} {ls : Array Slot} {rest st0 : List Value} {D : va_G} {cA : Nat → ClassId} {ad : Nat → Nat} {A : Nat → Prop} {X : IX} {Y : LX} {own : String} {index : Nat} {v1 : Int32} {X1 : IX} (B : zu_B p s m args c cc nL own D cA ad A) (hP : va_P D zu_cl (zu_pic cA ad X Y) H) (hS : va_S A s.heap H locs) (hq : fn_Mod_text X = some (v1, X1)) (m1 : Cond.methodLink own index zm_Mod_text ∈ zu_TB) (hR1 : 8 + 1 ≤ R.frames) (hR2 : 8 + (2 + 11) + 186 ≤ R.locals) (hsz : ls.size = nL) (hst : st0 = .ref (ad 95) :: rest) (hw : (rest.map fun v => v.category).sum ≤ 8) (hdg : decode cc pc = .ok (.invokevirtual index, 3)) (h00 : cells ≤ R.cells ∧ slots ≤ R.slots) (kk : ∀ (H1 : Heap) (locs1 : List Loc), va_P D zu_cl (zu_pic cA ad X1 Y) H1 → va_S A s.heap H1 locs1 → W p l e R s m args below meth c H1 locs1 cells slots Q (F0 m (pc + 3) ls (.int v1 :: rest))) : W p l e R s m args below meth c H locs cells slots Q (F0 m pc ls st0) := by
  subst hst
  exact zr_cVi (As := []) (rest := rest) (n := 0) (C := "StonePostModel") (T := zt_Mod) (N := 23) B hP hS (zC_Mod_text l  hq) (K := 7) rfl (by decide) (by decide) rfl rfl m1 zq_1240 zq_1241 zq_8 zq_1242 (by decide +kernel) ⟨hR1, hR2⟩ rfl rfl rfl hsz rfl hw hdg h00 kk
abbrev zR_Mod_hold : Room := { frames := 2, cells := 0, slots := 0, locals := 46 }
theorem zd_Mod_hold_0 : decode zb_Mod_hold 0 = .ok (.iload_n 1, 1) := by decide +kernel
theorem zd_Mod_hold_1 : decode zb_Mod_hold 1 = .ok (.i2l, 1) := by decide +kernel
theorem zd_Mod_hold_2 : decode zb_Mod_hold 2 = .ok (.lconst 0, 1) := by decide +kernel
theorem zd_Mod_hold_3 : decode zb_Mod_hold 3 = .ok (.ldc2_w 68, 3) := by decide +kernel
theorem zd_Mod_hold_6 : decode zb_Mod_hold 6 = .ok (.invokestatic 53, 3) := by decide +kernel
theorem zd_Mod_hold_9 : decode zb_Mod_hold 9 = .ok (.ifCond .eq 16, 3) := by decide +kernel
theorem zd_Mod_hold_12 : decode zb_Mod_hold 12 = .ok (.iload_n 2, 1) := by decide +kernel
theorem zd_Mod_hold_13 : decode zb_Mod_hold 13 = .ok (.iconst (-1), 1) := by decide +kernel
theorem zd_Mod_hold_14 : decode zb_Mod_hold 14 = .ok (.if_icmp .eq 18, 3) := by decide +kernel
theorem zd_Mod_hold_17 : decode zb_Mod_hold 17 = .ok (.aload_n 0, 1) := by decide +kernel
theorem zd_Mod_hold_18 : decode zb_Mod_hold 18 = .ok (.iload_n 2, 1) := by decide +kernel
theorem zd_Mod_hold_19 : decode zb_Mod_hold 19 = .ok (.invokevirtual 87, 3) := by decide +kernel
theorem zd_Mod_hold_22 : decode zb_Mod_hold 22 = .ok (.ifCond .ne 10, 3) := by decide +kernel
theorem zd_Mod_hold_25 : decode zb_Mod_hold 25 = .ok (.aload_n 0, 1) := by decide +kernel
theorem zd_Mod_hold_26 : decode zb_Mod_hold 26 = .ok (.ldc 50, 2) := by decide +kernel
theorem zd_Mod_hold_28 : decode zb_Mod_hold 28 = .ok (.invokevirtual 64, 3) := by decide +kernel
theorem zd_Mod_hold_31 : decode zb_Mod_hold 31 = .ok (.ireturn, 1) := by decide +kernel
theorem zd_Mod_hold_32 : decode zb_Mod_hold 32 = .ok (.aload_n 0, 1) := by decide +kernel
theorem zd_Mod_hold_33 : decode zb_Mod_hold 33 = .ok (.getfield 7, 3) := by decide +kernel
theorem zd_Mod_hold_36 : decode zb_Mod_hold 36 = .ok (.sipush 132, 3) := by decide +kernel
theorem zd_Mod_hold_39 : decode zb_Mod_hold 39 = .ok (.iload_n 1, 1) := by decide +kernel
theorem zd_Mod_hold_40 : decode zb_Mod_hold 40 = .ok (.iadd, 1) := by decide +kernel
theorem zd_Mod_hold_41 : decode zb_Mod_hold 41 = .ok (.iload_n 2, 1) := by decide +kernel
theorem zd_Mod_hold_42 : decode zb_Mod_hold 42 = .ok (.iastore, 1) := by decide +kernel
theorem zd_Mod_hold_43 : decode zb_Mod_hold 43 = .ok (.iconst 1, 1) := by decide +kernel
theorem zd_Mod_hold_44 : decode zb_Mod_hold 44 = .ok (.ireturn, 1) := by decide +kernel
set_option maxHeartbeats 4000000 in
theorem zl_Mod_hold_L32 {p : Program} {l : Launch} {e : Env} {s : State} {m : MethodId} {args : Array Value} {below : List Frame} {meth : Method} {c : Code} {D : va_G} {cA : Nat → ClassId} {ad : Nat → Nat} {A : Nat → Prop} (B : zu_B p s m args c zb_Mod_hold 3 "StonePostModel" D cA ad A) (hret : meth.sig.returnType = (some .int)) (hlk : meth.locks = false) {Y : LX} {res : Int32 × IX} (x1 : Int32) (x2 : Int32) (X : IX) (H : Heap) (locs : List Loc) (ls : Array Slot) (hP : va_P D zu_cl (zu_pic cA ad X Y) H) (hS : va_S A s.heap H locs) (hl : lv_has ls 3 [(0, .ref (ad 95)), (1, .int x1), (2, .int x2)]) (hf : fn_Mod_hold_L32 x1 x2 X = some res) : W p l e zR_Mod_hold s m args below meth c H locs 0 0 (MQ below (zu_Qi D cA ad A res.1 res.2 Y) args s 0 0 A) (F0 m 32 ls []) := by
  obtain ⟨hx, hb, hml, hown, hts, hST⟩ := id B
  unfold fn_Mod_hold_L32 at hf
  refine lv_aload_n hx hb zd_Mod_hold_32 rfl (lv_at hl 0 rfl) ?_
  refine zg_Mod_s B hP rfl zq_861 zd_Mod_hold_33 ?_
  refine lv_sipush (v := 132) hx hb zd_Mod_hold_36 (by decide) ?_
  refine lv_iload_n hx hb zd_Mod_hold_39 rfl (lv_at hl 1 rfl) ?_
  refine lv_iadd hx hb zd_Mod_hold_40 ?_
  refine lv_iload_n hx hb zd_Mod_hold_41 rfl (lv_at hl 2 rfl) ?_
  obtain ⟨hg11, hf⟩ := zu_gd_e hf
  refine zr_iast rfl B hP hS hf rfl (by decide) rfl hg11 zd_Mod_hold_42 (fun X12 H locs hf hP hS => ?_)
  refine lv_iconst (v := 1) hx hb zd_Mod_hold_43 (by decide) ?_
  obtain rfl := Option.some.inj hf
  exact zr_iret hx hb hret hlk hP hS zd_Mod_hold_44
set_option maxHeartbeats 4000000 in
theorem zl_Mod_hold_L25 {p : Program} {l : Launch} {e : Env} {s : State} {m : MethodId} {args : Array Value} {below : List Frame} {meth : Method} {c : Code} {D : va_G} {cA : Nat → ClassId} {ad : Nat → Nat} {A : Nat → Prop} (B : zu_B p s m args c zb_Mod_hold 3 "StonePostModel" D cA ad A) (hret : meth.sig.returnType = (some .int)) (hlk : meth.locks = false) {Y : LX} {res : Int32 × IX} (X : IX) (H : Heap) (locs : List Loc) (ls : Array Slot) (hP : va_P D zu_cl (zu_pic cA ad X Y) H) (hS : va_S A s.heap H locs) (hl : lv_has ls 3 [(0, .ref (ad 95))]) (hf : fn_Mod_hold_L25 X = some res) : W p l e zR_Mod_hold s m args below meth c H locs 0 0 (MQ below (zu_Qi D cA ad A res.1 res.2 Y) args s 0 0 A) (F0 m 25 ls []) := by
  obtain ⟨hx, hb, hml, hown, hts, hST⟩ := id B
  unfold fn_Mod_hold_L25 at hf
  refine lv_aload_n hx hb zd_Mod_hold_25 rfl (lv_at hl 0 rfl) ?_
  refine lv_ldc (v := -1000001) hx hb hown (hts _ zq_943) zd_Mod_hold_26 ?_
  obtain ⟨v8, X9, hq10, hf⟩ := zu_b2_e hf
  refine zw_Mod_finds (rest := []) B hP hS hq10 zq_944 (Nat.le_of_ble_eq_true rfl) (Nat.le_of_ble_eq_true rfl) hl.1 rfl (Nat.le_of_ble_eq_true rfl) zd_Mod_hold_28 (by decide) (fun H locs hP hS => ?_)
  clear hq10
  obtain rfl := Option.some.inj hf
  exact zr_iret hx hb hret hlk hP hS zd_Mod_hold_31
set_option maxHeartbeats 4000000 in
theorem zl_Mod_hold {p : Program} {l : Launch} {e : Env} {s : State} {m : MethodId} {args : Array Value} {below : List Frame} {meth : Method} {c : Code} {D : va_G} {cA : Nat → ClassId} {ad : Nat → Nat} {A : Nat → Prop} (B : zu_B p s m args c zb_Mod_hold 3 "StonePostModel" D cA ad A) (hret : meth.sig.returnType = (some .int)) (hlk : meth.locks = false) {Y : LX} {res : Int32 × IX} {a1 : Int32} {a2 : Int32} {X : IX} (H : Heap) (locs : List Loc) (ls : Array Slot) (hP : va_P D zu_cl (zu_pic cA ad X Y) H) (hS : va_S A s.heap H locs) (hl : lv_has ls 3 [(0, .ref (ad 95)), (1, .int a1), (2, .int a2)]) (hf : fn_Mod_hold a1 a2 X = some res) : W p l e zR_Mod_hold s m args below meth c H locs 0 0 (MQ below (zu_Qi D cA ad A res.1 res.2 Y) args s 0 0 A) (F0 m 0 ls []) := by
  obtain ⟨hx, hb, hml, hown, hts, hST⟩ := id B
  unfold fn_Mod_hold at hf
  refine lv_iload_n hx hb zd_Mod_hold_0 rfl (lv_at hl 1 rfl) ?_
  refine lv_i2l hx hb zd_Mod_hold_1 rfl ?_
  refine lv_lconst (v := 0) hx hb zd_Mod_hold_2 (by decide) ?_
  refine lv_ldc2 (v := 9) hx hb hown (hts _ zq_952) zd_Mod_hold_3 ?_
  obtain ⟨v1, hq2, hf⟩ := zu_b1_e hf
  refine zw_Mod_in (rest := []) B hP hS hq2 zq_939 (Nat.le_of_ble_eq_true rfl) (Nat.le_of_ble_eq_true rfl) hl.1 rfl (Nat.le_of_ble_eq_true rfl) zd_Mod_hold_6 (by decide) (fun H locs hP hS => ?_)
  clear hq2
  refine lv_if_eq (tgt := 25) hx hb zd_Mod_hold_9 (by decide) (fun c3 => ?_) (fun c3 => ?_)
  · have hf := zu_t c3 hf
    exact zl_Mod_hold_L25 B hret hlk X _ _ _ hP hS (lv_sub hl [0] rfl) hf
  · have hf := zu_f c3 hf
    refine lv_iload_n hx hb zd_Mod_hold_12 rfl (lv_at hl 2 rfl) ?_
    refine lv_iconst (v := -1) hx hb zd_Mod_hold_13 (by decide) ?_
    refine lv_icmp_eq (tgt := 32) hx hb zd_Mod_hold_14 (by decide) (fun c4 => ?_) (fun c4 => ?_)
    · have hf := zu_t c4 hf
      exact zl_Mod_hold_L32 B hret hlk a1 a2 X _ _ _ hP hS (lv_sub hl [0, 1, 2] rfl) hf
    · have hf := zu_f c4 hf
      refine lv_aload_n hx hb zd_Mod_hold_17 rfl (lv_at hl 0 rfl) ?_
      refine lv_iload_n hx hb zd_Mod_hold_18 rfl (lv_at hl 2 rfl) ?_
      obtain ⟨v5, hq6, hf⟩ := zu_b1_e hf
      refine zw_Mod_isThrower (rest := []) B hP hS hq6 zq_979 (Nat.le_of_ble_eq_true rfl) (Nat.le_of_ble_eq_true rfl) hl.1 rfl (Nat.le_of_ble_eq_true rfl) zd_Mod_hold_19 (by decide) (fun H locs hP hS => ?_)
      clear hq6
      refine lv_if_ne (tgt := 32) hx hb zd_Mod_hold_22 (by decide) (fun c7 => ?_) (fun c7 => ?_)
      · have hf := zu_f c7 hf
        exact zl_Mod_hold_L32 B hret hlk a1 a2 X _ _ _ hP hS (lv_sub hl [0, 1, 2] rfl) hf
      · have hf := zu_t c7 hf
        exact zl_Mod_hold_L25 B hret hlk X _ _ _ hP hS (lv_sub hl [0] rfl) hf
theorem zC_Mod_hold (l : Launch) {D : va_G} {cA : Nat → ClassId} {ad : Nat → Nat} {A : Nat → Prop} {a1 : Int32} {a2 : Int32} {X : IX} {Y : LX} {res : Int32 × IX} (hf : fn_Mod_hold a1 a2 X = some res) : Met l zm_Mod_hold (zu_ws zm_Mod_hold zb_Mod_hold 3 (some .int)) zR_Mod_hold (va_Pc [.ref (ad 95), .int a1, .int a2] (zu_Pre D cA ad A X Y)) (zu_Qi D cA ad A res.1 res.2 Y) 0 0 A := by
  refine Met.ofW (cc := zb_Mod_hold) (maxL := 3) (ret := (some .int)) (by decide +kernel) rfl ?_
  intro p e s m args below meth c s₁ B0 hml hv
  obtain ⟨rfl, hP, hST⟩ := hv
  have B : zu_B p s m _ c zb_Mod_hold 3 "StonePostModel" D cA ad A := ⟨B0.exec, B0.bytes, hml, findClass_of_methodNamed B0.named, (fun w hw => atoms_spec (ws := zu_ws zm_Mod_hold zb_Mod_hold 3 (some .int)) B0.pre w (List.mem_cons_of_mem _ hw)), hST⟩
  have hl := lv_entry ([.ref (ad 95), .int a1, .int a2]) (n := 3) (Nat.le_of_ble_eq_true rfl)
  rw [lg_entry_eq]
  generalize (lg_sl ([.ref (ad 95), .int a1, .int a2]) ++ List.replicate (3 - (lg_sl ([.ref (ad 95), .int a1, .int a2])).length) Slot.unset).toArray = ls at hl ⊢
  exact zl_Mod_hold B B0.returns B0.notSynchronized s.heap [] ls hP va_S.rf hl  hf
theorem zw_Mod_hold {p : Program} {l : Launch} {e : Env} {R : Room} {s : State} {m : MethodId} {args : Array Value} {below : List Frame} {meth : Method} {c : Code} {H : Heap} {locs : List Loc} {cells slots : Nat} {Q : State → Prop} {cc : ByteArray} {pc nL : Nat} {ls : Array Slot} {rest st0 : List Value} {D : va_G} {cA : Nat → ClassId} {ad : Nat → Nat} {A : Nat → Prop} {X : IX} {Y : LX} {own : String} {index : Nat} {a1 : Int32} {a2 : Int32} {v1 : Int32} {X1 : IX} (B : zu_B p s m args c cc nL own D cA ad A) (hP : va_P D zu_cl (zu_pic cA ad X Y) H) (hS : va_S A s.heap H locs) (hq : fn_Mod_hold a1 a2 X = some (v1, X1)) (m1 : Cond.methodLink own index zm_Mod_hold ∈ zu_TB) (hR1 : 2 + 1 ≤ R.frames) (hR2 : 8 + (3 + 11) + 46 ≤ R.locals) (hsz : ls.size = nL) (hst : st0 = .int a2 :: .int a1 :: .ref (ad 95) :: rest) (hw : (rest.map fun v => v.category).sum ≤ 8) (hdg : decode cc pc = .ok (.invokevirtual index, 3)) (h00 : cells ≤ R.cells ∧ slots ≤ R.slots) (kk : ∀ (H1 : Heap) (locs1 : List Loc), va_P D zu_cl (zu_pic cA ad X1 Y) H1 → va_S A s.heap H1 locs1 → W p l e R s m args below meth c H1 locs1 cells slots Q (F0 m (pc + 3) ls (.int v1 :: rest))) : W p l e R s m args below meth c H locs cells slots Q (F0 m pc ls st0) := by
  subst hst
  exact zr_cVi (As := [.int a1, .int a2]) (rest := rest) (n := 2) (C := "StonePostModel") (T := zt_Mod) (N := 23) B hP hS (zC_Mod_hold l  hq) (K := 7) rfl (by decide) (by decide) rfl rfl m1 zq_1327 zq_1328 zq_8 zq_1329 (by decide +kernel) ⟨hR1, hR2⟩ rfl rfl rfl hsz rfl hw hdg h00 kk
abbrev zR_Mod_as : Room := { frames := 2, cells := 0, slots := 0, locals := 43 }
theorem zd_Mod_as_0 : decode zb_Mod_as 0 = .ok (.iload_n 1, 1) := by decide +kernel
theorem zd_Mod_as_1 : decode zb_Mod_as 1 = .ok (.i2l, 1) := by decide +kernel
theorem zd_Mod_as_2 : decode zb_Mod_as 2 = .ok (.lconst 0, 1) := by decide +kernel
theorem zd_Mod_as_3 : decode zb_Mod_as 3 = .ok (.ldc2_w 68, 3) := by decide +kernel
theorem zd_Mod_as_6 : decode zb_Mod_as 6 = .ok (.invokestatic 53, 3) := by decide +kernel
theorem zd_Mod_as_9 : decode zb_Mod_as 9 = .ok (.ifCond .eq 15, 3) := by decide +kernel
theorem zd_Mod_as_12 : decode zb_Mod_as 12 = .ok (.iload_n 2, 1) := by decide +kernel
theorem zd_Mod_as_13 : decode zb_Mod_as 13 = .ok (.i2l, 1) := by decide +kernel
theorem zd_Mod_as_14 : decode zb_Mod_as 14 = .ok (.lconst 0, 1) := by decide +kernel
theorem zd_Mod_as_15 : decode zb_Mod_as 15 = .ok (.ldc2_w 77, 3) := by decide +kernel
theorem zd_Mod_as_18 : decode zb_Mod_as 18 = .ok (.invokestatic 53, 3) := by decide +kernel
theorem zd_Mod_as_21 : decode zb_Mod_as 21 = .ok (.ifCond .ne 10, 3) := by decide +kernel
theorem zd_Mod_as_24 : decode zb_Mod_as 24 = .ok (.aload_n 0, 1) := by decide +kernel
theorem zd_Mod_as_25 : decode zb_Mod_as 25 = .ok (.ldc 50, 2) := by decide +kernel
theorem zd_Mod_as_27 : decode zb_Mod_as 27 = .ok (.invokevirtual 64, 3) := by decide +kernel
theorem zd_Mod_as_30 : decode zb_Mod_as 30 = .ok (.ireturn, 1) := by decide +kernel
theorem zd_Mod_as_31 : decode zb_Mod_as 31 = .ok (.aload_n 0, 1) := by decide +kernel
theorem zd_Mod_as_32 : decode zb_Mod_as 32 = .ok (.getfield 7, 3) := by decide +kernel
theorem zd_Mod_as_35 : decode zb_Mod_as 35 = .ok (.sipush 132, 3) := by decide +kernel
theorem zd_Mod_as_38 : decode zb_Mod_as 38 = .ok (.iload_n 1, 1) := by decide +kernel
theorem zd_Mod_as_39 : decode zb_Mod_as 39 = .ok (.iadd, 1) := by decide +kernel
theorem zd_Mod_as_40 : decode zb_Mod_as 40 = .ok (.iaload, 1) := by decide +kernel
theorem zd_Mod_as_41 : decode zb_Mod_as 41 = .ok (.istore_n 3, 1) := by decide +kernel
theorem zd_Mod_as_42 : decode zb_Mod_as 42 = .ok (.iload_n 3, 1) := by decide +kernel
theorem zd_Mod_as_43 : decode zb_Mod_as 43 = .ok (.ifCond .ge 11, 3) := by decide +kernel
theorem zd_Mod_as_46 : decode zb_Mod_as 46 = .ok (.aload_n 0, 1) := by decide +kernel
theorem zd_Mod_as_47 : decode zb_Mod_as 47 = .ok (.ldc_w 345, 3) := by decide +kernel
theorem zd_Mod_as_50 : decode zb_Mod_as 50 = .ok (.invokevirtual 64, 3) := by decide +kernel
theorem zd_Mod_as_53 : decode zb_Mod_as 53 = .ok (.ireturn, 1) := by decide +kernel
theorem zd_Mod_as_54 : decode zb_Mod_as 54 = .ok (.aload_n 0, 1) := by decide +kernel
theorem zd_Mod_as_55 : decode zb_Mod_as 55 = .ok (.iload_n 3, 1) := by decide +kernel
theorem zd_Mod_as_56 : decode zb_Mod_as 56 = .ok (.iconst 0, 1) := by decide +kernel
theorem zd_Mod_as_57 : decode zb_Mod_as 57 = .ok (.invokevirtual 74, 3) := by decide +kernel
theorem zd_Mod_as_60 : decode zb_Mod_as 60 = .ok (.istore 4, 2) := by decide +kernel
theorem zd_Mod_as_62 : decode zb_Mod_as 62 = .ok (.iload_n 2, 1) := by decide +kernel
theorem zd_Mod_as_63 : decode zb_Mod_as 63 = .ok (.ifCond .eq 31, 3) := by decide +kernel
theorem zd_Mod_as_66 : decode zb_Mod_as 66 = .ok (.iload 4, 2) := by decide +kernel
theorem zd_Mod_as_68 : decode zb_Mod_as 68 = .ok (.iload_n 2, 1) := by decide +kernel
theorem zd_Mod_as_69 : decode zb_Mod_as 69 = .ok (.if_icmp .eq 25, 3) := by decide +kernel
theorem zd_Mod_as_72 : decode zb_Mod_as 72 = .ok (.iload_n 2, 1) := by decide +kernel
theorem zd_Mod_as_73 : decode zb_Mod_as 73 = .ok (.iconst 1, 1) := by decide +kernel
theorem zd_Mod_as_74 : decode zb_Mod_as 74 = .ok (.if_icmp .ne 9, 3) := by decide +kernel
theorem zd_Mod_as_77 : decode zb_Mod_as 77 = .ok (.iload 4, 2) := by decide +kernel
theorem zd_Mod_as_79 : decode zb_Mod_as 79 = .ok (.iconst 3, 1) := by decide +kernel
theorem zd_Mod_as_80 : decode zb_Mod_as 80 = .ok (.if_icmp .eq 14, 3) := by decide +kernel
theorem zd_Mod_as_83 : decode zb_Mod_as 83 = .ok (.iload_n 2, 1) := by decide +kernel
theorem zd_Mod_as_84 : decode zb_Mod_as 84 = .ok (.iconst 2, 1) := by decide +kernel
theorem zd_Mod_as_85 : decode zb_Mod_as 85 = .ok (.if_icmp .ne 13, 3) := by decide +kernel
theorem zd_Mod_as_88 : decode zb_Mod_as 88 = .ok (.iload 4, 2) := by decide +kernel
theorem zd_Mod_as_90 : decode zb_Mod_as 90 = .ok (.iconst 4, 1) := by decide +kernel
theorem zd_Mod_as_91 : decode zb_Mod_as 91 = .ok (.if_icmp .ne 7, 3) := by decide +kernel
theorem zd_Mod_as_94 : decode zb_Mod_as 94 = .ok (.iconst 1, 1) := by decide +kernel
theorem zd_Mod_as_95 : decode zb_Mod_as 95 = .ok (.goto 4, 3) := by decide +kernel
theorem zd_Mod_as_98 : decode zb_Mod_as 98 = .ok (.iconst 0, 1) := by decide +kernel
theorem zd_Mod_as_99 : decode zb_Mod_as 99 = .ok (.istore 5, 2) := by decide +kernel
theorem zd_Mod_as_101 : decode zb_Mod_as 101 = .ok (.iload 5, 2) := by decide +kernel
theorem zd_Mod_as_103 : decode zb_Mod_as 103 = .ok (.ifCond .eq 7, 3) := by decide +kernel
theorem zd_Mod_as_106 : decode zb_Mod_as 106 = .ok (.iload_n 3, 1) := by decide +kernel
theorem zd_Mod_as_107 : decode zb_Mod_as 107 = .ok (.goto 10, 3) := by decide +kernel
theorem zd_Mod_as_110 : decode zb_Mod_as 110 = .ok (.aload_n 0, 1) := by decide +kernel
theorem zd_Mod_as_111 : decode zb_Mod_as 111 = .ok (.ldc_w 346, 3) := by decide +kernel
theorem zd_Mod_as_114 : decode zb_Mod_as 114 = .ok (.invokevirtual 64, 3) := by decide +kernel
theorem zd_Mod_as_117 : decode zb_Mod_as 117 = .ok (.ireturn, 1) := by decide +kernel
set_option maxHeartbeats 4000000 in
theorem zl_Mod_as_L117 {p : Program} {l : Launch} {e : Env} {s : State} {m : MethodId} {args : Array Value} {below : List Frame} {meth : Method} {c : Code} {D : va_G} {cA : Nat → ClassId} {ad : Nat → Nat} {A : Nat → Prop} (B : zu_B p s m args c zb_Mod_as 6 "StonePostModel" D cA ad A) (hret : meth.sig.returnType = (some .int)) (hlk : meth.locks = false) {Y : LX} {res : Int32 × IX} (y0 : Int32) (X : IX) (H : Heap) (locs : List Loc) (ls : Array Slot) (hP : va_P D zu_cl (zu_pic cA ad X Y) H) (hS : va_S A s.heap H locs) (hl : lv_has ls 6 []) (hf : fn_Mod_as_L117 y0 X = some res) : W p l e zR_Mod_as s m args below meth c H locs 0 0 (MQ below (zu_Qi D cA ad A res.1 res.2 Y) args s 0 0 A) (F0 m 117 ls [.int y0]) := by
  obtain ⟨hx, hb, hml, hown, hts, hST⟩ := id B
  unfold fn_Mod_as_L117 at hf
  obtain rfl := Option.some.inj hf
  exact zr_iret hx hb hret hlk hP hS zd_Mod_as_117
set_option maxHeartbeats 4000000 in
theorem zl_Mod_as_L99 {p : Program} {l : Launch} {e : Env} {s : State} {m : MethodId} {args : Array Value} {below : List Frame} {meth : Method} {c : Code} {D : va_G} {cA : Nat → ClassId} {ad : Nat → Nat} {A : Nat → Prop} (B : zu_B p s m args c zb_Mod_as 6 "StonePostModel" D cA ad A) (hret : meth.sig.returnType = (some .int)) (hlk : meth.locks = false) {Y : LX} {res : Int32 × IX} (x3 : Int32) (y0 : Int32) (X : IX) (H : Heap) (locs : List Loc) (ls : Array Slot) (hP : va_P D zu_cl (zu_pic cA ad X Y) H) (hS : va_S A s.heap H locs) (hl : lv_has ls 6 [(0, .ref (ad 95)), (3, .int x3)]) (hf : fn_Mod_as_L99 x3 y0 X = some res) : W p l e zR_Mod_as s m args below meth c H locs 0 0 (MQ below (zu_Qi D cA ad A res.1 res.2 Y) args s 0 0 A) (F0 m 99 ls [.int y0]) := by
  obtain ⟨hx, hb, hml, hown, hts, hST⟩ := id B
  unfold fn_Mod_as_L99 at hf
  refine lv_istore (lv' := [(5, .int y0), (0, .ref (ad 95)), (3, .int x3)]) hx hb zd_Mod_as_99 hl (by decide) rfl (fun ls hl => ?_)
  refine lv_iload hx hb zd_Mod_as_101 (lv_at hl 0 rfl) ?_
  refine lv_if_eq (tgt := 110) hx hb zd_Mod_as_103 (by decide) (fun c24 => ?_) (fun c24 => ?_)
  · have hf := zu_t c24 hf
    refine lv_aload_n hx hb zd_Mod_as_110 rfl (lv_at hl 1 rfl) ?_
    refine lv_ldcw (v := -1000003) hx hb hown (hts _ zq_1335) zd_Mod_as_111 ?_
    obtain ⟨v25, X26, hq27, hf⟩ := zu_b2_e hf
    refine zw_Mod_finds (rest := []) B hP hS hq27 zq_944 (Nat.le_of_ble_eq_true rfl) (Nat.le_of_ble_eq_true rfl) hl.1 rfl (Nat.le_of_ble_eq_true rfl) zd_Mod_as_114 (by decide) (fun H locs hP hS => ?_)
    clear hq27
    exact zl_Mod_as_L117 B hret hlk v25 X26 _ _ _ hP hS (lv_sub hl [] rfl) hf
  · have hf := zu_f c24 hf
    refine lv_iload_n hx hb zd_Mod_as_106 rfl (lv_at hl 2 rfl) ?_
    refine lv_goto (tgt := 117) hx hb zd_Mod_as_107 (by decide) ?_
    exact zl_Mod_as_L117 B hret hlk x3 X _ _ _ hP hS (lv_sub hl [] rfl) hf
set_option maxHeartbeats 4000000 in
theorem zl_Mod_as_L98 {p : Program} {l : Launch} {e : Env} {s : State} {m : MethodId} {args : Array Value} {below : List Frame} {meth : Method} {c : Code} {D : va_G} {cA : Nat → ClassId} {ad : Nat → Nat} {A : Nat → Prop} (B : zu_B p s m args c zb_Mod_as 6 "StonePostModel" D cA ad A) (hret : meth.sig.returnType = (some .int)) (hlk : meth.locks = false) {Y : LX} {res : Int32 × IX} (x3 : Int32) (X : IX) (H : Heap) (locs : List Loc) (ls : Array Slot) (hP : va_P D zu_cl (zu_pic cA ad X Y) H) (hS : va_S A s.heap H locs) (hl : lv_has ls 6 [(0, .ref (ad 95)), (3, .int x3)]) (hf : fn_Mod_as_L98 x3 X = some res) : W p l e zR_Mod_as s m args below meth c H locs 0 0 (MQ below (zu_Qi D cA ad A res.1 res.2 Y) args s 0 0 A) (F0 m 98 ls []) := by
  obtain ⟨hx, hb, hml, hown, hts, hST⟩ := id B
  unfold fn_Mod_as_L98 at hf
  refine lv_iconst (v := 0) hx hb zd_Mod_as_98 (by decide) ?_
  exact zl_Mod_as_L99 B hret hlk x3 (0 : Int32) X _ _ _ hP hS (lv_sub hl [0, 1] rfl) hf
set_option maxHeartbeats 4000000 in
theorem zl_Mod_as_L94 {p : Program} {l : Launch} {e : Env} {s : State} {m : MethodId} {args : Array Value} {below : List Frame} {meth : Method} {c : Code} {D : va_G} {cA : Nat → ClassId} {ad : Nat → Nat} {A : Nat → Prop} (B : zu_B p s m args c zb_Mod_as 6 "StonePostModel" D cA ad A) (hret : meth.sig.returnType = (some .int)) (hlk : meth.locks = false) {Y : LX} {res : Int32 × IX} (x3 : Int32) (X : IX) (H : Heap) (locs : List Loc) (ls : Array Slot) (hP : va_P D zu_cl (zu_pic cA ad X Y) H) (hS : va_S A s.heap H locs) (hl : lv_has ls 6 [(0, .ref (ad 95)), (3, .int x3)]) (hf : fn_Mod_as_L94 x3 X = some res) : W p l e zR_Mod_as s m args below meth c H locs 0 0 (MQ below (zu_Qi D cA ad A res.1 res.2 Y) args s 0 0 A) (F0 m 94 ls []) := by
  obtain ⟨hx, hb, hml, hown, hts, hST⟩ := id B
  unfold fn_Mod_as_L94 at hf
  refine lv_iconst (v := 1) hx hb zd_Mod_as_94 (by decide) ?_
  refine lv_goto (tgt := 99) hx hb zd_Mod_as_95 (by decide) ?_
  exact zl_Mod_as_L99 B hret hlk x3 (1 : Int32) X _ _ _ hP hS (lv_sub hl [0, 1] rfl) hf
set_option maxHeartbeats 4000000 in
theorem zl_Mod_as_L83 {p : Program} {l : Launch} {e : Env} {s : State} {m : MethodId} {args : Array Value} {below : List Frame} {meth : Method} {c : Code} {D : va_G} {cA : Nat → ClassId} {ad : Nat → Nat} {A : Nat → Prop} (B : zu_B p s m args c zb_Mod_as 6 "StonePostModel" D cA ad A) (hret : meth.sig.returnType = (some .int)) (hlk : meth.locks = false) {Y : LX} {res : Int32 × IX} (x2 : Int32) (x3 : Int32) (x4 : Int32) (X : IX) (H : Heap) (locs : List Loc) (ls : Array Slot) (hP : va_P D zu_cl (zu_pic cA ad X Y) H) (hS : va_S A s.heap H locs) (hl : lv_has ls 6 [(0, .ref (ad 95)), (2, .int x2), (3, .int x3), (4, .int x4)]) (hf : fn_Mod_as_L83 x2 x3 x4 X = some res) : W p l e zR_Mod_as s m args below meth c H locs 0 0 (MQ below (zu_Qi D cA ad A res.1 res.2 Y) args s 0 0 A) (F0 m 83 ls []) := by
  obtain ⟨hx, hb, hml, hown, hts, hST⟩ := id B
  unfold fn_Mod_as_L83 at hf
  refine lv_iload_n hx hb zd_Mod_as_83 rfl (lv_at hl 1 rfl) ?_
  refine lv_iconst (v := 2) hx hb zd_Mod_as_84 (by decide) ?_
  refine lv_icmp_ne (tgt := 98) hx hb zd_Mod_as_85 (by decide) (fun c22 => ?_) (fun c22 => ?_)
  · have hf := zu_f c22 hf
    exact zl_Mod_as_L98 B hret hlk x3 X _ _ _ hP hS (lv_sub hl [0, 2] rfl) hf
  · have hf := zu_t c22 hf
    refine lv_iload hx hb zd_Mod_as_88 (lv_at hl 3 rfl) ?_
    refine lv_iconst (v := 4) hx hb zd_Mod_as_90 (by decide) ?_
    refine lv_icmp_ne (tgt := 98) hx hb zd_Mod_as_91 (by decide) (fun c23 => ?_) (fun c23 => ?_)
    · have hf := zu_f c23 hf
      exact zl_Mod_as_L98 B hret hlk x3 X _ _ _ hP hS (lv_sub hl [0, 2] rfl) hf
    · have hf := zu_t c23 hf
      exact zl_Mod_as_L94 B hret hlk x3 X _ _ _ hP hS (lv_sub hl [0, 2] rfl) hf
set_option maxHeartbeats 4000000 in
theorem zl_Mod_as_L24 {p : Program} {l : Launch} {e : Env} {s : State} {m : MethodId} {args : Array Value} {below : List Frame} {meth : Method} {c : Code} {D : va_G} {cA : Nat → ClassId} {ad : Nat → Nat} {A : Nat → Prop} (B : zu_B p s m args c zb_Mod_as 6 "StonePostModel" D cA ad A) (hret : meth.sig.returnType = (some .int)) (hlk : meth.locks = false) {Y : LX} {res : Int32 × IX} (X : IX) (H : Heap) (locs : List Loc) (ls : Array Slot) (hP : va_P D zu_cl (zu_pic cA ad X Y) H) (hS : va_S A s.heap H locs) (hl : lv_has ls 6 [(0, .ref (ad 95))]) (hf : fn_Mod_as_L24 X = some res) : W p l e zR_Mod_as s m args below meth c H locs 0 0 (MQ below (zu_Qi D cA ad A res.1 res.2 Y) args s 0 0 A) (F0 m 24 ls []) := by
  obtain ⟨hx, hb, hml, hown, hts, hST⟩ := id B
  unfold fn_Mod_as_L24 at hf
  refine lv_aload_n hx hb zd_Mod_as_24 rfl (lv_at hl 0 rfl) ?_
  refine lv_ldc (v := -1000001) hx hb hown (hts _ zq_943) zd_Mod_as_25 ?_
  obtain ⟨v19, X20, hq21, hf⟩ := zu_b2_e hf
  refine zw_Mod_finds (rest := []) B hP hS hq21 zq_944 (Nat.le_of_ble_eq_true rfl) (Nat.le_of_ble_eq_true rfl) hl.1 rfl (Nat.le_of_ble_eq_true rfl) zd_Mod_as_27 (by decide) (fun H locs hP hS => ?_)
  clear hq21
  obtain rfl := Option.some.inj hf
  exact zr_iret hx hb hret hlk hP hS zd_Mod_as_30
set_option maxHeartbeats 4000000 in
theorem zl_Mod_as {p : Program} {l : Launch} {e : Env} {s : State} {m : MethodId} {args : Array Value} {below : List Frame} {meth : Method} {c : Code} {D : va_G} {cA : Nat → ClassId} {ad : Nat → Nat} {A : Nat → Prop} (B : zu_B p s m args c zb_Mod_as 6 "StonePostModel" D cA ad A) (hret : meth.sig.returnType = (some .int)) (hlk : meth.locks = false) {Y : LX} {res : Int32 × IX} {a1 : Int32} {a2 : Int32} {X : IX} (H : Heap) (locs : List Loc) (ls : Array Slot) (hP : va_P D zu_cl (zu_pic cA ad X Y) H) (hS : va_S A s.heap H locs) (hl : lv_has ls 6 [(0, .ref (ad 95)), (1, .int a1), (2, .int a2)]) (hf : fn_Mod_as a1 a2 X = some res) : W p l e zR_Mod_as s m args below meth c H locs 0 0 (MQ below (zu_Qi D cA ad A res.1 res.2 Y) args s 0 0 A) (F0 m 0 ls []) := by
  obtain ⟨hx, hb, hml, hown, hts, hST⟩ := id B
  unfold fn_Mod_as at hf
  refine lv_iload_n hx hb zd_Mod_as_0 rfl (lv_at hl 1 rfl) ?_
  refine lv_i2l hx hb zd_Mod_as_1 rfl ?_
  refine lv_lconst (v := 0) hx hb zd_Mod_as_2 (by decide) ?_
  refine lv_ldc2 (v := 9) hx hb hown (hts _ zq_952) zd_Mod_as_3 ?_
  obtain ⟨v1, hq2, hf⟩ := zu_b1_e hf
  refine zw_Mod_in (rest := []) B hP hS hq2 zq_939 (Nat.le_of_ble_eq_true rfl) (Nat.le_of_ble_eq_true rfl) hl.1 rfl (Nat.le_of_ble_eq_true rfl) zd_Mod_as_6 (by decide) (fun H locs hP hS => ?_)
  clear hq2
  refine lv_if_eq (tgt := 24) hx hb zd_Mod_as_9 (by decide) (fun c3 => ?_) (fun c3 => ?_)
  · have hf := zu_t c3 hf
    exact zl_Mod_as_L24 B hret hlk X _ _ _ hP hS (lv_sub hl [0] rfl) hf
  · have hf := zu_f c3 hf
    refine lv_iload_n hx hb zd_Mod_as_12 rfl (lv_at hl 2 rfl) ?_
    refine lv_i2l hx hb zd_Mod_as_13 rfl ?_
    refine lv_lconst (v := 0) hx hb zd_Mod_as_14 (by decide) ?_
    refine lv_ldc2 (v := 6) hx hb hown (hts _ zq_957) zd_Mod_as_15 ?_
    obtain ⟨v4, hq5, hf⟩ := zu_b1_e hf
    refine zw_Mod_in (rest := []) B hP hS hq5 zq_939 (Nat.le_of_ble_eq_true rfl) (Nat.le_of_ble_eq_true rfl) hl.1 rfl (Nat.le_of_ble_eq_true rfl) zd_Mod_as_18 (by decide) (fun H locs hP hS => ?_)
    clear hq5
    refine lv_if_ne (tgt := 31) hx hb zd_Mod_as_21 (by decide) (fun c6 => ?_) (fun c6 => ?_)
    · have hf := zu_f c6 hf
      refine lv_aload_n hx hb zd_Mod_as_31 rfl (lv_at hl 0 rfl) ?_
      refine zg_Mod_s B hP rfl zq_861 zd_Mod_as_32 ?_
      refine lv_sipush (v := 132) hx hb zd_Mod_as_35 (by decide) ?_
      refine lv_iload_n hx hb zd_Mod_as_38 rfl (lv_at hl 1 rfl) ?_
      refine lv_iadd hx hb zd_Mod_as_39 ?_
      obtain ⟨hg7, hf⟩ := zu_gd_e hf
      refine zr_iald rfl B hP rfl (by decide) rfl hg7 zd_Mod_as_40 ?_
      refine zr_nxi hf (fun v8 hf => ?_)
      refine lv_istore_n (lv' := [(3, .int v8), (0, .ref (ad 95)), (1, .int a1), (2, .int a2)]) hx hb zd_Mod_as_41 rfl hl (by decide) rfl (fun ls hl => ?_)
      refine lv_iload_n hx hb zd_Mod_as_42 rfl (lv_at hl 0 rfl) ?_
      refine lv_if_ge (tgt := 54) hx hb zd_Mod_as_43 (by decide) (fun c9 => ?_) (fun c9 => ?_)
      · have hf := zu_t c9 hf
        refine lv_aload_n hx hb zd_Mod_as_54 rfl (lv_at hl 1 rfl) ?_
        refine lv_iload_n hx hb zd_Mod_as_55 rfl (lv_at hl 0 rfl) ?_
        refine lv_iconst (v := 0) hx hb zd_Mod_as_56 (by decide) ?_
        obtain ⟨v10, hq11, hf⟩ := zu_b1_e hf
        refine zw_Mod_its (rest := []) B hP hS hq11 zq_962 (Nat.le_of_ble_eq_true rfl) (Nat.le_of_ble_eq_true rfl) hl.1 rfl (Nat.le_of_ble_eq_true rfl) zd_Mod_as_57 (by decide) (fun H locs hP hS => ?_)
        clear hq11
        refine lv_istore (lv' := [(4, .int v10), (3, .int v8), (0, .ref (ad 95)), (1, .int a1), (2, .int a2)]) hx hb zd_Mod_as_60 hl (by decide) rfl (fun ls hl => ?_)
        refine lv_iload_n hx hb zd_Mod_as_62 rfl (lv_at hl 4 rfl) ?_
        refine lv_if_eq (tgt := 94) hx hb zd_Mod_as_63 (by decide) (fun c12 => ?_) (fun c12 => ?_)
        · have hf := zu_t c12 hf
          exact zl_Mod_as_L94 B hret hlk v8 X _ _ _ hP hS (lv_sub hl [2, 1] rfl) hf
        · have hf := zu_f c12 hf
          refine lv_iload hx hb zd_Mod_as_66 (lv_at hl 0 rfl) ?_
          refine lv_iload_n hx hb zd_Mod_as_68 rfl (lv_at hl 4 rfl) ?_
          refine lv_icmp_eq (tgt := 94) hx hb zd_Mod_as_69 (by decide) (fun c13 => ?_) (fun c13 => ?_)
          · have hf := zu_t c13 hf
            exact zl_Mod_as_L94 B hret hlk v8 X _ _ _ hP hS (lv_sub hl [2, 1] rfl) hf
          · have hf := zu_f c13 hf
            refine lv_iload_n hx hb zd_Mod_as_72 rfl (lv_at hl 4 rfl) ?_
            refine lv_iconst (v := 1) hx hb zd_Mod_as_73 (by decide) ?_
            refine lv_icmp_ne (tgt := 83) hx hb zd_Mod_as_74 (by decide) (fun c14 => ?_) (fun c14 => ?_)
            · have hf := zu_f c14 hf
              exact zl_Mod_as_L83 B hret hlk a2 v8 v10 X _ _ _ hP hS (lv_sub hl [2, 4, 1, 0] rfl) hf
            · have hf := zu_t c14 hf
              refine lv_iload hx hb zd_Mod_as_77 (lv_at hl 0 rfl) ?_
              refine lv_iconst (v := 3) hx hb zd_Mod_as_79 (by decide) ?_
              refine lv_icmp_eq (tgt := 94) hx hb zd_Mod_as_80 (by decide) (fun c15 => ?_) (fun c15 => ?_)
              · have hf := zu_t c15 hf
                exact zl_Mod_as_L94 B hret hlk v8 X _ _ _ hP hS (lv_sub hl [2, 1] rfl) hf
              · have hf := zu_f c15 hf
                exact zl_Mod_as_L83 B hret hlk a2 v8 v10 X _ _ _ hP hS (lv_sub hl [2, 4, 1, 0] rfl) hf
      · have hf := zu_f c9 hf
        refine lv_aload_n hx hb zd_Mod_as_46 rfl (lv_at hl 1 rfl) ?_
        refine lv_ldcw (v := -1000006) hx hb hown (hts _ zq_1334) zd_Mod_as_47 ?_
        obtain ⟨v16, X17, hq18, hf⟩ := zu_b2_e hf
        refine zw_Mod_finds (rest := []) B hP hS hq18 zq_944 (Nat.le_of_ble_eq_true rfl) (Nat.le_of_ble_eq_true rfl) hl.1 rfl (Nat.le_of_ble_eq_true rfl) zd_Mod_as_50 (by decide) (fun H locs hP hS => ?_)
        clear hq18
        obtain rfl := Option.some.inj hf
        exact zr_iret hx hb hret hlk hP hS zd_Mod_as_53
    · have hf := zu_t c6 hf
      exact zl_Mod_as_L24 B hret hlk X _ _ _ hP hS (lv_sub hl [0] rfl) hf
theorem zC_Mod_as (l : Launch) {D : va_G} {cA : Nat → ClassId} {ad : Nat → Nat} {A : Nat → Prop} {a1 : Int32} {a2 : Int32} {X : IX} {Y : LX} {res : Int32 × IX} (hf : fn_Mod_as a1 a2 X = some res) : Met l zm_Mod_as (zu_ws zm_Mod_as zb_Mod_as 6 (some .int)) zR_Mod_as (va_Pc [.ref (ad 95), .int a1, .int a2] (zu_Pre D cA ad A X Y)) (zu_Qi D cA ad A res.1 res.2 Y) 0 0 A := by
  refine Met.ofW (cc := zb_Mod_as) (maxL := 6) (ret := (some .int)) (by decide +kernel) rfl ?_
  intro p e s m args below meth c s₁ B0 hml hv
  obtain ⟨rfl, hP, hST⟩ := hv
  have B : zu_B p s m _ c zb_Mod_as 6 "StonePostModel" D cA ad A := ⟨B0.exec, B0.bytes, hml, findClass_of_methodNamed B0.named, (fun w hw => atoms_spec (ws := zu_ws zm_Mod_as zb_Mod_as 6 (some .int)) B0.pre w (List.mem_cons_of_mem _ hw)), hST⟩
  have hl := lv_entry ([.ref (ad 95), .int a1, .int a2]) (n := 6) (Nat.le_of_ble_eq_true rfl)
  rw [lg_entry_eq]
  generalize (lg_sl ([.ref (ad 95), .int a1, .int a2]) ++ List.replicate (6 - (lg_sl ([.ref (ad 95), .int a1, .int a2])).length) Slot.unset).toArray = ls at hl ⊢
  exact zl_Mod_as B B0.returns B0.notSynchronized s.heap [] ls hP va_S.rf hl  hf
theorem zw_Mod_as {p : Program} {l : Launch} {e : Env} {R : Room} {s : State} {m : MethodId} {args : Array Value} {below : List Frame} {meth : Method} {c : Code} {H : Heap} {locs : List Loc} {cells slots : Nat} {Q : State → Prop} {cc : ByteArray} {pc nL : Nat} {ls : Array Slot} {rest st0 : List Value} {D : va_G} {cA : Nat → ClassId} {ad : Nat → Nat} {A : Nat → Prop} {X : IX} {Y : LX} {own : String} {index : Nat} {a1 : Int32} {a2 : Int32} {v1 : Int32} {X1 : IX} (B : zu_B p s m args c cc nL own D cA ad A) (hP : va_P D zu_cl (zu_pic cA ad X Y) H) (hS : va_S A s.heap H locs) (hq : fn_Mod_as a1 a2 X = some (v1, X1)) (m1 : Cond.methodLink own index zm_Mod_as ∈ zu_TB) (hR1 : 2 + 1 ≤ R.frames) (hR2 : 8 + (6 + 11) + 43 ≤ R.locals) (hsz : ls.size = nL) (hst : st0 = .int a2 :: .int a1 :: .ref (ad 95) :: rest) (hw : (rest.map fun v => v.category).sum ≤ 8) (hdg : decode cc pc = .ok (.invokevirtual index, 3)) (h00 : cells ≤ R.cells ∧ slots ≤ R.slots) (kk : ∀ (H1 : Heap) (locs1 : List Loc), va_P D zu_cl (zu_pic cA ad X1 Y) H1 → va_S A s.heap H1 locs1 → W p l e R s m args below meth c H1 locs1 cells slots Q (F0 m (pc + 3) ls (.int v1 :: rest))) : W p l e R s m args below meth c H locs cells slots Q (F0 m pc ls st0) := by
  subst hst
  exact zr_cVi (As := [.int a1, .int a2]) (rest := rest) (n := 2) (C := "StonePostModel") (T := zt_Mod) (N := 23) B hP hS (zC_Mod_as l  hq) (K := 7) rfl (by decide) (by decide) rfl rfl m1 zq_1331 zq_1332 zq_8 zq_1333 (by decide +kernel) ⟨hR1, hR2⟩ rfl rfl rfl hsz rfl hw hdg h00 kk
abbrev zR_Mod_isOne : Room := { frames := 1, cells := 0, slots := 0, locals := 25 }
theorem zd_Mod_isOne_0 : decode zb_Mod_isOne 0 = .ok (.iload_n 0, 1) := by decide +kernel
theorem zd_Mod_isOne_1 : decode zb_Mod_isOne 1 = .ok (.i2l, 1) := by decide +kernel
theorem zd_Mod_isOne_2 : decode zb_Mod_isOne 2 = .ok (.lconst 0, 1) := by decide +kernel
theorem zd_Mod_isOne_3 : decode zb_Mod_isOne 3 = .ok (.ldc2_w 62, 3) := by decide +kernel
theorem zd_Mod_isOne_6 : decode zb_Mod_isOne 6 = .ok (.invokestatic 53, 3) := by decide +kernel
theorem zd_Mod_isOne_9 : decode zb_Mod_isOne 9 = .ok (.ireturn, 1) := by decide +kernel
set_option maxHeartbeats 4000000 in
theorem zl_Mod_isOne {p : Program} {l : Launch} {e : Env} {s : State} {m : MethodId} {args : Array Value} {below : List Frame} {meth : Method} {c : Code} {D : va_G} {cA : Nat → ClassId} {ad : Nat → Nat} {A : Nat → Prop} (B : zu_B p s m args c zb_Mod_isOne 1 "StonePostModel" D cA ad A) (hret : meth.sig.returnType = (some .boolean)) (hlk : meth.locks = false) {X : IX} {Y : LX} {res : Int32} {a0 : Int32} (H : Heap) (locs : List Loc) (ls : Array Slot) (hP : va_P D zu_cl (zu_pic cA ad X Y) H) (hS : va_S A s.heap H locs) (hl : lv_has ls 1 [(0, .int a0)]) (hf : fn_Mod_isOne a0 = some res) : W p l e zR_Mod_isOne s m args below meth c H locs 0 0 (MQ below (zu_Qi D cA ad A res X Y) args s 0 0 A) (F0 m 0 ls []) := by
  obtain ⟨hx, hb, hml, hown, hts, hST⟩ := id B
  unfold fn_Mod_isOne at hf
  refine lv_iload_n hx hb zd_Mod_isOne_0 rfl (lv_at hl 0 rfl) ?_
  refine lv_i2l hx hb zd_Mod_isOne_1 rfl ?_
  refine lv_lconst (v := 0) hx hb zd_Mod_isOne_2 (by decide) ?_
  refine lv_ldc2 (v := 3) hx hb hown (hts _ zq_942) zd_Mod_isOne_3 ?_
  obtain ⟨v1, hq2, hf⟩ := zu_b1_e hf
  refine zw_Mod_in (rest := []) B hP hS hq2 zq_939 (Nat.le_of_ble_eq_true rfl) (Nat.le_of_ble_eq_true rfl) hl.1 rfl (Nat.le_of_ble_eq_true rfl) zd_Mod_isOne_6 (by decide) (fun H locs hP hS => ?_)
  clear hq2
  obtain ⟨hg3, hf⟩ := zu_gd_e hf
  obtain rfl := Option.some.inj hf
  exact zr_zret hx hb hret hlk hP hS hg3 zd_Mod_isOne_9
theorem zC_Mod_isOne (l : Launch) {D : va_G} {cA : Nat → ClassId} {ad : Nat → Nat} {A : Nat → Prop} {a0 : Int32} {X : IX} {Y : LX} {res : Int32} (hf : fn_Mod_isOne a0 = some res) : Met l zm_Mod_isOne (zu_ws zm_Mod_isOne zb_Mod_isOne 1 (some .boolean)) zR_Mod_isOne (va_Pc [.int a0] (zu_Pre D cA ad A X Y)) (zu_Qi D cA ad A res X Y) 0 0 A := by
  refine Met.ofW (cc := zb_Mod_isOne) (maxL := 1) (ret := (some .boolean)) (by decide +kernel) rfl ?_
  intro p e s m args below meth c s₁ B0 hml hv
  obtain ⟨rfl, hP, hST⟩ := hv
  have B : zu_B p s m _ c zb_Mod_isOne 1 "StonePostModel" D cA ad A := ⟨B0.exec, B0.bytes, hml, findClass_of_methodNamed B0.named, (fun w hw => atoms_spec (ws := zu_ws zm_Mod_isOne zb_Mod_isOne 1 (some .boolean)) B0.pre w (List.mem_cons_of_mem _ hw)), hST⟩
  have hl := lv_entry ([.int a0]) (n := 1) (Nat.le_of_ble_eq_true rfl)
  rw [lg_entry_eq]
  generalize (lg_sl ([.int a0]) ++ List.replicate (1 - (lg_sl ([.int a0])).length) Slot.unset).toArray = ls at hl ⊢
  exact zl_Mod_isOne B B0.returns B0.notSynchronized s.heap [] ls hP va_S.rf hl  hf
theorem zw_Mod_isOne {p : Program} {l : Launch} {e : Env} {R : Room} {s : State} {m : MethodId} {args : Array Value} {below : List Frame} {meth : Method} {c : Code} {H : Heap} {locs : List Loc} {cells slots : Nat} {Q : State → Prop} {cc : ByteArray} {pc nL : Nat} {ls : Array Slot} {rest st0 : List Value} {D : va_G} {cA : Nat → ClassId} {ad : Nat → Nat} {A : Nat → Prop} {X : IX} {Y : LX} {own : String} {index : Nat} {a0 : Int32} {v1 : Int32} (B : zu_B p s m args c cc nL own D cA ad A) (hP : va_P D zu_cl (zu_pic cA ad X Y) H) (hS : va_S A s.heap H locs) (hq : fn_Mod_isOne a0 = some v1) (m1 : Cond.methodLink own index zm_Mod_isOne ∈ zu_TB) (hR1 : 1 + 1 ≤ R.frames) (hR2 : 8 + (1 + 11) + 25 ≤ R.locals) (hsz : ls.size = nL) (hst : st0 = .int a0 ::  rest) (hw : (rest.map fun v => v.category).sum ≤ 8) (hdg : decode cc pc = .ok (.invokestatic index, 3)) (h00 : cells ≤ R.cells ∧ slots ≤ R.slots) (kk : ∀ (H1 : Heap) (locs1 : List Loc), va_P D zu_cl (zu_pic cA ad X Y) H1 → va_S A s.heap H1 locs1 → W p l e R s m args below meth c H1 locs1 cells slots Q (F0 m (pc + 3) ls (.int v1 :: rest))) : W p l e R s m args below meth c H locs cells slots Q (F0 m pc ls st0) := by
  subst hst
  exact zr_cSi (As := [.int a0]) (rest := rest) (n := 1) B hP hS (zC_Mod_isOne l  hq) m1 zq_1341 zq_8 zq_1342 (by decide +kernel) ⟨hR1, hR2⟩ rfl rfl rfl hsz rfl hw hdg h00 kk
abbrev zR_Mod_sheet : Room := { frames := 2, cells := 0, slots := 0, locals := 45 }
theorem zd_Mod_sheet_0 : decode zb_Mod_sheet 0 = .ok (.iload_n 1, 1) := by decide +kernel
theorem zd_Mod_sheet_1 : decode zb_Mod_sheet 1 = .ok (.invokestatic 347, 3) := by decide +kernel
theorem zd_Mod_sheet_4 : decode zb_Mod_sheet 4 = .ok (.ifCond .eq 25, 3) := by decide +kernel
theorem zd_Mod_sheet_7 : decode zb_Mod_sheet 7 = .ok (.iload_n 2, 1) := by decide +kernel
theorem zd_Mod_sheet_8 : decode zb_Mod_sheet 8 = .ok (.ifCond .eq 28, 3) := by decide +kernel
theorem zd_Mod_sheet_11 : decode zb_Mod_sheet 11 = .ok (.iload_n 2, 1) := by decide +kernel
theorem zd_Mod_sheet_12 : decode zb_Mod_sheet 12 = .ok (.bipush 8, 2) := by decide +kernel
theorem zd_Mod_sheet_14 : decode zb_Mod_sheet 14 = .ok (.if_icmp .eq 22, 3) := by decide +kernel
theorem zd_Mod_sheet_17 : decode zb_Mod_sheet 17 = .ok (.iload_n 2, 1) := by decide +kernel
theorem zd_Mod_sheet_18 : decode zb_Mod_sheet 18 = .ok (.bipush 16, 2) := by decide +kernel
theorem zd_Mod_sheet_20 : decode zb_Mod_sheet 20 = .ok (.if_icmp .eq 16, 3) := by decide +kernel
theorem zd_Mod_sheet_23 : decode zb_Mod_sheet 23 = .ok (.iload_n 2, 1) := by decide +kernel
theorem zd_Mod_sheet_24 : decode zb_Mod_sheet 24 = .ok (.bipush 32, 2) := by decide +kernel
theorem zd_Mod_sheet_26 : decode zb_Mod_sheet 26 = .ok (.if_icmp .eq 10, 3) := by decide +kernel
theorem zd_Mod_sheet_29 : decode zb_Mod_sheet 29 = .ok (.aload_n 0, 1) := by decide +kernel
theorem zd_Mod_sheet_30 : decode zb_Mod_sheet 30 = .ok (.ldc 50, 2) := by decide +kernel
theorem zd_Mod_sheet_32 : decode zb_Mod_sheet 32 = .ok (.invokevirtual 64, 3) := by decide +kernel
theorem zd_Mod_sheet_35 : decode zb_Mod_sheet 35 = .ok (.ireturn, 1) := by decide +kernel
theorem zd_Mod_sheet_36 : decode zb_Mod_sheet 36 = .ok (.iload_n 3, 1) := by decide +kernel
theorem zd_Mod_sheet_37 : decode zb_Mod_sheet 37 = .ok (.ifCond .ge 10, 3) := by decide +kernel
theorem zd_Mod_sheet_40 : decode zb_Mod_sheet 40 = .ok (.aload_n 0, 1) := by decide +kernel
theorem zd_Mod_sheet_41 : decode zb_Mod_sheet 41 = .ok (.ldc 201, 2) := by decide +kernel
theorem zd_Mod_sheet_43 : decode zb_Mod_sheet 43 = .ok (.invokevirtual 64, 3) := by decide +kernel
theorem zd_Mod_sheet_46 : decode zb_Mod_sheet 46 = .ok (.ireturn, 1) := by decide +kernel
theorem zd_Mod_sheet_47 : decode zb_Mod_sheet 47 = .ok (.iload_n 3, 1) := by decide +kernel
theorem zd_Mod_sheet_48 : decode zb_Mod_sheet 48 = .ok (.bipush 40, 2) := by decide +kernel
theorem zd_Mod_sheet_50 : decode zb_Mod_sheet 50 = .ok (.if_icmp .le 10, 3) := by decide +kernel
theorem zd_Mod_sheet_53 : decode zb_Mod_sheet 53 = .ok (.aload_n 0, 1) := by decide +kernel
theorem zd_Mod_sheet_54 : decode zb_Mod_sheet 54 = .ok (.ldc 50, 2) := by decide +kernel
theorem zd_Mod_sheet_56 : decode zb_Mod_sheet 56 = .ok (.invokevirtual 64, 3) := by decide +kernel
theorem zd_Mod_sheet_59 : decode zb_Mod_sheet 59 = .ok (.ireturn, 1) := by decide +kernel
theorem zd_Mod_sheet_60 : decode zb_Mod_sheet 60 = .ok (.aload_n 0, 1) := by decide +kernel
theorem zd_Mod_sheet_61 : decode zb_Mod_sheet 61 = .ok (.getfield 38, 3) := by decide +kernel
theorem zd_Mod_sheet_64 : decode zb_Mod_sheet 64 = .ok (.iload_n 1, 1) := by decide +kernel
theorem zd_Mod_sheet_65 : decode zb_Mod_sheet 65 = .ok (.iload_n 2, 1) := by decide +kernel
theorem zd_Mod_sheet_66 : decode zb_Mod_sheet 66 = .ok (.iastore, 1) := by decide +kernel
theorem zd_Mod_sheet_67 : decode zb_Mod_sheet 67 = .ok (.aload_n 0, 1) := by decide +kernel
theorem zd_Mod_sheet_68 : decode zb_Mod_sheet 68 = .ok (.getfield 41, 3) := by decide +kernel
theorem zd_Mod_sheet_71 : decode zb_Mod_sheet 71 = .ok (.iload_n 1, 1) := by decide +kernel
theorem zd_Mod_sheet_72 : decode zb_Mod_sheet 72 = .ok (.iload_n 2, 1) := by decide +kernel
theorem zd_Mod_sheet_73 : decode zb_Mod_sheet 73 = .ok (.ifCond .ne 7, 3) := by decide +kernel
theorem zd_Mod_sheet_76 : decode zb_Mod_sheet 76 = .ok (.iconst 0, 1) := by decide +kernel
theorem zd_Mod_sheet_77 : decode zb_Mod_sheet 77 = .ok (.goto 4, 3) := by decide +kernel
theorem zd_Mod_sheet_80 : decode zb_Mod_sheet 80 = .ok (.iload_n 3, 1) := by decide +kernel
theorem zd_Mod_sheet_81 : decode zb_Mod_sheet 81 = .ok (.iastore, 1) := by decide +kernel
theorem zd_Mod_sheet_82 : decode zb_Mod_sheet 82 = .ok (.iconst 0, 1) := by decide +kernel
theorem zd_Mod_sheet_83 : decode zb_Mod_sheet 83 = .ok (.istore 4, 2) := by decide +kernel
theorem zd_Mod_sheet_85 : decode zb_Mod_sheet 85 = .ok (.iload 4, 2) := by decide +kernel
theorem zd_Mod_sheet_87 : decode zb_Mod_sheet 87 = .ok (.bipush 40, 2) := by decide +kernel
theorem zd_Mod_sheet_89 : decode zb_Mod_sheet 89 = .ok (.if_icmp .ge 22, 3) := by decide +kernel
theorem zd_Mod_sheet_92 : decode zb_Mod_sheet 92 = .ok (.aload_n 0, 1) := by decide +kernel
theorem zd_Mod_sheet_93 : decode zb_Mod_sheet 93 = .ok (.getfield 44, 3) := by decide +kernel
theorem zd_Mod_sheet_96 : decode zb_Mod_sheet 96 = .ok (.bipush 40, 2) := by decide +kernel
theorem zd_Mod_sheet_98 : decode zb_Mod_sheet 98 = .ok (.iload_n 1, 1) := by decide +kernel
theorem zd_Mod_sheet_99 : decode zb_Mod_sheet 99 = .ok (.imul, 1) := by decide +kernel
theorem zd_Mod_sheet_100 : decode zb_Mod_sheet 100 = .ok (.iload 4, 2) := by decide +kernel
theorem zd_Mod_sheet_102 : decode zb_Mod_sheet 102 = .ok (.iadd, 1) := by decide +kernel
theorem zd_Mod_sheet_103 : decode zb_Mod_sheet 103 = .ok (.iconst 0, 1) := by decide +kernel
theorem zd_Mod_sheet_104 : decode zb_Mod_sheet 104 = .ok (.iastore, 1) := by decide +kernel
theorem zd_Mod_sheet_105 : decode zb_Mod_sheet 105 = .ok (.iinc 4 1, 3) := by decide +kernel
theorem zd_Mod_sheet_108 : decode zb_Mod_sheet 108 = .ok (.goto (-23), 3) := by decide +kernel
theorem zd_Mod_sheet_111 : decode zb_Mod_sheet 111 = .ok (.aload_n 0, 1) := by decide +kernel
theorem zd_Mod_sheet_112 : decode zb_Mod_sheet 112 = .ok (.getfield 41, 3) := by decide +kernel
theorem zd_Mod_sheet_115 : decode zb_Mod_sheet 115 = .ok (.iload_n 1, 1) := by decide +kernel
theorem zd_Mod_sheet_116 : decode zb_Mod_sheet 116 = .ok (.iaload, 1) := by decide +kernel
theorem zd_Mod_sheet_117 : decode zb_Mod_sheet 117 = .ok (.ireturn, 1) := by decide +kernel
set_option maxHeartbeats 4000000 in
theorem zl_Mod_sheet_B85 {p : Program} {l : Launch} {e : Env} {s : State} {m : MethodId} {args : Array Value} {below : List Frame} {meth : Method} {c : Code} {D : va_G} {cA : Nat → ClassId} {ad : Nat → Nat} {A : Nat → Prop} (B : zu_B p s m args c zb_Mod_sheet 5 "StonePostModel" D cA ad A) (hret : meth.sig.returnType = (some .int)) (hlk : meth.locks = false) {Y : LX} {res : Int32 × IX} {k85 : Int32 → Int32 → IX → Option (Int32 × IX)} (hk85 : ∀ (x1 : Int32) (x4 : Int32) (X : IX) (H : Heap) (locs : List Loc) (ls : Array Slot), va_P D zu_cl (zu_pic cA ad X Y) H → va_S A s.heap H locs → lv_has ls 5 [(0, .ref (ad 95)), (1, .int x1), (4, .int x4)] → k85 x1 x4 X = some res → W p l e zR_Mod_sheet s m args below meth c H locs 0 0 (MQ below (zu_Qi D cA ad A res.1 res.2 Y) args s 0 0 A) (F0 m 85 ls [])) (x1 : Int32) (x4 : Int32) (X : IX) (H : Heap) (locs : List Loc) (ls : Array Slot) (hP : va_P D zu_cl (zu_pic cA ad X Y) H) (hS : va_S A s.heap H locs) (hl : lv_has ls 5 [(0, .ref (ad 95)), (1, .int x1), (4, .int x4)]) (hf : fn_Mod_sheet_B85 k85 x1 x4 X = some res) : W p l e zR_Mod_sheet s m args below meth c H locs 0 0 (MQ below (zu_Qi D cA ad A res.1 res.2 Y) args s 0 0 A) (F0 m 85 ls []) := by
  obtain ⟨hx, hb, hml, hown, hts, hST⟩ := id B
  unfold fn_Mod_sheet_B85 at hf
  refine lv_iload hx hb zd_Mod_sheet_85 (lv_at hl 2 rfl) ?_
  refine lv_bipush (v := 40) hx hb zd_Mod_sheet_87 (by decide) ?_
  refine lv_icmp_ge (tgt := 111) hx hb zd_Mod_sheet_89 (by decide) (fun c24 => ?_) (fun c24 => ?_)
  · have hf := zu_t c24 hf
    refine lv_aload_n hx hb zd_Mod_sheet_111 rfl (lv_at hl 0 rfl) ?_
    refine zg_Mod_sizeOf B hP rfl zq_881 zd_Mod_sheet_112 ?_
    refine lv_iload_n hx hb zd_Mod_sheet_115 rfl (lv_at hl 1 rfl) ?_
    obtain ⟨hg25, hf⟩ := zu_gd_e hf
    refine zr_iald rfl B hP rfl (by decide) rfl hg25 zd_Mod_sheet_116 ?_
    obtain rfl := Option.some.inj hf
    exact zr_iret hx hb hret hlk hP hS zd_Mod_sheet_117
  · have hf := zu_f c24 hf
    refine lv_aload_n hx hb zd_Mod_sheet_92 rfl (lv_at hl 0 rfl) ?_
    refine zg_Mod_number B hP rfl zq_882 zd_Mod_sheet_93 ?_
    refine lv_bipush (v := 40) hx hb zd_Mod_sheet_96 (by decide) ?_
    refine lv_iload_n hx hb zd_Mod_sheet_98 rfl (lv_at hl 1 rfl) ?_
    refine lv_imul hx hb zd_Mod_sheet_99 ?_
    refine lv_iload hx hb zd_Mod_sheet_100 (lv_at hl 2 rfl) ?_
    refine lv_iadd hx hb zd_Mod_sheet_102 ?_
    refine lv_iconst (v := 0) hx hb zd_Mod_sheet_103 (by decide) ?_
    obtain ⟨hg26, hf⟩ := zu_gd_e hf
    refine zr_iast rfl B hP hS hf rfl (by decide) rfl hg26 zd_Mod_sheet_104 (fun X27 H locs hf hP hS => ?_)
    obtain ⟨v28, ev28, hf⟩ := zu_nx_e hf
    refine lv_iinc (v := v28) (lv' := [(4, .int v28), (0, .ref (ad 95)), (1, .int x1)]) hx hb zd_Mod_sheet_105 hl (k := 2) rfl (by rw [ev28]; rfl) (by decide) rfl (fun ls hl => ?_)
    clear ev28
    refine lv_goto (tgt := 85) hx hb zd_Mod_sheet_108 (by decide) ?_
    exact hk85 x1 v28 X27 _ _ _ hP hS (lv_sub hl [1, 2, 0] rfl) hf
theorem zl_Mod_sheet_L85 {p : Program} {l : Launch} {e : Env} {s : State} {m : MethodId} {args : Array Value} {below : List Frame} {meth : Method} {c : Code} {D : va_G} {cA : Nat → ClassId} {ad : Nat → Nat} {A : Nat → Prop} (B : zu_B p s m args c zb_Mod_sheet 5 "StonePostModel" D cA ad A) (hret : meth.sig.returnType = (some .int)) (hlk : meth.locks = false) {Y : LX} {res : Int32 × IX} : ∀ (n : Nat) (x1 : Int32) (x4 : Int32) (X : IX) (H : Heap) (locs : List Loc) (ls : Array Slot), va_P D zu_cl (zu_pic cA ad X Y) H → va_S A s.heap H locs → lv_has ls 5 [(0, .ref (ad 95)), (1, .int x1), (4, .int x4)] → fn_Mod_sheet_L85 n x1 x4 X = some res → W p l e zR_Mod_sheet s m args below meth c H locs 0 0 (MQ below (zu_Qi D cA ad A res.1 res.2 Y) args s 0 0 A) (F0 m 85 ls []) := by
  intro n
  induction n with
  | zero =>
    intro x1 x4 X H locs ls hP hS hl hf
    exact (Option.some_ne_none _ hf.symm).elim
  | succ n ih =>
    intro x1 x4 X H locs ls hP hS hl hf
    exact zl_Mod_sheet_B85 B hret hlk ih x1 x4 X H locs ls hP hS hl  hf
set_option maxHeartbeats 4000000 in
theorem zl_Mod_sheet_L81 {p : Program} {l : Launch} {e : Env} {s : State} {m : MethodId} {args : Array Value} {below : List Frame} {meth : Method} {c : Code} {D : va_G} {cA : Nat → ClassId} {ad : Nat → Nat} {A : Nat → Prop} (B : zu_B p s m args c zb_Mod_sheet 5 "StonePostModel" D cA ad A) (hret : meth.sig.returnType = (some .int)) (hlk : meth.locks = false) {Y : LX} {res : Int32 × IX} (x1 : Int32) (y0 : Int32) (y1 : Int32) (X : IX) (H : Heap) (locs : List Loc) (ls : Array Slot) (hP : va_P D zu_cl (zu_pic cA ad X Y) H) (hS : va_S A s.heap H locs) (hl : lv_has ls 5 [(0, .ref (ad 95)), (1, .int x1)]) (hf : fn_Mod_sheet_L81 x1 y0 y1 X = some res) : W p l e zR_Mod_sheet s m args below meth c H locs 0 0 (MQ below (zu_Qi D cA ad A res.1 res.2 Y) args s 0 0 A) (F0 m 81 ls [.int y0, .int y1, .ref (ad 106)]) := by
  obtain ⟨hx, hb, hml, hown, hts, hST⟩ := id B
  unfold fn_Mod_sheet_L81 at hf
  obtain ⟨hg22, hf⟩ := zu_gd_e hf
  refine zr_iast rfl B hP hS hf rfl (by decide) rfl hg22 zd_Mod_sheet_81 (fun X23 H locs hf hP hS => ?_)
  refine lv_iconst (v := 0) hx hb zd_Mod_sheet_82 (by decide) ?_
  refine lv_istore (lv' := [(4, .int (0 : Int32)), (0, .ref (ad 95)), (1, .int x1)]) hx hb zd_Mod_sheet_83 hl (by decide) rfl (fun ls hl => ?_)
  exact zl_Mod_sheet_L85 B hret hlk 400 x1 (0 : Int32) X23 _ _ _ hP hS (lv_sub hl [1, 2, 0] rfl) hf
set_option maxHeartbeats 4000000 in
theorem zl_Mod_sheet_L36 {p : Program} {l : Launch} {e : Env} {s : State} {m : MethodId} {args : Array Value} {below : List Frame} {meth : Method} {c : Code} {D : va_G} {cA : Nat → ClassId} {ad : Nat → Nat} {A : Nat → Prop} (B : zu_B p s m args c zb_Mod_sheet 5 "StonePostModel" D cA ad A) (hret : meth.sig.returnType = (some .int)) (hlk : meth.locks = false) {Y : LX} {res : Int32 × IX} (x1 : Int32) (x2 : Int32) (x3 : Int32) (X : IX) (H : Heap) (locs : List Loc) (ls : Array Slot) (hP : va_P D zu_cl (zu_pic cA ad X Y) H) (hS : va_S A s.heap H locs) (hl : lv_has ls 5 [(0, .ref (ad 95)), (1, .int x1), (2, .int x2), (3, .int x3)]) (hf : fn_Mod_sheet_L36 x1 x2 x3 X = some res) : W p l e zR_Mod_sheet s m args below meth c H locs 0 0 (MQ below (zu_Qi D cA ad A res.1 res.2 Y) args s 0 0 A) (F0 m 36 ls []) := by
  obtain ⟨hx, hb, hml, hown, hts, hST⟩ := id B
  unfold fn_Mod_sheet_L36 at hf
  refine lv_iload_n hx hb zd_Mod_sheet_36 rfl (lv_at hl 3 rfl) ?_
  refine lv_if_ge (tgt := 47) hx hb zd_Mod_sheet_37 (by decide) (fun c11 => ?_) (fun c11 => ?_)
  · have hf := zu_t c11 hf
    refine lv_iload_n hx hb zd_Mod_sheet_47 rfl (lv_at hl 3 rfl) ?_
    refine lv_bipush (v := 40) hx hb zd_Mod_sheet_48 (by decide) ?_
    refine lv_icmp_le (tgt := 60) hx hb zd_Mod_sheet_50 (by decide) (fun c12 => ?_) (fun c12 => ?_)
    · have hf := zu_t c12 hf
      refine lv_aload_n hx hb zd_Mod_sheet_60 rfl (lv_at hl 0 rfl) ?_
      refine zg_Mod_bitsOf B hP rfl zq_880 zd_Mod_sheet_61 ?_
      refine lv_iload_n hx hb zd_Mod_sheet_64 rfl (lv_at hl 1 rfl) ?_
      refine lv_iload_n hx hb zd_Mod_sheet_65 rfl (lv_at hl 2 rfl) ?_
      obtain ⟨hg13, hf⟩ := zu_gd_e hf
      refine zr_iast rfl B hP hS hf rfl (by decide) rfl hg13 zd_Mod_sheet_66 (fun X14 H locs hf hP hS => ?_)
      refine lv_aload_n hx hb zd_Mod_sheet_67 rfl (lv_at hl 0 rfl) ?_
      refine zg_Mod_sizeOf B hP rfl zq_881 zd_Mod_sheet_68 ?_
      refine lv_iload_n hx hb zd_Mod_sheet_71 rfl (lv_at hl 1 rfl) ?_
      refine lv_iload_n hx hb zd_Mod_sheet_72 rfl (lv_at hl 2 rfl) ?_
      refine lv_if_ne (tgt := 80) hx hb zd_Mod_sheet_73 (by decide) (fun c15 => ?_) (fun c15 => ?_)
      · have hf := zu_f c15 hf
        refine lv_iload_n hx hb zd_Mod_sheet_80 rfl (lv_at hl 3 rfl) ?_
        exact zl_Mod_sheet_L81 B hret hlk x1 x3 x1 X14 _ _ _ hP hS (lv_sub hl [0, 1] rfl) hf
      · have hf := zu_t c15 hf
        refine lv_iconst (v := 0) hx hb zd_Mod_sheet_76 (by decide) ?_
        refine lv_goto (tgt := 81) hx hb zd_Mod_sheet_77 (by decide) ?_
        exact zl_Mod_sheet_L81 B hret hlk x1 (0 : Int32) x1 X14 _ _ _ hP hS (lv_sub hl [0, 1] rfl) hf
    · have hf := zu_f c12 hf
      refine lv_aload_n hx hb zd_Mod_sheet_53 rfl (lv_at hl 0 rfl) ?_
      refine lv_ldc (v := -1000001) hx hb hown (hts _ zq_943) zd_Mod_sheet_54 ?_
      obtain ⟨v16, X17, hq18, hf⟩ := zu_b2_e hf
      refine zw_Mod_finds (rest := []) B hP hS hq18 zq_944 (Nat.le_of_ble_eq_true rfl) (Nat.le_of_ble_eq_true rfl) hl.1 rfl (Nat.le_of_ble_eq_true rfl) zd_Mod_sheet_56 (by decide) (fun H locs hP hS => ?_)
      clear hq18
      obtain rfl := Option.some.inj hf
      exact zr_iret hx hb hret hlk hP hS zd_Mod_sheet_59
  · have hf := zu_f c11 hf
    refine lv_aload_n hx hb zd_Mod_sheet_40 rfl (lv_at hl 0 rfl) ?_
    refine lv_ldc (v := -1000007) hx hb hown (hts _ zq_1161) zd_Mod_sheet_41 ?_
    obtain ⟨v19, X20, hq21, hf⟩ := zu_b2_e hf
    refine zw_Mod_finds (rest := []) B hP hS hq21 zq_944 (Nat.le_of_ble_eq_true rfl) (Nat.le_of_ble_eq_true rfl) hl.1 rfl (Nat.le_of_ble_eq_true rfl) zd_Mod_sheet_43 (by decide) (fun H locs hP hS => ?_)
    clear hq21
    obtain rfl := Option.some.inj hf
    exact zr_iret hx hb hret hlk hP hS zd_Mod_sheet_46
set_option maxHeartbeats 4000000 in
theorem zl_Mod_sheet_L29 {p : Program} {l : Launch} {e : Env} {s : State} {m : MethodId} {args : Array Value} {below : List Frame} {meth : Method} {c : Code} {D : va_G} {cA : Nat → ClassId} {ad : Nat → Nat} {A : Nat → Prop} (B : zu_B p s m args c zb_Mod_sheet 5 "StonePostModel" D cA ad A) (hret : meth.sig.returnType = (some .int)) (hlk : meth.locks = false) {Y : LX} {res : Int32 × IX} (X : IX) (H : Heap) (locs : List Loc) (ls : Array Slot) (hP : va_P D zu_cl (zu_pic cA ad X Y) H) (hS : va_S A s.heap H locs) (hl : lv_has ls 5 [(0, .ref (ad 95))]) (hf : fn_Mod_sheet_L29 X = some res) : W p l e zR_Mod_sheet s m args below meth c H locs 0 0 (MQ below (zu_Qi D cA ad A res.1 res.2 Y) args s 0 0 A) (F0 m 29 ls []) := by
  obtain ⟨hx, hb, hml, hown, hts, hST⟩ := id B
  unfold fn_Mod_sheet_L29 at hf
  refine lv_aload_n hx hb zd_Mod_sheet_29 rfl (lv_at hl 0 rfl) ?_
  refine lv_ldc (v := -1000001) hx hb hown (hts _ zq_943) zd_Mod_sheet_30 ?_
  obtain ⟨v8, X9, hq10, hf⟩ := zu_b2_e hf
  refine zw_Mod_finds (rest := []) B hP hS hq10 zq_944 (Nat.le_of_ble_eq_true rfl) (Nat.le_of_ble_eq_true rfl) hl.1 rfl (Nat.le_of_ble_eq_true rfl) zd_Mod_sheet_32 (by decide) (fun H locs hP hS => ?_)
  clear hq10
  obtain rfl := Option.some.inj hf
  exact zr_iret hx hb hret hlk hP hS zd_Mod_sheet_35
set_option maxHeartbeats 4000000 in
theorem zl_Mod_sheet {p : Program} {l : Launch} {e : Env} {s : State} {m : MethodId} {args : Array Value} {below : List Frame} {meth : Method} {c : Code} {D : va_G} {cA : Nat → ClassId} {ad : Nat → Nat} {A : Nat → Prop} (B : zu_B p s m args c zb_Mod_sheet 5 "StonePostModel" D cA ad A) (hret : meth.sig.returnType = (some .int)) (hlk : meth.locks = false) {Y : LX} {res : Int32 × IX} {a1 : Int32} {a2 : Int32} {a3 : Int32} {X : IX} (H : Heap) (locs : List Loc) (ls : Array Slot) (hP : va_P D zu_cl (zu_pic cA ad X Y) H) (hS : va_S A s.heap H locs) (hl : lv_has ls 5 [(0, .ref (ad 95)), (1, .int a1), (2, .int a2), (3, .int a3)]) (hf : fn_Mod_sheet a1 a2 a3 X = some res) : W p l e zR_Mod_sheet s m args below meth c H locs 0 0 (MQ below (zu_Qi D cA ad A res.1 res.2 Y) args s 0 0 A) (F0 m 0 ls []) := by
  obtain ⟨hx, hb, hml, hown, hts, hST⟩ := id B
  unfold fn_Mod_sheet at hf
  refine lv_iload_n hx hb zd_Mod_sheet_0 rfl (lv_at hl 1 rfl) ?_
  obtain ⟨v1, hq2, hf⟩ := zu_b1_e hf
  refine zw_Mod_isOne (rest := []) B hP hS hq2 zq_1340 (Nat.le_of_ble_eq_true rfl) (Nat.le_of_ble_eq_true rfl) hl.1 rfl (Nat.le_of_ble_eq_true rfl) zd_Mod_sheet_1 (by decide) (fun H locs hP hS => ?_)
  clear hq2
  refine lv_if_eq (tgt := 29) hx hb zd_Mod_sheet_4 (by decide) (fun c3 => ?_) (fun c3 => ?_)
  · have hf := zu_t c3 hf
    exact zl_Mod_sheet_L29 B hret hlk X _ _ _ hP hS (lv_sub hl [0] rfl) hf
  · have hf := zu_f c3 hf
    refine lv_iload_n hx hb zd_Mod_sheet_7 rfl (lv_at hl 2 rfl) ?_
    refine lv_if_eq (tgt := 36) hx hb zd_Mod_sheet_8 (by decide) (fun c4 => ?_) (fun c4 => ?_)
    · have hf := zu_t c4 hf
      exact zl_Mod_sheet_L36 B hret hlk a1 a2 a3 X _ _ _ hP hS (lv_sub hl [0, 1, 2, 3] rfl) hf
    · have hf := zu_f c4 hf
      refine lv_iload_n hx hb zd_Mod_sheet_11 rfl (lv_at hl 2 rfl) ?_
      refine lv_bipush (v := 8) hx hb zd_Mod_sheet_12 (by decide) ?_
      refine lv_icmp_eq (tgt := 36) hx hb zd_Mod_sheet_14 (by decide) (fun c5 => ?_) (fun c5 => ?_)
      · have hf := zu_t c5 hf
        exact zl_Mod_sheet_L36 B hret hlk a1 a2 a3 X _ _ _ hP hS (lv_sub hl [0, 1, 2, 3] rfl) hf
      · have hf := zu_f c5 hf
        refine lv_iload_n hx hb zd_Mod_sheet_17 rfl (lv_at hl 2 rfl) ?_
        refine lv_bipush (v := 16) hx hb zd_Mod_sheet_18 (by decide) ?_
        refine lv_icmp_eq (tgt := 36) hx hb zd_Mod_sheet_20 (by decide) (fun c6 => ?_) (fun c6 => ?_)
        · have hf := zu_t c6 hf
          exact zl_Mod_sheet_L36 B hret hlk a1 a2 a3 X _ _ _ hP hS (lv_sub hl [0, 1, 2, 3] rfl) hf
        · have hf := zu_f c6 hf
          refine lv_iload_n hx hb zd_Mod_sheet_23 rfl (lv_at hl 2 rfl) ?_
          refine lv_bipush (v := 32) hx hb zd_Mod_sheet_24 (by decide) ?_
          refine lv_icmp_eq (tgt := 36) hx hb zd_Mod_sheet_26 (by decide) (fun c7 => ?_) (fun c7 => ?_)
          · have hf := zu_t c7 hf
            exact zl_Mod_sheet_L36 B hret hlk a1 a2 a3 X _ _ _ hP hS (lv_sub hl [0, 1, 2, 3] rfl) hf
          · have hf := zu_f c7 hf
            exact zl_Mod_sheet_L29 B hret hlk X _ _ _ hP hS (lv_sub hl [0] rfl) hf
theorem zC_Mod_sheet (l : Launch) {D : va_G} {cA : Nat → ClassId} {ad : Nat → Nat} {A : Nat → Prop} {a1 : Int32} {a2 : Int32} {a3 : Int32} {X : IX} {Y : LX} {res : Int32 × IX} (hf : fn_Mod_sheet a1 a2 a3 X = some res) : Met l zm_Mod_sheet (zu_ws zm_Mod_sheet zb_Mod_sheet 5 (some .int)) zR_Mod_sheet (va_Pc [.ref (ad 95), .int a1, .int a2, .int a3] (zu_Pre D cA ad A X Y)) (zu_Qi D cA ad A res.1 res.2 Y) 0 0 A := by
  refine Met.ofW (cc := zb_Mod_sheet) (maxL := 5) (ret := (some .int)) (by decide +kernel) rfl ?_
  intro p e s m args below meth c s₁ B0 hml hv
  obtain ⟨rfl, hP, hST⟩ := hv
  have B : zu_B p s m _ c zb_Mod_sheet 5 "StonePostModel" D cA ad A := ⟨B0.exec, B0.bytes, hml, findClass_of_methodNamed B0.named, (fun w hw => atoms_spec (ws := zu_ws zm_Mod_sheet zb_Mod_sheet 5 (some .int)) B0.pre w (List.mem_cons_of_mem _ hw)), hST⟩
  have hl := lv_entry ([.ref (ad 95), .int a1, .int a2, .int a3]) (n := 5) (Nat.le_of_ble_eq_true rfl)
  rw [lg_entry_eq]
  generalize (lg_sl ([.ref (ad 95), .int a1, .int a2, .int a3]) ++ List.replicate (5 - (lg_sl ([.ref (ad 95), .int a1, .int a2, .int a3])).length) Slot.unset).toArray = ls at hl ⊢
  exact zl_Mod_sheet B B0.returns B0.notSynchronized s.heap [] ls hP va_S.rf hl  hf
theorem zw_Mod_sheet {p : Program} {l : Launch} {e : Env} {R : Room} {s : State} {m : MethodId} {args : Array Value} {below : List Frame} {meth : Method} {c : Code} {H : Heap} {locs : List Loc} {cells slots : Nat} {Q : State → Prop} {cc : ByteArray} {pc nL : Nat} {ls : Array Slot} {rest st0 : List Value} {D : va_G} {cA : Nat → ClassId} {ad : Nat → Nat} {A : Nat → Prop} {X : IX} {Y : LX} {own : String} {index : Nat} {a1 : Int32} {a2 : Int32} {a3 : Int32} {v1 : Int32} {X1 : IX} (B : zu_B p s m args c cc nL own D cA ad A) (hP : va_P D zu_cl (zu_pic cA ad X Y) H) (hS : va_S A s.heap H locs) (hq : fn_Mod_sheet a1 a2 a3 X = some (v1, X1)) (m1 : Cond.methodLink own index zm_Mod_sheet ∈ zu_TB) (hR1 : 2 + 1 ≤ R.frames) (hR2 : 8 + (5 + 11) + 45 ≤ R.locals) (hsz : ls.size = nL) (hst : st0 = .int a3 :: .int a2 :: .int a1 :: .ref (ad 95) :: rest) (hw : (rest.map fun v => v.category).sum ≤ 8) (hdg : decode cc pc = .ok (.invokevirtual index, 3)) (h00 : cells ≤ R.cells ∧ slots ≤ R.slots) (kk : ∀ (H1 : Heap) (locs1 : List Loc), va_P D zu_cl (zu_pic cA ad X1 Y) H1 → va_S A s.heap H1 locs1 → W p l e R s m args below meth c H1 locs1 cells slots Q (F0 m (pc + 3) ls (.int v1 :: rest))) : W p l e R s m args below meth c H locs cells slots Q (F0 m pc ls st0) := by
  subst hst
  exact zr_cVi (As := [.int a1, .int a2, .int a3]) (rest := rest) (n := 3) (C := "StonePostModel") (T := zt_Mod) (N := 23) B hP hS (zC_Mod_sheet l  hq) (K := 7) rfl (by decide) (by decide) rfl rfl m1 zq_1337 zq_1338 zq_8 zq_1339 (by decide +kernel) ⟨hR1, hR2⟩ rfl rfl rfl hsz rfl hw hdg h00 kk
abbrev zR_Mod_narrowed : Room := { frames := 0, cells := 0, slots := 0, locals := 0 }
theorem zd_Mod_narrowed_0 : decode zb_Mod_narrowed 0 = .ok (.iload_n 0, 1) := by decide +kernel
theorem zd_Mod_narrowed_1 : decode zb_Mod_narrowed 1 = .ok (.bipush 8, 2) := by decide +kernel
theorem zd_Mod_narrowed_3 : decode zb_Mod_narrowed 3 = .ok (.if_icmp .ne 8, 3) := by decide +kernel
theorem zd_Mod_narrowed_6 : decode zb_Mod_narrowed 6 = .ok (.iload_n 1, 1) := by decide +kernel
theorem zd_Mod_narrowed_7 : decode zb_Mod_narrowed 7 = .ok (.i2b, 1) := by decide +kernel
theorem zd_Mod_narrowed_8 : decode zb_Mod_narrowed 8 = .ok (.goto 15, 3) := by decide +kernel
theorem zd_Mod_narrowed_11 : decode zb_Mod_narrowed 11 = .ok (.iload_n 0, 1) := by decide +kernel
theorem zd_Mod_narrowed_12 : decode zb_Mod_narrowed 12 = .ok (.bipush 16, 2) := by decide +kernel
theorem zd_Mod_narrowed_14 : decode zb_Mod_narrowed 14 = .ok (.if_icmp .ne 8, 3) := by decide +kernel
theorem zd_Mod_narrowed_17 : decode zb_Mod_narrowed 17 = .ok (.iload_n 1, 1) := by decide +kernel
theorem zd_Mod_narrowed_18 : decode zb_Mod_narrowed 18 = .ok (.i2s, 1) := by decide +kernel
theorem zd_Mod_narrowed_19 : decode zb_Mod_narrowed 19 = .ok (.goto 4, 3) := by decide +kernel
theorem zd_Mod_narrowed_22 : decode zb_Mod_narrowed 22 = .ok (.iload_n 1, 1) := by decide +kernel
theorem zd_Mod_narrowed_23 : decode zb_Mod_narrowed 23 = .ok (.ireturn, 1) := by decide +kernel
set_option maxHeartbeats 4000000 in
theorem zl_Mod_narrowed_L23 {p : Program} {l : Launch} {e : Env} {s : State} {m : MethodId} {args : Array Value} {below : List Frame} {meth : Method} {c : Code} {D : va_G} {cA : Nat → ClassId} {ad : Nat → Nat} {A : Nat → Prop} (B : zu_B p s m args c zb_Mod_narrowed 2 "StonePostModel" D cA ad A) (hret : meth.sig.returnType = (some .int)) (hlk : meth.locks = false) {X : IX} {Y : LX} {res : Int32} (y0 : Int32) (H : Heap) (locs : List Loc) (ls : Array Slot) (hP : va_P D zu_cl (zu_pic cA ad X Y) H) (hS : va_S A s.heap H locs) (hl : lv_has ls 2 []) (hf : fn_Mod_narrowed_L23 y0 = res) : W p l e zR_Mod_narrowed s m args below meth c H locs 0 0 (MQ below (zu_Qi D cA ad A res X Y) args s 0 0 A) (F0 m 23 ls [.int y0]) := by
  obtain ⟨hx, hb, hml, hown, hts, hST⟩ := id B
  unfold fn_Mod_narrowed_L23 at hf
  obtain rfl := hf
  exact zr_iret hx hb hret hlk hP hS zd_Mod_narrowed_23
set_option maxHeartbeats 4000000 in
theorem zl_Mod_narrowed {p : Program} {l : Launch} {e : Env} {s : State} {m : MethodId} {args : Array Value} {below : List Frame} {meth : Method} {c : Code} {D : va_G} {cA : Nat → ClassId} {ad : Nat → Nat} {A : Nat → Prop} (B : zu_B p s m args c zb_Mod_narrowed 2 "StonePostModel" D cA ad A) (hret : meth.sig.returnType = (some .int)) (hlk : meth.locks = false) {X : IX} {Y : LX} {res : Int32} {a0 : Int32} {a1 : Int32} (H : Heap) (locs : List Loc) (ls : Array Slot) (hP : va_P D zu_cl (zu_pic cA ad X Y) H) (hS : va_S A s.heap H locs) (hl : lv_has ls 2 [(0, .int a0), (1, .int a1)]) (hf : fn_Mod_narrowed a0 a1 = res) : W p l e zR_Mod_narrowed s m args below meth c H locs 0 0 (MQ below (zu_Qi D cA ad A res X Y) args s 0 0 A) (F0 m 0 ls []) := by
  obtain ⟨hx, hb, hml, hown, hts, hST⟩ := id B
  unfold fn_Mod_narrowed at hf
  refine lv_iload_n hx hb zd_Mod_narrowed_0 rfl (lv_at hl 0 rfl) ?_
  refine lv_bipush (v := 8) hx hb zd_Mod_narrowed_1 (by decide) ?_
  refine lv_icmp_ne (tgt := 11) hx hb zd_Mod_narrowed_3 (by decide) (fun c1 => ?_) (fun c1 => ?_)
  · have hf := zu_f c1 hf
    refine lv_iload_n hx hb zd_Mod_narrowed_11 rfl (lv_at hl 0 rfl) ?_
    refine lv_bipush (v := 16) hx hb zd_Mod_narrowed_12 (by decide) ?_
    refine lv_icmp_ne (tgt := 22) hx hb zd_Mod_narrowed_14 (by decide) (fun c2 => ?_) (fun c2 => ?_)
    · have hf := zu_f c2 hf
      refine lv_iload_n hx hb zd_Mod_narrowed_22 rfl (lv_at hl 1 rfl) ?_
      exact zl_Mod_narrowed_L23 B hret hlk a1 _ _ _ hP hS (lv_sub hl [] rfl) hf
    · have hf := zu_t c2 hf
      refine lv_iload_n hx hb zd_Mod_narrowed_17 rfl (lv_at hl 1 rfl) ?_
      refine lv_i2s hx hb zd_Mod_narrowed_18 rfl ?_
      refine lv_goto (tgt := 23) hx hb zd_Mod_narrowed_19 (by decide) ?_
      exact zl_Mod_narrowed_L23 B hret hlk (a1.toInt16.toInt32) _ _ _ hP hS (lv_sub hl [] rfl) hf
  · have hf := zu_t c1 hf
    refine lv_iload_n hx hb zd_Mod_narrowed_6 rfl (lv_at hl 1 rfl) ?_
    refine lv_i2b hx hb zd_Mod_narrowed_7 rfl ?_
    refine lv_goto (tgt := 23) hx hb zd_Mod_narrowed_8 (by decide) ?_
    exact zl_Mod_narrowed_L23 B hret hlk (a1.toInt8.toInt32) _ _ _ hP hS (lv_sub hl [] rfl) hf
theorem zC_Mod_narrowed (l : Launch) {D : va_G} {cA : Nat → ClassId} {ad : Nat → Nat} {A : Nat → Prop} {a0 : Int32} {a1 : Int32} {X : IX} {Y : LX} {res : Int32} (hf : fn_Mod_narrowed a0 a1 = res) : Met l zm_Mod_narrowed (zu_ws zm_Mod_narrowed zb_Mod_narrowed 2 (some .int)) zR_Mod_narrowed (va_Pc [.int a0, .int a1] (zu_Pre D cA ad A X Y)) (zu_Qi D cA ad A res X Y) 0 0 A := by
  refine Met.ofW (cc := zb_Mod_narrowed) (maxL := 2) (ret := (some .int)) (by decide +kernel) rfl ?_
  intro p e s m args below meth c s₁ B0 hml hv
  obtain ⟨rfl, hP, hST⟩ := hv
  have B : zu_B p s m _ c zb_Mod_narrowed 2 "StonePostModel" D cA ad A := ⟨B0.exec, B0.bytes, hml, findClass_of_methodNamed B0.named, (fun w hw => atoms_spec (ws := zu_ws zm_Mod_narrowed zb_Mod_narrowed 2 (some .int)) B0.pre w (List.mem_cons_of_mem _ hw)), hST⟩
  have hl := lv_entry ([.int a0, .int a1]) (n := 2) (Nat.le_of_ble_eq_true rfl)
  rw [lg_entry_eq]
  generalize (lg_sl ([.int a0, .int a1]) ++ List.replicate (2 - (lg_sl ([.int a0, .int a1])).length) Slot.unset).toArray = ls at hl ⊢
  exact zl_Mod_narrowed B B0.returns B0.notSynchronized s.heap [] ls hP va_S.rf hl  hf
theorem zw_Mod_narrowed {p : Program} {l : Launch} {e : Env} {R : Room} {s : State} {m : MethodId} {args : Array Value} {below : List Frame} {meth : Method} {c : Code} {H : Heap} {locs : List Loc} {cells slots : Nat} {Q : State → Prop} {cc : ByteArray} {pc nL : Nat} {ls : Array Slot} {rest st0 : List Value} {D : va_G} {cA : Nat → ClassId} {ad : Nat → Nat} {A : Nat → Prop} {X : IX} {Y : LX} {own : String} {index : Nat} {a0 : Int32} {a1 : Int32} {v1 : Int32} (B : zu_B p s m args c cc nL own D cA ad A) (hP : va_P D zu_cl (zu_pic cA ad X Y) H) (hS : va_S A s.heap H locs) (hq : fn_Mod_narrowed a0 a1 = v1) (m1 : Cond.methodLink own index zm_Mod_narrowed ∈ zu_TB) (hR1 : 0 + 1 ≤ R.frames) (hR2 : 8 + (2 + 11) + 0 ≤ R.locals) (hsz : ls.size = nL) (hst : st0 = .int a1 :: .int a0 ::  rest) (hw : (rest.map fun v => v.category).sum ≤ 8) (hdg : decode cc pc = .ok (.invokestatic index, 3)) (h00 : cells ≤ R.cells ∧ slots ≤ R.slots) (kk : ∀ (H1 : Heap) (locs1 : List Loc), va_P D zu_cl (zu_pic cA ad X Y) H1 → va_S A s.heap H1 locs1 → W p l e R s m args below meth c H1 locs1 cells slots Q (F0 m (pc + 3) ls (.int v1 :: rest))) : W p l e R s m args below meth c H locs cells slots Q (F0 m pc ls st0) := by
  subst hst
  exact zr_cSi (As := [.int a0, .int a1]) (rest := rest) (n := 2) B hP hS (zC_Mod_narrowed l  hq) m1 zq_1352 zq_8 zq_1353 (by decide +kernel) ⟨hR1, hR2⟩ rfl rfl rfl hsz rfl hw hdg h00 kk
abbrev zR_Mod_wrong : Room := { frames := 2, cells := 0, slots := 0, locals := 45 }
theorem zd_Mod_wrong_0 : decode zb_Mod_wrong 0 = .ok (.iload_n 1, 1) := by decide +kernel
theorem zd_Mod_wrong_1 : decode zb_Mod_wrong 1 = .ok (.invokestatic 347, 3) := by decide +kernel
theorem zd_Mod_wrong_4 : decode zb_Mod_wrong 4 = .ok (.ifCond .ne 8, 3) := by decide +kernel
theorem zd_Mod_wrong_7 : decode zb_Mod_wrong 7 = .ok (.ldc 50, 2) := by decide +kernel
theorem zd_Mod_wrong_9 : decode zb_Mod_wrong 9 = .ok (.goto 19, 3) := by decide +kernel
theorem zd_Mod_wrong_12 : decode zb_Mod_wrong 12 = .ok (.aload_n 0, 1) := by decide +kernel
theorem zd_Mod_wrong_13 : decode zb_Mod_wrong 13 = .ok (.getfield 38, 3) := by decide +kernel
theorem zd_Mod_wrong_16 : decode zb_Mod_wrong 16 = .ok (.iload_n 1, 1) := by decide +kernel
theorem zd_Mod_wrong_17 : decode zb_Mod_wrong 17 = .ok (.iaload, 1) := by decide +kernel
theorem zd_Mod_wrong_18 : decode zb_Mod_wrong 18 = .ok (.ifCond .ne 9, 3) := by decide +kernel
theorem zd_Mod_wrong_21 : decode zb_Mod_wrong 21 = .ok (.ldc_w 345, 3) := by decide +kernel
theorem zd_Mod_wrong_24 : decode zb_Mod_wrong 24 = .ok (.goto 4, 3) := by decide +kernel
theorem zd_Mod_wrong_27 : decode zb_Mod_wrong 27 = .ok (.iconst 0, 1) := by decide +kernel
theorem zd_Mod_wrong_28 : decode zb_Mod_wrong 28 = .ok (.ireturn, 1) := by decide +kernel
set_option maxHeartbeats 4000000 in
theorem zl_Mod_wrong_L28 {p : Program} {l : Launch} {e : Env} {s : State} {m : MethodId} {args : Array Value} {below : List Frame} {meth : Method} {c : Code} {D : va_G} {cA : Nat → ClassId} {ad : Nat → Nat} {A : Nat → Prop} (B : zu_B p s m args c zb_Mod_wrong 2 "StonePostModel" D cA ad A) (hret : meth.sig.returnType = (some .int)) (hlk : meth.locks = false) {X : IX} {Y : LX} {res : Int32} (y0 : Int32) (H : Heap) (locs : List Loc) (ls : Array Slot) (hP : va_P D zu_cl (zu_pic cA ad X Y) H) (hS : va_S A s.heap H locs) (hl : lv_has ls 2 []) (hf : fn_Mod_wrong_L28 X y0 = some res) : W p l e zR_Mod_wrong s m args below meth c H locs 0 0 (MQ below (zu_Qi D cA ad A res X Y) args s 0 0 A) (F0 m 28 ls [.int y0]) := by
  obtain ⟨hx, hb, hml, hown, hts, hST⟩ := id B
  unfold fn_Mod_wrong_L28 at hf
  obtain rfl := Option.some.inj hf
  exact zr_iret hx hb hret hlk hP hS zd_Mod_wrong_28
set_option maxHeartbeats 4000000 in
theorem zl_Mod_wrong {p : Program} {l : Launch} {e : Env} {s : State} {m : MethodId} {args : Array Value} {below : List Frame} {meth : Method} {c : Code} {D : va_G} {cA : Nat → ClassId} {ad : Nat → Nat} {A : Nat → Prop} (B : zu_B p s m args c zb_Mod_wrong 2 "StonePostModel" D cA ad A) (hret : meth.sig.returnType = (some .int)) (hlk : meth.locks = false) {X : IX} {Y : LX} {res : Int32} {a1 : Int32} (H : Heap) (locs : List Loc) (ls : Array Slot) (hP : va_P D zu_cl (zu_pic cA ad X Y) H) (hS : va_S A s.heap H locs) (hl : lv_has ls 2 [(0, .ref (ad 95)), (1, .int a1)]) (hf : fn_Mod_wrong X a1 = some res) : W p l e zR_Mod_wrong s m args below meth c H locs 0 0 (MQ below (zu_Qi D cA ad A res X Y) args s 0 0 A) (F0 m 0 ls []) := by
  obtain ⟨hx, hb, hml, hown, hts, hST⟩ := id B
  unfold fn_Mod_wrong at hf
  refine lv_iload_n hx hb zd_Mod_wrong_0 rfl (lv_at hl 1 rfl) ?_
  obtain ⟨v1, hq2, hf⟩ := zu_b1_e hf
  refine zw_Mod_isOne (rest := []) B hP hS hq2 zq_1340 (Nat.le_of_ble_eq_true rfl) (Nat.le_of_ble_eq_true rfl) hl.1 rfl (Nat.le_of_ble_eq_true rfl) zd_Mod_wrong_1 (by decide) (fun H locs hP hS => ?_)
  clear hq2
  refine lv_if_ne (tgt := 12) hx hb zd_Mod_wrong_4 (by decide) (fun c3 => ?_) (fun c3 => ?_)
  · have hf := zu_f c3 hf
    refine lv_aload_n hx hb zd_Mod_wrong_12 rfl (lv_at hl 0 rfl) ?_
    refine zg_Mod_bitsOf B hP rfl zq_880 zd_Mod_wrong_13 ?_
    refine lv_iload_n hx hb zd_Mod_wrong_16 rfl (lv_at hl 1 rfl) ?_
    obtain ⟨hg4, hf⟩ := zu_gd_e hf
    refine zr_iald rfl B hP rfl (by decide) rfl hg4 zd_Mod_wrong_17 ?_
    refine lv_if_ne (tgt := 27) hx hb zd_Mod_wrong_18 (by decide) (fun c5 => ?_) (fun c5 => ?_)
    · have hf := zu_f c5 hf
      refine lv_iconst (v := 0) hx hb zd_Mod_wrong_27 (by decide) ?_
      exact zl_Mod_wrong_L28 B hret hlk (0 : Int32) _ _ _ hP hS (lv_sub hl [] rfl) hf
    · have hf := zu_t c5 hf
      refine lv_ldcw (v := -1000006) hx hb hown (hts _ zq_1334) zd_Mod_wrong_21 ?_
      refine lv_goto (tgt := 28) hx hb zd_Mod_wrong_24 (by decide) ?_
      exact zl_Mod_wrong_L28 B hret hlk (-1000006 : Int32) _ _ _ hP hS (lv_sub hl [] rfl) hf
  · have hf := zu_t c3 hf
    refine lv_ldc (v := -1000001) hx hb hown (hts _ zq_943) zd_Mod_wrong_7 ?_
    refine lv_goto (tgt := 28) hx hb zd_Mod_wrong_9 (by decide) ?_
    exact zl_Mod_wrong_L28 B hret hlk (-1000001 : Int32) _ _ _ hP hS (lv_sub hl [] rfl) hf
theorem zC_Mod_wrong (l : Launch) {D : va_G} {cA : Nat → ClassId} {ad : Nat → Nat} {A : Nat → Prop} {a1 : Int32} {X : IX} {Y : LX} {res : Int32} (hf : fn_Mod_wrong X a1 = some res) : Met l zm_Mod_wrong (zu_ws zm_Mod_wrong zb_Mod_wrong 2 (some .int)) zR_Mod_wrong (va_Pc [.ref (ad 95), .int a1] (zu_Pre D cA ad A X Y)) (zu_Qi D cA ad A res X Y) 0 0 A := by
  refine Met.ofW (cc := zb_Mod_wrong) (maxL := 2) (ret := (some .int)) (by decide +kernel) rfl ?_
  intro p e s m args below meth c s₁ B0 hml hv
  obtain ⟨rfl, hP, hST⟩ := hv
  have B : zu_B p s m _ c zb_Mod_wrong 2 "StonePostModel" D cA ad A := ⟨B0.exec, B0.bytes, hml, findClass_of_methodNamed B0.named, (fun w hw => atoms_spec (ws := zu_ws zm_Mod_wrong zb_Mod_wrong 2 (some .int)) B0.pre w (List.mem_cons_of_mem _ hw)), hST⟩
  have hl := lv_entry ([.ref (ad 95), .int a1]) (n := 2) (Nat.le_of_ble_eq_true rfl)
  rw [lg_entry_eq]
  generalize (lg_sl ([.ref (ad 95), .int a1]) ++ List.replicate (2 - (lg_sl ([.ref (ad 95), .int a1])).length) Slot.unset).toArray = ls at hl ⊢
  exact zl_Mod_wrong B B0.returns B0.notSynchronized s.heap [] ls hP va_S.rf hl  hf
theorem zw_Mod_wrong {p : Program} {l : Launch} {e : Env} {R : Room} {s : State} {m : MethodId} {args : Array Value} {below : List Frame} {meth : Method} {c : Code} {H : Heap} {locs : List Loc} {cells slots : Nat} {Q : State → Prop} {cc : ByteArray} {pc nL : Nat} {ls : Array Slot} {rest st0 : List Value} {D : va_G} {cA : Nat → ClassId} {ad : Nat → Nat} {A : Nat → Prop} {X : IX} {Y : LX} {own : String} {index : Nat} {a1 : Int32} {v1 : Int32} (B : zu_B p s m args c cc nL own D cA ad A) (hP : va_P D zu_cl (zu_pic cA ad X Y) H) (hS : va_S A s.heap H locs) (hq : fn_Mod_wrong X a1 = some v1) (m1 : Cond.methodLink own index zm_Mod_wrong ∈ zu_TB) (hR1 : 2 + 1 ≤ R.frames) (hR2 : 8 + (2 + 11) + 45 ≤ R.locals) (hsz : ls.size = nL) (hst : st0 = .int a1 :: .ref (ad 95) :: rest) (hw : (rest.map fun v => v.category).sum ≤ 8) (hdg : decode cc pc = .ok (.invokevirtual index, 3)) (h00 : cells ≤ R.cells ∧ slots ≤ R.slots) (kk : ∀ (H1 : Heap) (locs1 : List Loc), va_P D zu_cl (zu_pic cA ad X Y) H1 → va_S A s.heap H1 locs1 → W p l e R s m args below meth c H1 locs1 cells slots Q (F0 m (pc + 3) ls (.int v1 :: rest))) : W p l e R s m args below meth c H locs cells slots Q (F0 m pc ls st0) := by
  subst hst
  exact zr_cVi (As := [.int a1]) (rest := rest) (n := 1) (C := "StonePostModel") (T := zt_Mod) (N := 23) B hP hS (zC_Mod_wrong l  hq) (K := 7) rfl (by decide) (by decide) rfl rfl m1 zq_1349 zqP_62 zq_8 zq_1350 (by decide +kernel) ⟨hR1, hR2⟩ rfl rfl rfl hsz rfl hw hdg h00 kk
abbrev zR_Mod_write : Room := { frames := 3, cells := 0, slots := 0, locals := 66 }
theorem zd_Mod_write_0 : decode zb_Mod_write 0 = .ok (.aload_n 0, 1) := by decide +kernel
theorem zd_Mod_write_1 : decode zb_Mod_write 1 = .ok (.iload_n 1, 1) := by decide +kernel
theorem zd_Mod_write_2 : decode zb_Mod_write 2 = .ok (.invokevirtual 350, 3) := by decide +kernel
theorem zd_Mod_write_5 : decode zb_Mod_write 5 = .ok (.istore 4, 2) := by decide +kernel
theorem zd_Mod_write_7 : decode zb_Mod_write 7 = .ok (.iload 4, 2) := by decide +kernel
theorem zd_Mod_write_9 : decode zb_Mod_write 9 = .ok (.ifCond .eq 10, 3) := by decide +kernel
theorem zd_Mod_write_12 : decode zb_Mod_write 12 = .ok (.aload_n 0, 1) := by decide +kernel
theorem zd_Mod_write_13 : decode zb_Mod_write 13 = .ok (.iload 4, 2) := by decide +kernel
theorem zd_Mod_write_15 : decode zb_Mod_write 15 = .ok (.invokevirtual 64, 3) := by decide +kernel
theorem zd_Mod_write_18 : decode zb_Mod_write 18 = .ok (.ireturn, 1) := by decide +kernel
theorem zd_Mod_write_19 : decode zb_Mod_write 19 = .ok (.iload_n 2, 1) := by decide +kernel
theorem zd_Mod_write_20 : decode zb_Mod_write 20 = .ok (.i2l, 1) := by decide +kernel
theorem zd_Mod_write_21 : decode zb_Mod_write 21 = .ok (.lconst 0, 1) := by decide +kernel
theorem zd_Mod_write_22 : decode zb_Mod_write 22 = .ok (.aload_n 0, 1) := by decide +kernel
theorem zd_Mod_write_23 : decode zb_Mod_write 23 = .ok (.getfield 41, 3) := by decide +kernel
theorem zd_Mod_write_26 : decode zb_Mod_write 26 = .ok (.iload_n 1, 1) := by decide +kernel
theorem zd_Mod_write_27 : decode zb_Mod_write 27 = .ok (.iaload, 1) := by decide +kernel
theorem zd_Mod_write_28 : decode zb_Mod_write 28 = .ok (.iconst 1, 1) := by decide +kernel
theorem zd_Mod_write_29 : decode zb_Mod_write 29 = .ok (.isub, 1) := by decide +kernel
theorem zd_Mod_write_30 : decode zb_Mod_write 30 = .ok (.i2l, 1) := by decide +kernel
theorem zd_Mod_write_31 : decode zb_Mod_write 31 = .ok (.invokestatic 53, 3) := by decide +kernel
theorem zd_Mod_write_34 : decode zb_Mod_write 34 = .ok (.ifCond .ne 10, 3) := by decide +kernel
theorem zd_Mod_write_37 : decode zb_Mod_write 37 = .ok (.aload_n 0, 1) := by decide +kernel
theorem zd_Mod_write_38 : decode zb_Mod_write 38 = .ok (.ldc 50, 2) := by decide +kernel
theorem zd_Mod_write_40 : decode zb_Mod_write 40 = .ok (.invokevirtual 64, 3) := by decide +kernel
theorem zd_Mod_write_43 : decode zb_Mod_write 43 = .ok (.ireturn, 1) := by decide +kernel
theorem zd_Mod_write_44 : decode zb_Mod_write 44 = .ok (.aload_n 0, 1) := by decide +kernel
theorem zd_Mod_write_45 : decode zb_Mod_write 45 = .ok (.getfield 44, 3) := by decide +kernel
theorem zd_Mod_write_48 : decode zb_Mod_write 48 = .ok (.bipush 40, 2) := by decide +kernel
theorem zd_Mod_write_50 : decode zb_Mod_write 50 = .ok (.iload_n 1, 1) := by decide +kernel
theorem zd_Mod_write_51 : decode zb_Mod_write 51 = .ok (.imul, 1) := by decide +kernel
theorem zd_Mod_write_52 : decode zb_Mod_write 52 = .ok (.iload_n 2, 1) := by decide +kernel
theorem zd_Mod_write_53 : decode zb_Mod_write 53 = .ok (.iadd, 1) := by decide +kernel
theorem zd_Mod_write_54 : decode zb_Mod_write 54 = .ok (.aload_n 0, 1) := by decide +kernel
theorem zd_Mod_write_55 : decode zb_Mod_write 55 = .ok (.getfield 38, 3) := by decide +kernel
theorem zd_Mod_write_58 : decode zb_Mod_write 58 = .ok (.iload_n 1, 1) := by decide +kernel
theorem zd_Mod_write_59 : decode zb_Mod_write 59 = .ok (.iaload, 1) := by decide +kernel
theorem zd_Mod_write_60 : decode zb_Mod_write 60 = .ok (.iload_n 3, 1) := by decide +kernel
theorem zd_Mod_write_61 : decode zb_Mod_write 61 = .ok (.invokestatic 353, 3) := by decide +kernel
theorem zd_Mod_write_64 : decode zb_Mod_write 64 = .ok (.iastore, 1) := by decide +kernel
theorem zd_Mod_write_65 : decode zb_Mod_write 65 = .ok (.iconst 1, 1) := by decide +kernel
theorem zd_Mod_write_66 : decode zb_Mod_write 66 = .ok (.ireturn, 1) := by decide +kernel
set_option maxHeartbeats 4000000 in
theorem zl_Mod_write {p : Program} {l : Launch} {e : Env} {s : State} {m : MethodId} {args : Array Value} {below : List Frame} {meth : Method} {c : Code} {D : va_G} {cA : Nat → ClassId} {ad : Nat → Nat} {A : Nat → Prop} (B : zu_B p s m args c zb_Mod_write 5 "StonePostModel" D cA ad A) (hret : meth.sig.returnType = (some .int)) (hlk : meth.locks = false) {Y : LX} {res : Int32 × IX} {a1 : Int32} {a2 : Int32} {a3 : Int32} {X : IX} (H : Heap) (locs : List Loc) (ls : Array Slot) (hP : va_P D zu_cl (zu_pic cA ad X Y) H) (hS : va_S A s.heap H locs) (hl : lv_has ls 5 [(0, .ref (ad 95)), (1, .int a1), (2, .int a2), (3, .int a3)]) (hf : fn_Mod_write a1 a2 a3 X = some res) : W p l e zR_Mod_write s m args below meth c H locs 0 0 (MQ below (zu_Qi D cA ad A res.1 res.2 Y) args s 0 0 A) (F0 m 0 ls []) := by
  obtain ⟨hx, hb, hml, hown, hts, hST⟩ := id B
  unfold fn_Mod_write at hf
  refine lv_aload_n hx hb zd_Mod_write_0 rfl (lv_at hl 0 rfl) ?_
  refine lv_iload_n hx hb zd_Mod_write_1 rfl (lv_at hl 1 rfl) ?_
  obtain ⟨v1, hq2, hf⟩ := zu_b1_e hf
  refine zw_Mod_wrong (rest := []) B hP hS hq2 zq_1347 (Nat.le_of_ble_eq_true rfl) (Nat.le_of_ble_eq_true rfl) hl.1 rfl (Nat.le_of_ble_eq_true rfl) zd_Mod_write_2 (by decide) (fun H locs hP hS => ?_)
  clear hq2
  refine lv_istore (lv' := [(4, .int v1), (0, .ref (ad 95)), (1, .int a1), (2, .int a2), (3, .int a3)]) hx hb zd_Mod_write_5 hl (by decide) rfl (fun ls hl => ?_)
  refine lv_iload hx hb zd_Mod_write_7 (lv_at hl 0 rfl) ?_
  refine lv_if_eq (tgt := 19) hx hb zd_Mod_write_9 (by decide) (fun c3 => ?_) (fun c3 => ?_)
  · have hf := zu_t c3 hf
    refine lv_iload_n hx hb zd_Mod_write_19 rfl (lv_at hl 3 rfl) ?_
    refine lv_i2l hx hb zd_Mod_write_20 rfl ?_
    refine lv_lconst (v := 0) hx hb zd_Mod_write_21 (by decide) ?_
    refine lv_aload_n hx hb zd_Mod_write_22 rfl (lv_at hl 1 rfl) ?_
    refine zg_Mod_sizeOf B hP rfl zq_881 zd_Mod_write_23 ?_
    refine lv_iload_n hx hb zd_Mod_write_26 rfl (lv_at hl 2 rfl) ?_
    obtain ⟨hg4, hf⟩ := zu_gd_e hf
    refine zr_iald rfl B hP rfl (by decide) rfl hg4 zd_Mod_write_27 ?_
    refine lv_iconst (v := 1) hx hb zd_Mod_write_28 (by decide) ?_
    refine lv_isub hx hb zd_Mod_write_29 ?_
    refine lv_i2l hx hb zd_Mod_write_30 rfl ?_
    obtain ⟨v5, hq6, hf⟩ := zu_b1_e hf
    refine zw_Mod_in (rest := []) B hP hS hq6 zq_939 (Nat.le_of_ble_eq_true rfl) (Nat.le_of_ble_eq_true rfl) hl.1 rfl (Nat.le_of_ble_eq_true rfl) zd_Mod_write_31 (by decide) (fun H locs hP hS => ?_)
    clear hq6
    refine lv_if_ne (tgt := 44) hx hb zd_Mod_write_34 (by decide) (fun c7 => ?_) (fun c7 => ?_)
    · have hf := zu_f c7 hf
      refine lv_aload_n hx hb zd_Mod_write_44 rfl (lv_at hl 1 rfl) ?_
      refine zg_Mod_number B hP rfl zq_882 zd_Mod_write_45 ?_
      refine lv_bipush (v := 40) hx hb zd_Mod_write_48 (by decide) ?_
      refine lv_iload_n hx hb zd_Mod_write_50 rfl (lv_at hl 2 rfl) ?_
      refine lv_imul hx hb zd_Mod_write_51 ?_
      refine lv_iload_n hx hb zd_Mod_write_52 rfl (lv_at hl 3 rfl) ?_
      refine lv_iadd hx hb zd_Mod_write_53 ?_
      refine lv_aload_n hx hb zd_Mod_write_54 rfl (lv_at hl 1 rfl) ?_
      refine zg_Mod_bitsOf B hP rfl zq_880 zd_Mod_write_55 ?_
      refine lv_iload_n hx hb zd_Mod_write_58 rfl (lv_at hl 2 rfl) ?_
      obtain ⟨hg8, hf⟩ := zu_gd_e hf
      refine zr_iald rfl B hP rfl (by decide) rfl hg8 zd_Mod_write_59 ?_
      refine lv_iload_n hx hb zd_Mod_write_60 rfl (lv_at hl 4 rfl) ?_
      obtain ⟨v9, ehq10, hf⟩ := zu_nx_e hf
      have hq10 := ehq10.symm
      refine zw_Mod_narrowed (rest := [.int (((40 : Int32) * a1) + a2), .ref (ad 107)]) B hP hS hq10 zq_1351 (Nat.le_of_ble_eq_true rfl) (Nat.le_of_ble_eq_true rfl) hl.1 rfl (Nat.le_of_ble_eq_true rfl) zd_Mod_write_61 (by decide) (fun H locs hP hS => ?_)
      clear hq10 ehq10
      obtain ⟨hg11, hf⟩ := zu_gd_e hf
      refine zr_iast rfl B hP hS hf rfl (by decide) rfl hg11 zd_Mod_write_64 (fun X12 H locs hf hP hS => ?_)
      refine lv_iconst (v := 1) hx hb zd_Mod_write_65 (by decide) ?_
      obtain rfl := Option.some.inj hf
      exact zr_iret hx hb hret hlk hP hS zd_Mod_write_66
    · have hf := zu_t c7 hf
      refine lv_aload_n hx hb zd_Mod_write_37 rfl (lv_at hl 1 rfl) ?_
      refine lv_ldc (v := -1000001) hx hb hown (hts _ zq_943) zd_Mod_write_38 ?_
      obtain ⟨v13, X14, hq15, hf⟩ := zu_b2_e hf
      refine zw_Mod_finds (rest := []) B hP hS hq15 zq_944 (Nat.le_of_ble_eq_true rfl) (Nat.le_of_ble_eq_true rfl) hl.1 rfl (Nat.le_of_ble_eq_true rfl) zd_Mod_write_40 (by decide) (fun H locs hP hS => ?_)
      clear hq15
      obtain rfl := Option.some.inj hf
      exact zr_iret hx hb hret hlk hP hS zd_Mod_write_43
  · have hf := zu_f c3 hf
    refine lv_aload_n hx hb zd_Mod_write_12 rfl (lv_at hl 1 rfl) ?_
    refine lv_iload hx hb zd_Mod_write_13 (lv_at hl 0 rfl) ?_
    obtain ⟨v16, X17, hq18, hf⟩ := zu_b2_e hf
    refine zw_Mod_finds (rest := []) B hP hS hq18 zq_944 (Nat.le_of_ble_eq_true rfl) (Nat.le_of_ble_eq_true rfl) hl.1 rfl (Nat.le_of_ble_eq_true rfl) zd_Mod_write_15 (by decide) (fun H locs hP hS => ?_)
    clear hq18
    obtain rfl := Option.some.inj hf
    exact zr_iret hx hb hret hlk hP hS zd_Mod_write_18
theorem zC_Mod_write (l : Launch) {D : va_G} {cA : Nat → ClassId} {ad : Nat → Nat} {A : Nat → Prop} {a1 : Int32} {a2 : Int32} {a3 : Int32} {X : IX} {Y : LX} {res : Int32 × IX} (hf : fn_Mod_write a1 a2 a3 X = some res) : Met l zm_Mod_write (zu_ws zm_Mod_write zb_Mod_write 5 (some .int)) zR_Mod_write (va_Pc [.ref (ad 95), .int a1, .int a2, .int a3] (zu_Pre D cA ad A X Y)) (zu_Qi D cA ad A res.1 res.2 Y) 0 0 A := by
  refine Met.ofW (cc := zb_Mod_write) (maxL := 5) (ret := (some .int)) (by decide +kernel) rfl ?_
  intro p e s m args below meth c s₁ B0 hml hv
  obtain ⟨rfl, hP, hST⟩ := hv
  have B : zu_B p s m _ c zb_Mod_write 5 "StonePostModel" D cA ad A := ⟨B0.exec, B0.bytes, hml, findClass_of_methodNamed B0.named, (fun w hw => atoms_spec (ws := zu_ws zm_Mod_write zb_Mod_write 5 (some .int)) B0.pre w (List.mem_cons_of_mem _ hw)), hST⟩
  have hl := lv_entry ([.ref (ad 95), .int a1, .int a2, .int a3]) (n := 5) (Nat.le_of_ble_eq_true rfl)
  rw [lg_entry_eq]
  generalize (lg_sl ([.ref (ad 95), .int a1, .int a2, .int a3]) ++ List.replicate (5 - (lg_sl ([.ref (ad 95), .int a1, .int a2, .int a3])).length) Slot.unset).toArray = ls at hl ⊢
  exact zl_Mod_write B B0.returns B0.notSynchronized s.heap [] ls hP va_S.rf hl  hf
theorem zw_Mod_write {p : Program} {l : Launch} {e : Env} {R : Room} {s : State} {m : MethodId} {args : Array Value} {below : List Frame} {meth : Method} {c : Code} {H : Heap} {locs : List Loc} {cells slots : Nat} {Q : State → Prop} {cc : ByteArray} {pc nL : Nat} {ls : Array Slot} {rest st0 : List Value} {D : va_G} {cA : Nat → ClassId} {ad : Nat → Nat} {A : Nat → Prop} {X : IX} {Y : LX} {own : String} {index : Nat} {a1 : Int32} {a2 : Int32} {a3 : Int32} {v1 : Int32} {X1 : IX} (B : zu_B p s m args c cc nL own D cA ad A) (hP : va_P D zu_cl (zu_pic cA ad X Y) H) (hS : va_S A s.heap H locs) (hq : fn_Mod_write a1 a2 a3 X = some (v1, X1)) (m1 : Cond.methodLink own index zm_Mod_write ∈ zu_TB) (hR1 : 3 + 1 ≤ R.frames) (hR2 : 8 + (5 + 11) + 66 ≤ R.locals) (hsz : ls.size = nL) (hst : st0 = .int a3 :: .int a2 :: .int a1 :: .ref (ad 95) :: rest) (hw : (rest.map fun v => v.category).sum ≤ 8) (hdg : decode cc pc = .ok (.invokevirtual index, 3)) (h00 : cells ≤ R.cells ∧ slots ≤ R.slots) (kk : ∀ (H1 : Heap) (locs1 : List Loc), va_P D zu_cl (zu_pic cA ad X1 Y) H1 → va_S A s.heap H1 locs1 → W p l e R s m args below meth c H1 locs1 cells slots Q (F0 m (pc + 3) ls (.int v1 :: rest))) : W p l e R s m args below meth c H locs cells slots Q (F0 m pc ls st0) := by
  subst hst
  exact zr_cVi (As := [.int a1, .int a2, .int a3]) (rest := rest) (n := 3) (C := "StonePostModel") (T := zt_Mod) (N := 23) B hP hS (zC_Mod_write l  hq) (K := 7) rfl (by decide) (by decide) rfl rfl m1 zq_1344 zq_1345 zq_8 zq_1346 (by decide +kernel) ⟨hR1, hR2⟩ rfl rfl rfl hsz rfl hw hdg h00 kk
abbrev zR_Mod_copy : Room := { frames := 2, cells := 0, slots := 0, locals := 45 }
theorem zd_Mod_copy_0 : decode zb_Mod_copy 0 = .ok (.iload_n 1, 1) := by decide +kernel
theorem zd_Mod_copy_1 : decode zb_Mod_copy 1 = .ok (.invokestatic 347, 3) := by decide +kernel
theorem zd_Mod_copy_4 : decode zb_Mod_copy 4 = .ok (.ifCond .eq 10, 3) := by decide +kernel
theorem zd_Mod_copy_7 : decode zb_Mod_copy 7 = .ok (.iload_n 3, 1) := by decide +kernel
theorem zd_Mod_copy_8 : decode zb_Mod_copy 8 = .ok (.invokestatic 347, 3) := by decide +kernel
theorem zd_Mod_copy_11 : decode zb_Mod_copy 11 = .ok (.ifCond .ne 10, 3) := by decide +kernel
theorem zd_Mod_copy_14 : decode zb_Mod_copy 14 = .ok (.aload_n 0, 1) := by decide +kernel
theorem zd_Mod_copy_15 : decode zb_Mod_copy 15 = .ok (.ldc 50, 2) := by decide +kernel
theorem zd_Mod_copy_17 : decode zb_Mod_copy 17 = .ok (.invokevirtual 64, 3) := by decide +kernel
theorem zd_Mod_copy_20 : decode zb_Mod_copy 20 = .ok (.ireturn, 1) := by decide +kernel
theorem zd_Mod_copy_21 : decode zb_Mod_copy 21 = .ok (.aload_n 0, 1) := by decide +kernel
theorem zd_Mod_copy_22 : decode zb_Mod_copy 22 = .ok (.getfield 38, 3) := by decide +kernel
theorem zd_Mod_copy_25 : decode zb_Mod_copy 25 = .ok (.iload_n 1, 1) := by decide +kernel
theorem zd_Mod_copy_26 : decode zb_Mod_copy 26 = .ok (.iaload, 1) := by decide +kernel
theorem zd_Mod_copy_27 : decode zb_Mod_copy 27 = .ok (.ifCond .eq 12, 3) := by decide +kernel
theorem zd_Mod_copy_30 : decode zb_Mod_copy 30 = .ok (.aload_n 0, 1) := by decide +kernel
theorem zd_Mod_copy_31 : decode zb_Mod_copy 31 = .ok (.getfield 38, 3) := by decide +kernel
theorem zd_Mod_copy_34 : decode zb_Mod_copy 34 = .ok (.iload_n 3, 1) := by decide +kernel
theorem zd_Mod_copy_35 : decode zb_Mod_copy 35 = .ok (.iaload, 1) := by decide +kernel
theorem zd_Mod_copy_36 : decode zb_Mod_copy 36 = .ok (.ifCond .ne 11, 3) := by decide +kernel
theorem zd_Mod_copy_39 : decode zb_Mod_copy 39 = .ok (.aload_n 0, 1) := by decide +kernel
theorem zd_Mod_copy_40 : decode zb_Mod_copy 40 = .ok (.ldc_w 345, 3) := by decide +kernel
theorem zd_Mod_copy_43 : decode zb_Mod_copy 43 = .ok (.invokevirtual 64, 3) := by decide +kernel
theorem zd_Mod_copy_46 : decode zb_Mod_copy 46 = .ok (.ireturn, 1) := by decide +kernel
theorem zd_Mod_copy_47 : decode zb_Mod_copy 47 = .ok (.aload_n 0, 1) := by decide +kernel
theorem zd_Mod_copy_48 : decode zb_Mod_copy 48 = .ok (.getfield 38, 3) := by decide +kernel
theorem zd_Mod_copy_51 : decode zb_Mod_copy 51 = .ok (.iload_n 1, 1) := by decide +kernel
theorem zd_Mod_copy_52 : decode zb_Mod_copy 52 = .ok (.iaload, 1) := by decide +kernel
theorem zd_Mod_copy_53 : decode zb_Mod_copy 53 = .ok (.aload_n 0, 1) := by decide +kernel
theorem zd_Mod_copy_54 : decode zb_Mod_copy 54 = .ok (.getfield 38, 3) := by decide +kernel
theorem zd_Mod_copy_57 : decode zb_Mod_copy 57 = .ok (.iload_n 3, 1) := by decide +kernel
theorem zd_Mod_copy_58 : decode zb_Mod_copy 58 = .ok (.iaload, 1) := by decide +kernel
theorem zd_Mod_copy_59 : decode zb_Mod_copy 59 = .ok (.if_icmp .eq 11, 3) := by decide +kernel
theorem zd_Mod_copy_62 : decode zb_Mod_copy 62 = .ok (.aload_n 0, 1) := by decide +kernel
theorem zd_Mod_copy_63 : decode zb_Mod_copy 63 = .ok (.ldc_w 346, 3) := by decide +kernel
theorem zd_Mod_copy_66 : decode zb_Mod_copy 66 = .ok (.invokevirtual 64, 3) := by decide +kernel
theorem zd_Mod_copy_69 : decode zb_Mod_copy 69 = .ok (.ireturn, 1) := by decide +kernel
theorem zd_Mod_copy_70 : decode zb_Mod_copy 70 = .ok (.iload_n 2, 1) := by decide +kernel
theorem zd_Mod_copy_71 : decode zb_Mod_copy 71 = .ok (.ifCond .lt 40, 3) := by decide +kernel
theorem zd_Mod_copy_74 : decode zb_Mod_copy 74 = .ok (.iload 4, 2) := by decide +kernel
theorem zd_Mod_copy_76 : decode zb_Mod_copy 76 = .ok (.ifCond .lt 35, 3) := by decide +kernel
theorem zd_Mod_copy_79 : decode zb_Mod_copy 79 = .ok (.iload 5, 2) := by decide +kernel
theorem zd_Mod_copy_81 : decode zb_Mod_copy 81 = .ok (.ifCond .lt 30, 3) := by decide +kernel
theorem zd_Mod_copy_84 : decode zb_Mod_copy 84 = .ok (.iload 5, 2) := by decide +kernel
theorem zd_Mod_copy_86 : decode zb_Mod_copy 86 = .ok (.aload_n 0, 1) := by decide +kernel
theorem zd_Mod_copy_87 : decode zb_Mod_copy 87 = .ok (.getfield 41, 3) := by decide +kernel
theorem zd_Mod_copy_90 : decode zb_Mod_copy 90 = .ok (.iload_n 1, 1) := by decide +kernel
theorem zd_Mod_copy_91 : decode zb_Mod_copy 91 = .ok (.iaload, 1) := by decide +kernel
theorem zd_Mod_copy_92 : decode zb_Mod_copy 92 = .ok (.iload_n 2, 1) := by decide +kernel
theorem zd_Mod_copy_93 : decode zb_Mod_copy 93 = .ok (.isub, 1) := by decide +kernel
theorem zd_Mod_copy_94 : decode zb_Mod_copy 94 = .ok (.if_icmp .gt 17, 3) := by decide +kernel
theorem zd_Mod_copy_97 : decode zb_Mod_copy 97 = .ok (.iload 5, 2) := by decide +kernel
theorem zd_Mod_copy_99 : decode zb_Mod_copy 99 = .ok (.aload_n 0, 1) := by decide +kernel
theorem zd_Mod_copy_100 : decode zb_Mod_copy 100 = .ok (.getfield 41, 3) := by decide +kernel
theorem zd_Mod_copy_103 : decode zb_Mod_copy 103 = .ok (.iload_n 3, 1) := by decide +kernel
theorem zd_Mod_copy_104 : decode zb_Mod_copy 104 = .ok (.iaload, 1) := by decide +kernel
theorem zd_Mod_copy_105 : decode zb_Mod_copy 105 = .ok (.iload 4, 2) := by decide +kernel
theorem zd_Mod_copy_107 : decode zb_Mod_copy 107 = .ok (.isub, 1) := by decide +kernel
theorem zd_Mod_copy_108 : decode zb_Mod_copy 108 = .ok (.if_icmp .le 10, 3) := by decide +kernel
theorem zd_Mod_copy_111 : decode zb_Mod_copy 111 = .ok (.aload_n 0, 1) := by decide +kernel
theorem zd_Mod_copy_112 : decode zb_Mod_copy 112 = .ok (.ldc 50, 2) := by decide +kernel
theorem zd_Mod_copy_114 : decode zb_Mod_copy 114 = .ok (.invokevirtual 64, 3) := by decide +kernel
theorem zd_Mod_copy_117 : decode zb_Mod_copy 117 = .ok (.ireturn, 1) := by decide +kernel
theorem zd_Mod_copy_118 : decode zb_Mod_copy 118 = .ok (.iconst 0, 1) := by decide +kernel
theorem zd_Mod_copy_119 : decode zb_Mod_copy 119 = .ok (.istore 6, 2) := by decide +kernel
theorem zd_Mod_copy_121 : decode zb_Mod_copy 121 = .ok (.iload 6, 2) := by decide +kernel
theorem zd_Mod_copy_123 : decode zb_Mod_copy 123 = .ok (.iload 5, 2) := by decide +kernel
theorem zd_Mod_copy_125 : decode zb_Mod_copy 125 = .ok (.if_icmp .ge 30, 3) := by decide +kernel
theorem zd_Mod_copy_128 : decode zb_Mod_copy 128 = .ok (.aload_n 0, 1) := by decide +kernel
theorem zd_Mod_copy_129 : decode zb_Mod_copy 129 = .ok (.getfield 47, 3) := by decide +kernel
theorem zd_Mod_copy_132 : decode zb_Mod_copy 132 = .ok (.iload 6, 2) := by decide +kernel
theorem zd_Mod_copy_134 : decode zb_Mod_copy 134 = .ok (.aload_n 0, 1) := by decide +kernel
theorem zd_Mod_copy_135 : decode zb_Mod_copy 135 = .ok (.getfield 44, 3) := by decide +kernel
theorem zd_Mod_copy_138 : decode zb_Mod_copy 138 = .ok (.bipush 40, 2) := by decide +kernel
theorem zd_Mod_copy_140 : decode zb_Mod_copy 140 = .ok (.iload_n 1, 1) := by decide +kernel
theorem zd_Mod_copy_141 : decode zb_Mod_copy 141 = .ok (.imul, 1) := by decide +kernel
theorem zd_Mod_copy_142 : decode zb_Mod_copy 142 = .ok (.iload_n 2, 1) := by decide +kernel
theorem zd_Mod_copy_143 : decode zb_Mod_copy 143 = .ok (.iadd, 1) := by decide +kernel
theorem zd_Mod_copy_144 : decode zb_Mod_copy 144 = .ok (.iload 6, 2) := by decide +kernel
theorem zd_Mod_copy_146 : decode zb_Mod_copy 146 = .ok (.iadd, 1) := by decide +kernel
theorem zd_Mod_copy_147 : decode zb_Mod_copy 147 = .ok (.iaload, 1) := by decide +kernel
theorem zd_Mod_copy_148 : decode zb_Mod_copy 148 = .ok (.iastore, 1) := by decide +kernel
theorem zd_Mod_copy_149 : decode zb_Mod_copy 149 = .ok (.iinc 6 1, 3) := by decide +kernel
theorem zd_Mod_copy_152 : decode zb_Mod_copy 152 = .ok (.goto (-31), 3) := by decide +kernel
theorem zd_Mod_copy_155 : decode zb_Mod_copy 155 = .ok (.iconst 0, 1) := by decide +kernel
theorem zd_Mod_copy_156 : decode zb_Mod_copy 156 = .ok (.istore 6, 2) := by decide +kernel
theorem zd_Mod_copy_158 : decode zb_Mod_copy 158 = .ok (.iload 6, 2) := by decide +kernel
theorem zd_Mod_copy_160 : decode zb_Mod_copy 160 = .ok (.iload 5, 2) := by decide +kernel
theorem zd_Mod_copy_162 : decode zb_Mod_copy 162 = .ok (.if_icmp .ge 31, 3) := by decide +kernel
theorem zd_Mod_copy_165 : decode zb_Mod_copy 165 = .ok (.aload_n 0, 1) := by decide +kernel
theorem zd_Mod_copy_166 : decode zb_Mod_copy 166 = .ok (.getfield 44, 3) := by decide +kernel
theorem zd_Mod_copy_169 : decode zb_Mod_copy 169 = .ok (.bipush 40, 2) := by decide +kernel
theorem zd_Mod_copy_171 : decode zb_Mod_copy 171 = .ok (.iload_n 3, 1) := by decide +kernel
theorem zd_Mod_copy_172 : decode zb_Mod_copy 172 = .ok (.imul, 1) := by decide +kernel
theorem zd_Mod_copy_173 : decode zb_Mod_copy 173 = .ok (.iload 4, 2) := by decide +kernel
theorem zd_Mod_copy_175 : decode zb_Mod_copy 175 = .ok (.iadd, 1) := by decide +kernel
theorem zd_Mod_copy_176 : decode zb_Mod_copy 176 = .ok (.iload 6, 2) := by decide +kernel
theorem zd_Mod_copy_178 : decode zb_Mod_copy 178 = .ok (.iadd, 1) := by decide +kernel
theorem zd_Mod_copy_179 : decode zb_Mod_copy 179 = .ok (.aload_n 0, 1) := by decide +kernel
theorem zd_Mod_copy_180 : decode zb_Mod_copy 180 = .ok (.getfield 47, 3) := by decide +kernel
theorem zd_Mod_copy_183 : decode zb_Mod_copy 183 = .ok (.iload 6, 2) := by decide +kernel
theorem zd_Mod_copy_185 : decode zb_Mod_copy 185 = .ok (.iaload, 1) := by decide +kernel
theorem zd_Mod_copy_186 : decode zb_Mod_copy 186 = .ok (.iastore, 1) := by decide +kernel
theorem zd_Mod_copy_187 : decode zb_Mod_copy 187 = .ok (.iinc 6 1, 3) := by decide +kernel
theorem zd_Mod_copy_190 : decode zb_Mod_copy 190 = .ok (.goto (-32), 3) := by decide +kernel
theorem zd_Mod_copy_193 : decode zb_Mod_copy 193 = .ok (.iload 5, 2) := by decide +kernel
theorem zd_Mod_copy_195 : decode zb_Mod_copy 195 = .ok (.ireturn, 1) := by decide +kernel
set_option maxHeartbeats 4000000 in
theorem zl_Mod_copy_B158 {p : Program} {l : Launch} {e : Env} {s : State} {m : MethodId} {args : Array Value} {below : List Frame} {meth : Method} {c : Code} {D : va_G} {cA : Nat → ClassId} {ad : Nat → Nat} {A : Nat → Prop} (B : zu_B p s m args c zb_Mod_copy 7 "StonePostModel" D cA ad A) (hret : meth.sig.returnType = (some .int)) (hlk : meth.locks = false) {Y : LX} {res : Int32 × IX} {k158 : Int32 → Int32 → Int32 → Int32 → IX → Option (Int32 × IX)} (hk158 : ∀ (x3 : Int32) (x4 : Int32) (x5 : Int32) (x6 : Int32) (X : IX) (H : Heap) (locs : List Loc) (ls : Array Slot), va_P D zu_cl (zu_pic cA ad X Y) H → va_S A s.heap H locs → lv_has ls 7 [(0, .ref (ad 95)), (3, .int x3), (4, .int x4), (5, .int x5), (6, .int x6)] → k158 x3 x4 x5 x6 X = some res → W p l e zR_Mod_copy s m args below meth c H locs 0 0 (MQ below (zu_Qi D cA ad A res.1 res.2 Y) args s 0 0 A) (F0 m 158 ls [])) (x3 : Int32) (x4 : Int32) (x5 : Int32) (x6 : Int32) (X : IX) (H : Heap) (locs : List Loc) (ls : Array Slot) (hP : va_P D zu_cl (zu_pic cA ad X Y) H) (hS : va_S A s.heap H locs) (hl : lv_has ls 7 [(0, .ref (ad 95)), (3, .int x3), (4, .int x4), (5, .int x5), (6, .int x6)]) (hf : fn_Mod_copy_B158 k158 x3 x4 x5 x6 X = some res) : W p l e zR_Mod_copy s m args below meth c H locs 0 0 (MQ below (zu_Qi D cA ad A res.1 res.2 Y) args s 0 0 A) (F0 m 158 ls []) := by
  obtain ⟨hx, hb, hml, hown, hts, hST⟩ := id B
  unfold fn_Mod_copy_B158 at hf
  refine lv_iload hx hb zd_Mod_copy_158 (lv_at hl 4 rfl) ?_
  refine lv_iload hx hb zd_Mod_copy_160 (lv_at hl 3 rfl) ?_
  refine lv_icmp_ge (tgt := 193) hx hb zd_Mod_copy_162 (by decide) (fun c38 => ?_) (fun c38 => ?_)
  · have hf := zu_t c38 hf
    refine lv_iload hx hb zd_Mod_copy_193 (lv_at hl 3 rfl) ?_
    obtain rfl := Option.some.inj hf
    exact zr_iret hx hb hret hlk hP hS zd_Mod_copy_195
  · have hf := zu_f c38 hf
    refine lv_aload_n hx hb zd_Mod_copy_165 rfl (lv_at hl 0 rfl) ?_
    refine zg_Mod_number B hP rfl zq_882 zd_Mod_copy_166 ?_
    refine lv_bipush (v := 40) hx hb zd_Mod_copy_169 (by decide) ?_
    refine lv_iload_n hx hb zd_Mod_copy_171 rfl (lv_at hl 1 rfl) ?_
    refine lv_imul hx hb zd_Mod_copy_172 ?_
    refine lv_iload hx hb zd_Mod_copy_173 (lv_at hl 2 rfl) ?_
    refine lv_iadd hx hb zd_Mod_copy_175 ?_
    refine lv_iload hx hb zd_Mod_copy_176 (lv_at hl 4 rfl) ?_
    refine lv_iadd hx hb zd_Mod_copy_178 ?_
    refine lv_aload_n hx hb zd_Mod_copy_179 rfl (lv_at hl 0 rfl) ?_
    refine zg_Mod_moved B hP rfl zq_883 zd_Mod_copy_180 ?_
    refine lv_iload hx hb zd_Mod_copy_183 (lv_at hl 4 rfl) ?_
    obtain ⟨hg39, hf⟩ := zu_gd_e hf
    refine zr_iald rfl B hP rfl (by decide) rfl hg39 zd_Mod_copy_185 ?_
    obtain ⟨hg40, hf⟩ := zu_gd_e hf
    refine zr_iast rfl B hP hS hf rfl (by decide) rfl hg40 zd_Mod_copy_186 (fun X41 H locs hf hP hS => ?_)
    obtain ⟨v42, ev42, hf⟩ := zu_nx_e hf
    refine lv_iinc (v := v42) (lv' := [(6, .int v42), (0, .ref (ad 95)), (3, .int x3), (4, .int x4), (5, .int x5)]) hx hb zd_Mod_copy_187 hl (k := 4) rfl (by rw [ev42]; rfl) (by decide) rfl (fun ls hl => ?_)
    clear ev42
    refine lv_goto (tgt := 158) hx hb zd_Mod_copy_190 (by decide) ?_
    exact hk158 x3 x4 x5 v42 X41 _ _ _ hP hS (lv_sub hl [1, 2, 3, 4, 0] rfl) hf
theorem zl_Mod_copy_L158 {p : Program} {l : Launch} {e : Env} {s : State} {m : MethodId} {args : Array Value} {below : List Frame} {meth : Method} {c : Code} {D : va_G} {cA : Nat → ClassId} {ad : Nat → Nat} {A : Nat → Prop} (B : zu_B p s m args c zb_Mod_copy 7 "StonePostModel" D cA ad A) (hret : meth.sig.returnType = (some .int)) (hlk : meth.locks = false) {Y : LX} {res : Int32 × IX} : ∀ (n : Nat) (x3 : Int32) (x4 : Int32) (x5 : Int32) (x6 : Int32) (X : IX) (H : Heap) (locs : List Loc) (ls : Array Slot), va_P D zu_cl (zu_pic cA ad X Y) H → va_S A s.heap H locs → lv_has ls 7 [(0, .ref (ad 95)), (3, .int x3), (4, .int x4), (5, .int x5), (6, .int x6)] → fn_Mod_copy_L158 n x3 x4 x5 x6 X = some res → W p l e zR_Mod_copy s m args below meth c H locs 0 0 (MQ below (zu_Qi D cA ad A res.1 res.2 Y) args s 0 0 A) (F0 m 158 ls []) := by
  intro n
  induction n with
  | zero =>
    intro x3 x4 x5 x6 X H locs ls hP hS hl hf
    exact (Option.some_ne_none _ hf.symm).elim
  | succ n ih =>
    intro x3 x4 x5 x6 X H locs ls hP hS hl hf
    exact zl_Mod_copy_B158 B hret hlk ih x3 x4 x5 x6 X H locs ls hP hS hl  hf
set_option maxHeartbeats 4000000 in
theorem zl_Mod_copy_B121 {p : Program} {l : Launch} {e : Env} {s : State} {m : MethodId} {args : Array Value} {below : List Frame} {meth : Method} {c : Code} {D : va_G} {cA : Nat → ClassId} {ad : Nat → Nat} {A : Nat → Prop} (B : zu_B p s m args c zb_Mod_copy 7 "StonePostModel" D cA ad A) (hret : meth.sig.returnType = (some .int)) (hlk : meth.locks = false) {Y : LX} {res : Int32 × IX} {k121 : Int32 → Int32 → Int32 → Int32 → Int32 → Int32 → IX → Option (Int32 × IX)} (hk121 : ∀ (x1 : Int32) (x2 : Int32) (x3 : Int32) (x4 : Int32) (x5 : Int32) (x6 : Int32) (X : IX) (H : Heap) (locs : List Loc) (ls : Array Slot), va_P D zu_cl (zu_pic cA ad X Y) H → va_S A s.heap H locs → lv_has ls 7 [(0, .ref (ad 95)), (1, .int x1), (2, .int x2), (3, .int x3), (4, .int x4), (5, .int x5), (6, .int x6)] → k121 x1 x2 x3 x4 x5 x6 X = some res → W p l e zR_Mod_copy s m args below meth c H locs 0 0 (MQ below (zu_Qi D cA ad A res.1 res.2 Y) args s 0 0 A) (F0 m 121 ls [])) (x1 : Int32) (x2 : Int32) (x3 : Int32) (x4 : Int32) (x5 : Int32) (x6 : Int32) (X : IX) (H : Heap) (locs : List Loc) (ls : Array Slot) (hP : va_P D zu_cl (zu_pic cA ad X Y) H) (hS : va_S A s.heap H locs) (hl : lv_has ls 7 [(0, .ref (ad 95)), (1, .int x1), (2, .int x2), (3, .int x3), (4, .int x4), (5, .int x5), (6, .int x6)]) (hf : fn_Mod_copy_B121 k121 x1 x2 x3 x4 x5 x6 X = some res) : W p l e zR_Mod_copy s m args below meth c H locs 0 0 (MQ below (zu_Qi D cA ad A res.1 res.2 Y) args s 0 0 A) (F0 m 121 ls []) := by
  obtain ⟨hx, hb, hml, hown, hts, hST⟩ := id B
  unfold fn_Mod_copy_B121 at hf
  refine lv_iload hx hb zd_Mod_copy_121 (lv_at hl 6 rfl) ?_
  refine lv_iload hx hb zd_Mod_copy_123 (lv_at hl 5 rfl) ?_
  refine lv_icmp_ge (tgt := 155) hx hb zd_Mod_copy_125 (by decide) (fun c33 => ?_) (fun c33 => ?_)
  · have hf := zu_t c33 hf
    refine lv_iconst (v := 0) hx hb zd_Mod_copy_155 (by decide) ?_
    refine lv_istore (lv' := [(6, .int (0 : Int32)), (0, .ref (ad 95)), (1, .int x1), (2, .int x2), (3, .int x3), (4, .int x4), (5, .int x5)]) hx hb zd_Mod_copy_156 hl (by decide) rfl (fun ls hl => ?_)
    exact zl_Mod_copy_L158 B hret hlk 400 x3 x4 x5 (0 : Int32) X _ _ _ hP hS (lv_sub hl [1, 4, 5, 6, 0] rfl) hf
  · have hf := zu_f c33 hf
    refine lv_aload_n hx hb zd_Mod_copy_128 rfl (lv_at hl 0 rfl) ?_
    refine zg_Mod_moved B hP rfl zq_883 zd_Mod_copy_129 ?_
    refine lv_iload hx hb zd_Mod_copy_132 (lv_at hl 6 rfl) ?_
    refine lv_aload_n hx hb zd_Mod_copy_134 rfl (lv_at hl 0 rfl) ?_
    refine zg_Mod_number B hP rfl zq_882 zd_Mod_copy_135 ?_
    refine lv_bipush (v := 40) hx hb zd_Mod_copy_138 (by decide) ?_
    refine lv_iload_n hx hb zd_Mod_copy_140 rfl (lv_at hl 1 rfl) ?_
    refine lv_imul hx hb zd_Mod_copy_141 ?_
    refine lv_iload_n hx hb zd_Mod_copy_142 rfl (lv_at hl 2 rfl) ?_
    refine lv_iadd hx hb zd_Mod_copy_143 ?_
    refine lv_iload hx hb zd_Mod_copy_144 (lv_at hl 6 rfl) ?_
    refine lv_iadd hx hb zd_Mod_copy_146 ?_
    obtain ⟨hg34, hf⟩ := zu_gd_e hf
    refine zr_iald rfl B hP rfl (by decide) rfl hg34 zd_Mod_copy_147 ?_
    obtain ⟨hg35, hf⟩ := zu_gd_e hf
    refine zr_iast rfl B hP hS hf rfl (by decide) rfl hg35 zd_Mod_copy_148 (fun X36 H locs hf hP hS => ?_)
    obtain ⟨v37, ev37, hf⟩ := zu_nx_e hf
    refine lv_iinc (v := v37) (lv' := [(6, .int v37), (0, .ref (ad 95)), (1, .int x1), (2, .int x2), (3, .int x3), (4, .int x4), (5, .int x5)]) hx hb zd_Mod_copy_149 hl (k := 6) rfl (by rw [ev37]; rfl) (by decide) rfl (fun ls hl => ?_)
    clear ev37
    refine lv_goto (tgt := 121) hx hb zd_Mod_copy_152 (by decide) ?_
    exact hk121 x1 x2 x3 x4 x5 v37 X36 _ _ _ hP hS (lv_sub hl [1, 2, 3, 4, 5, 6, 0] rfl) hf
theorem zl_Mod_copy_L121 {p : Program} {l : Launch} {e : Env} {s : State} {m : MethodId} {args : Array Value} {below : List Frame} {meth : Method} {c : Code} {D : va_G} {cA : Nat → ClassId} {ad : Nat → Nat} {A : Nat → Prop} (B : zu_B p s m args c zb_Mod_copy 7 "StonePostModel" D cA ad A) (hret : meth.sig.returnType = (some .int)) (hlk : meth.locks = false) {Y : LX} {res : Int32 × IX} : ∀ (n : Nat) (x1 : Int32) (x2 : Int32) (x3 : Int32) (x4 : Int32) (x5 : Int32) (x6 : Int32) (X : IX) (H : Heap) (locs : List Loc) (ls : Array Slot), va_P D zu_cl (zu_pic cA ad X Y) H → va_S A s.heap H locs → lv_has ls 7 [(0, .ref (ad 95)), (1, .int x1), (2, .int x2), (3, .int x3), (4, .int x4), (5, .int x5), (6, .int x6)] → fn_Mod_copy_L121 n x1 x2 x3 x4 x5 x6 X = some res → W p l e zR_Mod_copy s m args below meth c H locs 0 0 (MQ below (zu_Qi D cA ad A res.1 res.2 Y) args s 0 0 A) (F0 m 121 ls []) := by
  intro n
  induction n with
  | zero =>
    intro x1 x2 x3 x4 x5 x6 X H locs ls hP hS hl hf
    exact (Option.some_ne_none _ hf.symm).elim
  | succ n ih =>
    intro x1 x2 x3 x4 x5 x6 X H locs ls hP hS hl hf
    exact zl_Mod_copy_B121 B hret hlk ih x1 x2 x3 x4 x5 x6 X H locs ls hP hS hl  hf
set_option maxHeartbeats 4000000 in
theorem zl_Mod_copy_L111 {p : Program} {l : Launch} {e : Env} {s : State} {m : MethodId} {args : Array Value} {below : List Frame} {meth : Method} {c : Code} {D : va_G} {cA : Nat → ClassId} {ad : Nat → Nat} {A : Nat → Prop} (B : zu_B p s m args c zb_Mod_copy 7 "StonePostModel" D cA ad A) (hret : meth.sig.returnType = (some .int)) (hlk : meth.locks = false) {Y : LX} {res : Int32 × IX} (X : IX) (H : Heap) (locs : List Loc) (ls : Array Slot) (hP : va_P D zu_cl (zu_pic cA ad X Y) H) (hS : va_S A s.heap H locs) (hl : lv_has ls 7 [(0, .ref (ad 95))]) (hf : fn_Mod_copy_L111 X = some res) : W p l e zR_Mod_copy s m args below meth c H locs 0 0 (MQ below (zu_Qi D cA ad A res.1 res.2 Y) args s 0 0 A) (F0 m 111 ls []) := by
  obtain ⟨hx, hb, hml, hown, hts, hST⟩ := id B
  unfold fn_Mod_copy_L111 at hf
  refine lv_aload_n hx hb zd_Mod_copy_111 rfl (lv_at hl 0 rfl) ?_
  refine lv_ldc (v := -1000001) hx hb hown (hts _ zq_943) zd_Mod_copy_112 ?_
  obtain ⟨v30, X31, hq32, hf⟩ := zu_b2_e hf
  refine zw_Mod_finds (rest := []) B hP hS hq32 zq_944 (Nat.le_of_ble_eq_true rfl) (Nat.le_of_ble_eq_true rfl) hl.1 rfl (Nat.le_of_ble_eq_true rfl) zd_Mod_copy_114 (by decide) (fun H locs hP hS => ?_)
  clear hq32
  obtain rfl := Option.some.inj hf
  exact zr_iret hx hb hret hlk hP hS zd_Mod_copy_117
set_option maxHeartbeats 4000000 in
theorem zl_Mod_copy_L39 {p : Program} {l : Launch} {e : Env} {s : State} {m : MethodId} {args : Array Value} {below : List Frame} {meth : Method} {c : Code} {D : va_G} {cA : Nat → ClassId} {ad : Nat → Nat} {A : Nat → Prop} (B : zu_B p s m args c zb_Mod_copy 7 "StonePostModel" D cA ad A) (hret : meth.sig.returnType = (some .int)) (hlk : meth.locks = false) {Y : LX} {res : Int32 × IX} (X : IX) (H : Heap) (locs : List Loc) (ls : Array Slot) (hP : va_P D zu_cl (zu_pic cA ad X Y) H) (hS : va_S A s.heap H locs) (hl : lv_has ls 7 [(0, .ref (ad 95))]) (hf : fn_Mod_copy_L39 X = some res) : W p l e zR_Mod_copy s m args below meth c H locs 0 0 (MQ below (zu_Qi D cA ad A res.1 res.2 Y) args s 0 0 A) (F0 m 39 ls []) := by
  obtain ⟨hx, hb, hml, hown, hts, hST⟩ := id B
  unfold fn_Mod_copy_L39 at hf
  refine lv_aload_n hx hb zd_Mod_copy_39 rfl (lv_at hl 0 rfl) ?_
  refine lv_ldcw (v := -1000006) hx hb hown (hts _ zq_1334) zd_Mod_copy_40 ?_
  obtain ⟨v27, X28, hq29, hf⟩ := zu_b2_e hf
  refine zw_Mod_finds (rest := []) B hP hS hq29 zq_944 (Nat.le_of_ble_eq_true rfl) (Nat.le_of_ble_eq_true rfl) hl.1 rfl (Nat.le_of_ble_eq_true rfl) zd_Mod_copy_43 (by decide) (fun H locs hP hS => ?_)
  clear hq29
  obtain rfl := Option.some.inj hf
  exact zr_iret hx hb hret hlk hP hS zd_Mod_copy_46
set_option maxHeartbeats 4000000 in
theorem zl_Mod_copy_L14 {p : Program} {l : Launch} {e : Env} {s : State} {m : MethodId} {args : Array Value} {below : List Frame} {meth : Method} {c : Code} {D : va_G} {cA : Nat → ClassId} {ad : Nat → Nat} {A : Nat → Prop} (B : zu_B p s m args c zb_Mod_copy 7 "StonePostModel" D cA ad A) (hret : meth.sig.returnType = (some .int)) (hlk : meth.locks = false) {Y : LX} {res : Int32 × IX} (X : IX) (H : Heap) (locs : List Loc) (ls : Array Slot) (hP : va_P D zu_cl (zu_pic cA ad X Y) H) (hS : va_S A s.heap H locs) (hl : lv_has ls 7 [(0, .ref (ad 95))]) (hf : fn_Mod_copy_L14 X = some res) : W p l e zR_Mod_copy s m args below meth c H locs 0 0 (MQ below (zu_Qi D cA ad A res.1 res.2 Y) args s 0 0 A) (F0 m 14 ls []) := by
  obtain ⟨hx, hb, hml, hown, hts, hST⟩ := id B
  unfold fn_Mod_copy_L14 at hf
  refine lv_aload_n hx hb zd_Mod_copy_14 rfl (lv_at hl 0 rfl) ?_
  refine lv_ldc (v := -1000001) hx hb hown (hts _ zq_943) zd_Mod_copy_15 ?_
  obtain ⟨v24, X25, hq26, hf⟩ := zu_b2_e hf
  refine zw_Mod_finds (rest := []) B hP hS hq26 zq_944 (Nat.le_of_ble_eq_true rfl) (Nat.le_of_ble_eq_true rfl) hl.1 rfl (Nat.le_of_ble_eq_true rfl) zd_Mod_copy_17 (by decide) (fun H locs hP hS => ?_)
  clear hq26
  obtain rfl := Option.some.inj hf
  exact zr_iret hx hb hret hlk hP hS zd_Mod_copy_20
set_option maxHeartbeats 4000000 in
theorem zl_Mod_copy {p : Program} {l : Launch} {e : Env} {s : State} {m : MethodId} {args : Array Value} {below : List Frame} {meth : Method} {c : Code} {D : va_G} {cA : Nat → ClassId} {ad : Nat → Nat} {A : Nat → Prop} (B : zu_B p s m args c zb_Mod_copy 7 "StonePostModel" D cA ad A) (hret : meth.sig.returnType = (some .int)) (hlk : meth.locks = false) {Y : LX} {res : Int32 × IX} {a1 : Int32} {a2 : Int32} {a3 : Int32} {a4 : Int32} {a5 : Int32} {X : IX} (H : Heap) (locs : List Loc) (ls : Array Slot) (hP : va_P D zu_cl (zu_pic cA ad X Y) H) (hS : va_S A s.heap H locs) (hl : lv_has ls 7 [(0, .ref (ad 95)), (1, .int a1), (2, .int a2), (3, .int a3), (4, .int a4), (5, .int a5)]) (hf : fn_Mod_copy a1 a2 a3 a4 a5 X = some res) : W p l e zR_Mod_copy s m args below meth c H locs 0 0 (MQ below (zu_Qi D cA ad A res.1 res.2 Y) args s 0 0 A) (F0 m 0 ls []) := by
  obtain ⟨hx, hb, hml, hown, hts, hST⟩ := id B
  unfold fn_Mod_copy at hf
  refine lv_iload_n hx hb zd_Mod_copy_0 rfl (lv_at hl 1 rfl) ?_
  obtain ⟨v1, hq2, hf⟩ := zu_b1_e hf
  refine zw_Mod_isOne (rest := []) B hP hS hq2 zq_1340 (Nat.le_of_ble_eq_true rfl) (Nat.le_of_ble_eq_true rfl) hl.1 rfl (Nat.le_of_ble_eq_true rfl) zd_Mod_copy_1 (by decide) (fun H locs hP hS => ?_)
  clear hq2
  refine lv_if_eq (tgt := 14) hx hb zd_Mod_copy_4 (by decide) (fun c3 => ?_) (fun c3 => ?_)
  · have hf := zu_t c3 hf
    exact zl_Mod_copy_L14 B hret hlk X _ _ _ hP hS (lv_sub hl [0] rfl) hf
  · have hf := zu_f c3 hf
    refine lv_iload_n hx hb zd_Mod_copy_7 rfl (lv_at hl 3 rfl) ?_
    obtain ⟨v4, hq5, hf⟩ := zu_b1_e hf
    refine zw_Mod_isOne (rest := []) B hP hS hq5 zq_1340 (Nat.le_of_ble_eq_true rfl) (Nat.le_of_ble_eq_true rfl) hl.1 rfl (Nat.le_of_ble_eq_true rfl) zd_Mod_copy_8 (by decide) (fun H locs hP hS => ?_)
    clear hq5
    refine lv_if_ne (tgt := 21) hx hb zd_Mod_copy_11 (by decide) (fun c6 => ?_) (fun c6 => ?_)
    · have hf := zu_f c6 hf
      refine lv_aload_n hx hb zd_Mod_copy_21 rfl (lv_at hl 0 rfl) ?_
      refine zg_Mod_bitsOf B hP rfl zq_880 zd_Mod_copy_22 ?_
      refine lv_iload_n hx hb zd_Mod_copy_25 rfl (lv_at hl 1 rfl) ?_
      obtain ⟨hg7, hf⟩ := zu_gd_e hf
      refine zr_iald rfl B hP rfl (by decide) rfl hg7 zd_Mod_copy_26 ?_
      refine lv_if_eq (tgt := 39) hx hb zd_Mod_copy_27 (by decide) (fun c8 => ?_) (fun c8 => ?_)
      · have hf := zu_t c8 hf
        exact zl_Mod_copy_L39 B hret hlk X _ _ _ hP hS (lv_sub hl [0] rfl) hf
      · have hf := zu_f c8 hf
        refine lv_aload_n hx hb zd_Mod_copy_30 rfl (lv_at hl 0 rfl) ?_
        refine zg_Mod_bitsOf B hP rfl zq_880 zd_Mod_copy_31 ?_
        refine lv_iload_n hx hb zd_Mod_copy_34 rfl (lv_at hl 3 rfl) ?_
        obtain ⟨hg9, hf⟩ := zu_gd_e hf
        refine zr_iald rfl B hP rfl (by decide) rfl hg9 zd_Mod_copy_35 ?_
        refine lv_if_ne (tgt := 47) hx hb zd_Mod_copy_36 (by decide) (fun c10 => ?_) (fun c10 => ?_)
        · have hf := zu_f c10 hf
          refine lv_aload_n hx hb zd_Mod_copy_47 rfl (lv_at hl 0 rfl) ?_
          refine zg_Mod_bitsOf B hP rfl zq_880 zd_Mod_copy_48 ?_
          refine lv_iload_n hx hb zd_Mod_copy_51 rfl (lv_at hl 1 rfl) ?_
          obtain ⟨hg11, hf⟩ := zu_gd_e hf
          refine zr_iald rfl B hP rfl (by decide) rfl hg11 zd_Mod_copy_52 ?_
          refine lv_aload_n hx hb zd_Mod_copy_53 rfl (lv_at hl 0 rfl) ?_
          refine zg_Mod_bitsOf B hP rfl zq_880 zd_Mod_copy_54 ?_
          refine lv_iload_n hx hb zd_Mod_copy_57 rfl (lv_at hl 3 rfl) ?_
          obtain ⟨hg12, hf⟩ := zu_gd_e hf
          refine zr_iald rfl B hP rfl (by decide) rfl hg12 zd_Mod_copy_58 ?_
          refine lv_icmp_eq (tgt := 70) hx hb zd_Mod_copy_59 (by decide) (fun c13 => ?_) (fun c13 => ?_)
          · have hf := zu_t c13 hf
            refine lv_iload_n hx hb zd_Mod_copy_70 rfl (lv_at hl 2 rfl) ?_
            refine lv_if_lt (tgt := 111) hx hb zd_Mod_copy_71 (by decide) (fun c14 => ?_) (fun c14 => ?_)
            · have hf := zu_t c14 hf
              exact zl_Mod_copy_L111 B hret hlk X _ _ _ hP hS (lv_sub hl [0] rfl) hf
            · have hf := zu_f c14 hf
              refine lv_iload hx hb zd_Mod_copy_74 (lv_at hl 4 rfl) ?_
              refine lv_if_lt (tgt := 111) hx hb zd_Mod_copy_76 (by decide) (fun c15 => ?_) (fun c15 => ?_)
              · have hf := zu_t c15 hf
                exact zl_Mod_copy_L111 B hret hlk X _ _ _ hP hS (lv_sub hl [0] rfl) hf
              · have hf := zu_f c15 hf
                refine lv_iload hx hb zd_Mod_copy_79 (lv_at hl 5 rfl) ?_
                refine lv_if_lt (tgt := 111) hx hb zd_Mod_copy_81 (by decide) (fun c16 => ?_) (fun c16 => ?_)
                · have hf := zu_t c16 hf
                  exact zl_Mod_copy_L111 B hret hlk X _ _ _ hP hS (lv_sub hl [0] rfl) hf
                · have hf := zu_f c16 hf
                  refine lv_iload hx hb zd_Mod_copy_84 (lv_at hl 5 rfl) ?_
                  refine lv_aload_n hx hb zd_Mod_copy_86 rfl (lv_at hl 0 rfl) ?_
                  refine zg_Mod_sizeOf B hP rfl zq_881 zd_Mod_copy_87 ?_
                  refine lv_iload_n hx hb zd_Mod_copy_90 rfl (lv_at hl 1 rfl) ?_
                  obtain ⟨hg17, hf⟩ := zu_gd_e hf
                  refine zr_iald rfl B hP rfl (by decide) rfl hg17 zd_Mod_copy_91 ?_
                  refine lv_iload_n hx hb zd_Mod_copy_92 rfl (lv_at hl 2 rfl) ?_
                  refine lv_isub hx hb zd_Mod_copy_93 ?_
                  refine lv_icmp_gt (tgt := 111) hx hb zd_Mod_copy_94 (by decide) (fun c18 => ?_) (fun c18 => ?_)
                  · have hf := zu_t c18 hf
                    exact zl_Mod_copy_L111 B hret hlk X _ _ _ hP hS (lv_sub hl [0] rfl) hf
                  · have hf := zu_f c18 hf
                    refine lv_iload hx hb zd_Mod_copy_97 (lv_at hl 5 rfl) ?_
                    refine lv_aload_n hx hb zd_Mod_copy_99 rfl (lv_at hl 0 rfl) ?_
                    refine zg_Mod_sizeOf B hP rfl zq_881 zd_Mod_copy_100 ?_
                    refine lv_iload_n hx hb zd_Mod_copy_103 rfl (lv_at hl 3 rfl) ?_
                    obtain ⟨hg19, hf⟩ := zu_gd_e hf
                    refine zr_iald rfl B hP rfl (by decide) rfl hg19 zd_Mod_copy_104 ?_
                    refine lv_iload hx hb zd_Mod_copy_105 (lv_at hl 4 rfl) ?_
                    refine lv_isub hx hb zd_Mod_copy_107 ?_
                    refine lv_icmp_le (tgt := 118) hx hb zd_Mod_copy_108 (by decide) (fun c20 => ?_) (fun c20 => ?_)
                    · have hf := zu_t c20 hf
                      refine lv_iconst (v := 0) hx hb zd_Mod_copy_118 (by decide) ?_
                      refine lv_istore (lv' := [(6, .int (0 : Int32)), (0, .ref (ad 95)), (1, .int a1), (2, .int a2), (3, .int a3), (4, .int a4), (5, .int a5)]) hx hb zd_Mod_copy_119 hl (by decide) rfl (fun ls hl => ?_)
                      exact zl_Mod_copy_L121 B hret hlk 400 a1 a2 a3 a4 a5 (0 : Int32) X _ _ _ hP hS (lv_sub hl [1, 2, 3, 4, 5, 6, 0] rfl) hf
                    · have hf := zu_f c20 hf
                      exact zl_Mod_copy_L111 B hret hlk X _ _ _ hP hS (lv_sub hl [0] rfl) hf
          · have hf := zu_f c13 hf
            refine lv_aload_n hx hb zd_Mod_copy_62 rfl (lv_at hl 0 rfl) ?_
            refine lv_ldcw (v := -1000003) hx hb hown (hts _ zq_1335) zd_Mod_copy_63 ?_
            obtain ⟨v21, X22, hq23, hf⟩ := zu_b2_e hf
            refine zw_Mod_finds (rest := []) B hP hS hq23 zq_944 (Nat.le_of_ble_eq_true rfl) (Nat.le_of_ble_eq_true rfl) hl.1 rfl (Nat.le_of_ble_eq_true rfl) zd_Mod_copy_66 (by decide) (fun H locs hP hS => ?_)
            clear hq23
            obtain rfl := Option.some.inj hf
            exact zr_iret hx hb hret hlk hP hS zd_Mod_copy_69
        · have hf := zu_t c10 hf
          exact zl_Mod_copy_L39 B hret hlk X _ _ _ hP hS (lv_sub hl [0] rfl) hf
    · have hf := zu_t c6 hf
      exact zl_Mod_copy_L14 B hret hlk X _ _ _ hP hS (lv_sub hl [0] rfl) hf
theorem zC_Mod_copy (l : Launch) {D : va_G} {cA : Nat → ClassId} {ad : Nat → Nat} {A : Nat → Prop} {a1 : Int32} {a2 : Int32} {a3 : Int32} {a4 : Int32} {a5 : Int32} {X : IX} {Y : LX} {res : Int32 × IX} (hf : fn_Mod_copy a1 a2 a3 a4 a5 X = some res) : Met l zm_Mod_copy (zu_ws zm_Mod_copy zb_Mod_copy 7 (some .int)) zR_Mod_copy (va_Pc [.ref (ad 95), .int a1, .int a2, .int a3, .int a4, .int a5] (zu_Pre D cA ad A X Y)) (zu_Qi D cA ad A res.1 res.2 Y) 0 0 A := by
  refine Met.ofW (cc := zb_Mod_copy) (maxL := 7) (ret := (some .int)) (by decide +kernel) rfl ?_
  intro p e s m args below meth c s₁ B0 hml hv
  obtain ⟨rfl, hP, hST⟩ := hv
  have B : zu_B p s m _ c zb_Mod_copy 7 "StonePostModel" D cA ad A := ⟨B0.exec, B0.bytes, hml, findClass_of_methodNamed B0.named, (fun w hw => atoms_spec (ws := zu_ws zm_Mod_copy zb_Mod_copy 7 (some .int)) B0.pre w (List.mem_cons_of_mem _ hw)), hST⟩
  have hl := lv_entry ([.ref (ad 95), .int a1, .int a2, .int a3, .int a4, .int a5]) (n := 7) (Nat.le_of_ble_eq_true rfl)
  rw [lg_entry_eq]
  generalize (lg_sl ([.ref (ad 95), .int a1, .int a2, .int a3, .int a4, .int a5]) ++ List.replicate (7 - (lg_sl ([.ref (ad 95), .int a1, .int a2, .int a3, .int a4, .int a5])).length) Slot.unset).toArray = ls at hl ⊢
  exact zl_Mod_copy B B0.returns B0.notSynchronized s.heap [] ls hP va_S.rf hl  hf
theorem zw_Mod_copy {p : Program} {l : Launch} {e : Env} {R : Room} {s : State} {m : MethodId} {args : Array Value} {below : List Frame} {meth : Method} {c : Code} {H : Heap} {locs : List Loc} {cells slots : Nat} {Q : State → Prop} {cc : ByteArray} {pc nL : Nat} {ls : Array Slot} {rest st0 : List Value} {D : va_G} {cA : Nat → ClassId} {ad : Nat → Nat} {A : Nat → Prop} {X : IX} {Y : LX} {own : String} {index : Nat} {a1 : Int32} {a2 : Int32} {a3 : Int32} {a4 : Int32} {a5 : Int32} {v1 : Int32} {X1 : IX} (B : zu_B p s m args c cc nL own D cA ad A) (hP : va_P D zu_cl (zu_pic cA ad X Y) H) (hS : va_S A s.heap H locs) (hq : fn_Mod_copy a1 a2 a3 a4 a5 X = some (v1, X1)) (m1 : Cond.methodLink own index zm_Mod_copy ∈ zu_TB) (hR1 : 2 + 1 ≤ R.frames) (hR2 : 8 + (7 + 11) + 45 ≤ R.locals) (hsz : ls.size = nL) (hst : st0 = .int a5 :: .int a4 :: .int a3 :: .int a2 :: .int a1 :: .ref (ad 95) :: rest) (hw : (rest.map fun v => v.category).sum ≤ 8) (hdg : decode cc pc = .ok (.invokevirtual index, 3)) (h00 : cells ≤ R.cells ∧ slots ≤ R.slots) (kk : ∀ (H1 : Heap) (locs1 : List Loc), va_P D zu_cl (zu_pic cA ad X1 Y) H1 → va_S A s.heap H1 locs1 → W p l e R s m args below meth c H1 locs1 cells slots Q (F0 m (pc + 3) ls (.int v1 :: rest))) : W p l e R s m args below meth c H locs cells slots Q (F0 m pc ls st0) := by
  subst hst
  exact zr_cVi (As := [.int a1, .int a2, .int a3, .int a4, .int a5]) (rest := rest) (n := 5) (C := "StonePostModel") (T := zt_Mod) (N := 23) B hP hS (zC_Mod_copy l  hq) (K := 7) rfl (by decide) (by decide) rfl rfl m1 zq_1355 zq_1356 zq_8 zq_1357 (by decide +kernel) ⟨hR1, hR2⟩ rfl rfl rfl hsz rfl hw hdg h00 kk
