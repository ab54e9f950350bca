abbrev zR_Post_odds : Room := { frames := 6, cells := 0, slots := 0, locals := 138 }
theorem zd_Post_odds_0 : decode zb_Post_odds 0 = .ok (.iload_n 1, 1) := by decide +kernel
theorem zd_Post_odds_1 : decode zb_Post_odds 1 = .ok (.invokestatic 47, 3) := by decide +kernel
theorem zd_Post_odds_4 : decode zb_Post_odds 4 = .ok (.ifCond .eq 20, 3) := by decide +kernel
theorem zd_Post_odds_7 : decode zb_Post_odds 7 = .ok (.iload_n 2, 1) := by decide +kernel
theorem zd_Post_odds_8 : decode zb_Post_odds 8 = .ok (.iconst 0, 1) := by decide +kernel
theorem zd_Post_odds_9 : decode zb_Post_odds 9 = .ok (.bipush 15, 2) := by decide +kernel
theorem zd_Post_odds_11 : decode zb_Post_odds 11 = .ok (.invokestatic 51, 3) := by decide +kernel
theorem zd_Post_odds_14 : decode zb_Post_odds 14 = .ok (.ifCond .eq 10, 3) := by decide +kernel
theorem zd_Post_odds_17 : decode zb_Post_odds 17 = .ok (.iload_n 3, 1) := by decide +kernel
theorem zd_Post_odds_18 : decode zb_Post_odds 18 = .ok (.invokestatic 47, 3) := by decide +kernel
theorem zd_Post_odds_21 : decode zb_Post_odds 21 = .ok (.ifCond .ne 11, 3) := by decide +kernel
theorem zd_Post_odds_24 : decode zb_Post_odds 24 = .ok (.aload_n 0, 1) := by decide +kernel
theorem zd_Post_odds_25 : decode zb_Post_odds 25 = .ok (.ldc 55, 2) := by decide +kernel
theorem zd_Post_odds_27 : decode zb_Post_odds 27 = .ok (.invokevirtual 56, 3) := by decide +kernel
theorem zd_Post_odds_30 : decode zb_Post_odds 30 = .ok (.i2l, 1) := by decide +kernel
theorem zd_Post_odds_31 : decode zb_Post_odds 31 = .ok (.lreturn, 1) := by decide +kernel
theorem zd_Post_odds_32 : decode zb_Post_odds 32 = .ok (.aload_n 0, 1) := by decide +kernel
theorem zd_Post_odds_33 : decode zb_Post_odds 33 = .ok (.getfield 25, 3) := by decide +kernel
theorem zd_Post_odds_36 : decode zb_Post_odds 36 = .ok (.aload_n 0, 1) := by decide +kernel
theorem zd_Post_odds_37 : decode zb_Post_odds 37 = .ok (.getfield 10, 3) := by decide +kernel
theorem zd_Post_odds_40 : decode zb_Post_odds 40 = .ok (.invokevirtual 136, 3) := by decide +kernel
theorem zd_Post_odds_43 : decode zb_Post_odds 43 = .ok (.aload_n 0, 1) := by decide +kernel
theorem zd_Post_odds_44 : decode zb_Post_odds 44 = .ok (.getfield 25, 3) := by decide +kernel
theorem zd_Post_odds_47 : decode zb_Post_odds 47 = .ok (.iload_n 1, 1) := by decide +kernel
theorem zd_Post_odds_48 : decode zb_Post_odds 48 = .ok (.iload_n 2, 1) := by decide +kernel
theorem zd_Post_odds_49 : decode zb_Post_odds 49 = .ok (.aload_n 0, 1) := by decide +kernel
theorem zd_Post_odds_50 : decode zb_Post_odds 50 = .ok (.getfield 25, 3) := by decide +kernel
theorem zd_Post_odds_53 : decode zb_Post_odds 53 = .ok (.getfield 146, 3) := by decide +kernel
theorem zd_Post_odds_56 : decode zb_Post_odds 56 = .ok (.invokevirtual 149, 3) := by decide +kernel
theorem zd_Post_odds_59 : decode zb_Post_odds 59 = .ok (.aload_n 0, 1) := by decide +kernel
theorem zd_Post_odds_60 : decode zb_Post_odds 60 = .ok (.getfield 25, 3) := by decide +kernel
theorem zd_Post_odds_63 : decode zb_Post_odds 63 = .ok (.getfield 153, 3) := by decide +kernel
theorem zd_Post_odds_66 : decode zb_Post_odds 66 = .ok (.iload_n 3, 1) := by decide +kernel
theorem zd_Post_odds_67 : decode zb_Post_odds 67 = .ok (.laload, 1) := by decide +kernel
theorem zd_Post_odds_68 : decode zb_Post_odds 68 = .ok (.lreturn, 1) := by decide +kernel
set_option maxHeartbeats 4000000 in
theorem zl_Post_odds_L24 {p : Program} {l : Launch} {e : Env} {s : State} {m : MethodId} {args : Array Value} {below : List Frame} {meth : Method} {c : Code} {D : va_G} {cA : Nat → ClassId} {ad : Nat → Nat} {A : Nat → Prop} (B : zu_B p s m args c zb_Post_odds 4 "StonePost" D cA ad A) (hret : meth.sig.returnType = (some .long)) (hlk : meth.locks = false) {res : Int64 × IX × LX} (X : IX) (Y : LX) (H : Heap) (locs : List Loc) (ls : Array Slot) (hP : va_P D zu_cl (zu_pic cA ad X Y) H) (hS : va_S A s.heap H locs) (hl : lv_has ls 4 [(0, .ref (ad 0))]) (hf : fn_Post_odds_L24 X Y = some res) : W p l e zR_Post_odds s m args below meth c H locs 0 0 (MQ below (zu_Ql D cA ad A res.1 res.2.1 res.2.2) args s 0 0 A) (F0 m 24 ls []) := by
  obtain ⟨hx, hb, hml, hown, hts, hST⟩ := id B
  unfold fn_Post_odds_L24 at hf
  refine lv_aload_n hx hb zd_Post_odds_24 rfl (lv_at hl 0 rfl) ?_
  refine lv_ldc (v := -1000001) hx hb hown (hts _ zq_226) zd_Post_odds_25 ?_
  obtain ⟨v15, X16, hq17, hf⟩ := zu_b2_e hf
  refine zw_Post_finding (rest := []) B hP hS hq17 zq_227 (Nat.le_of_ble_eq_true rfl) (Nat.le_of_ble_eq_true rfl) hl.1 rfl (Nat.le_of_ble_eq_true rfl) zd_Post_odds_27 (by decide) (fun H locs hP hS => ?_)
  clear hq17
  refine lv_i2l hx hb zd_Post_odds_30 rfl ?_
  obtain rfl := Option.some.inj hf
  exact zr_lret hx hb hret hlk hP hS zd_Post_odds_31
set_option maxHeartbeats 4000000 in
theorem zl_Post_odds {p : Program} {l : Launch} {e : Env} {s : State} {m : MethodId} {args : Array Value} {below : List Frame} {meth : Method} {c : Code} {D : va_G} {cA : Nat → ClassId} {ad : Nat → Nat} {A : Nat → Prop} (B : zu_B p s m args c zb_Post_odds 4 "StonePost" D cA ad A) (hret : meth.sig.returnType = (some .long)) (hlk : meth.locks = false) {res : Int64 × IX × LX} {a1 : Int32} {a2 : Int32} {a3 : Int32} {X : IX} {Y : LX} (H : Heap) (locs : List Loc) (ls : Array Slot) (hP : va_P D zu_cl (zu_pic cA ad X Y) H) (hS : va_S A s.heap H locs) (hl : lv_has ls 4 [(0, .ref (ad 0)), (1, .int a1), (2, .int a2), (3, .int a3)]) (hf : fn_Post_odds a1 a2 a3 X Y = some res) : W p l e zR_Post_odds s m args below meth c H locs 0 0 (MQ below (zu_Ql D cA ad A res.1 res.2.1 res.2.2) args s 0 0 A) (F0 m 0 ls []) := by
  obtain ⟨hx, hb, hml, hown, hts, hST⟩ := id B
  unfold fn_Post_odds at hf
  refine lv_iload_n hx hb zd_Post_odds_0 rfl (lv_at hl 1 rfl) ?_
  obtain ⟨v1, hq2, hf⟩ := zu_b1_e hf
  refine zw_Post_isCell (rest := []) B hP hS hq2 zq_220 (Nat.le_of_ble_eq_true rfl) (Nat.le_of_ble_eq_true rfl) hl.1 rfl (Nat.le_of_ble_eq_true rfl) zd_Post_odds_1 (by decide) (fun H locs hP hS => ?_)
  clear hq2
  refine lv_if_eq (tgt := 24) hx hb zd_Post_odds_4 (by decide) (fun c3 => ?_) (fun c3 => ?_)
  · have hf := zu_t c3 hf
    exact zl_Post_odds_L24 B hret hlk X Y _ _ _ hP hS (lv_sub hl [0] rfl) hf
  · have hf := zu_f c3 hf
    refine lv_iload_n hx hb zd_Post_odds_7 rfl (lv_at hl 2 rfl) ?_
    refine lv_iconst (v := 0) hx hb zd_Post_odds_8 (by decide) ?_
    refine lv_bipush (v := 15) hx hb zd_Post_odds_9 (by decide) ?_
    obtain ⟨v4, hq5, hf⟩ := zu_b1_e hf
    refine zw_Post_isWithin (rest := []) B hP hS hq5 zq_223 (Nat.le_of_ble_eq_true rfl) (Nat.le_of_ble_eq_true rfl) hl.1 rfl (Nat.le_of_ble_eq_true rfl) zd_Post_odds_11 (by decide) (fun H locs hP hS => ?_)
    clear hq5
    refine lv_if_eq (tgt := 24) hx hb zd_Post_odds_14 (by decide) (fun c6 => ?_) (fun c6 => ?_)
    · have hf := zu_t c6 hf
      exact zl_Post_odds_L24 B hret hlk X Y _ _ _ hP hS (lv_sub hl [0] rfl) hf
    · have hf := zu_f c6 hf
      refine lv_iload_n hx hb zd_Post_odds_17 rfl (lv_at hl 3 rfl) ?_
      obtain ⟨v7, hq8, hf⟩ := zu_b1_e hf
      refine zw_Post_isCell (rest := []) B hP hS hq8 zq_220 (Nat.le_of_ble_eq_true rfl) (Nat.le_of_ble_eq_true rfl) hl.1 rfl (Nat.le_of_ble_eq_true rfl) zd_Post_odds_18 (by decide) (fun H locs hP hS => ?_)
      clear hq8
      refine lv_if_ne (tgt := 32) hx hb zd_Post_odds_21 (by decide) (fun c9 => ?_) (fun c9 => ?_)
      · have hf := zu_f c9 hf
        refine lv_aload_n hx hb zd_Post_odds_32 rfl (lv_at hl 0 rfl) ?_
        refine zg_Post_chart B hP rfl zq_194 zd_Post_odds_33 ?_
        refine lv_aload_n hx hb zd_Post_odds_36 rfl (lv_at hl 0 rfl) ?_
        refine zg_Post_land B hP rfl zq_191 zd_Post_odds_37 ?_
        obtain ⟨X10, hq11, hf⟩ := zu_b1_e hf
        refine zw_Chart_lay (rest := []) B hP hS rfl hq11 zq_382 (Nat.le_of_ble_eq_true rfl) (Nat.le_of_ble_eq_true rfl) hl.1 rfl (Nat.le_of_ble_eq_true rfl) zd_Post_odds_40 (by decide) (fun H locs hP hS => ?_)
        clear hq11
        refine lv_aload_n hx hb zd_Post_odds_43 rfl (lv_at hl 0 rfl) ?_
        refine zg_Post_chart B hP rfl zq_194 zd_Post_odds_44 ?_
        refine lv_iload_n hx hb zd_Post_odds_47 rfl (lv_at hl 1 rfl) ?_
        refine lv_iload_n hx hb zd_Post_odds_48 rfl (lv_at hl 2 rfl) ?_
        refine lv_aload_n hx hb zd_Post_odds_49 rfl (lv_at hl 0 rfl) ?_
        refine zg_Post_chart B hP rfl zq_194 zd_Post_odds_50 ?_
        refine zg_Chart_choices B hP rfl zq_118 zd_Post_odds_53 ?_
        obtain ⟨Y12, hq13, hf⟩ := zu_b1_e hf
        refine zw_Chart_spread (rest := []) B hP hS hq13 zq_450 (Nat.le_of_ble_eq_true rfl) (Nat.le_of_ble_eq_true rfl) hl.1 rfl (Nat.le_of_ble_eq_true rfl) zd_Post_odds_56 (by decide) (fun H locs hP hS => ?_)
        clear hq13
        refine lv_aload_n hx hb zd_Post_odds_59 rfl (lv_at hl 0 rfl) ?_
        refine zg_Post_chart B hP rfl zq_194 zd_Post_odds_60 ?_
        refine zg_Chart_parts B hP rfl zq_115 zd_Post_odds_63 ?_
        refine lv_iload_n hx hb zd_Post_odds_66 rfl (lv_at hl 3 rfl) ?_
        obtain ⟨hg14, hf⟩ := zu_gd_e hf
        refine zr_lald rfl B hP rfl (by decide) rfl hg14 zd_Post_odds_67 ?_
        obtain rfl := Option.some.inj hf
        exact zr_lret hx hb hret hlk hP hS zd_Post_odds_68
      · have hf := zu_t c9 hf
        exact zl_Post_odds_L24 B hret hlk X Y _ _ _ hP hS (lv_sub hl [0] rfl) hf
theorem zC_Post_odds (l : Launch) {D : va_G} {cA : Nat → ClassId} {ad : Nat → Nat} {A : Nat → Prop} {a1 : Int32} {a2 : Int32} {a3 : Int32} {X : IX} {Y : LX} {res : Int64 × IX × LX} (hf : fn_Post_odds a1 a2 a3 X Y = some res) : Met l zm_Post_odds (zu_ws zm_Post_odds zb_Post_odds 4 (some .long)) zR_Post_odds (va_Pc [.ref (ad 0), .int a1, .int a2, .int a3] (zu_Pre D cA ad A X Y)) (zu_Ql D cA ad A res.1 res.2.1 res.2.2) 0 0 A := by
  refine Met.ofW (cc := zb_Post_odds) (maxL := 4) (ret := (some .long)) (by decide +kernel) rfl ?_
  intro p e s m args below meth c s₁ B0 hml hv
  obtain ⟨rfl, hP, hST⟩ := hv
  have B : zu_B p s m _ c zb_Post_odds 4 "StonePost" D cA ad A := ⟨B0.exec, B0.bytes, hml, findClass_of_methodNamed B0.named, (fun w hw => atoms_spec (ws := zu_ws zm_Post_odds zb_Post_odds 4 (some .long)) B0.pre w (List.mem_cons_of_mem _ hw)), hST⟩
  have hl := lv_entry ([.ref (ad 0), .int a1, .int a2, .int a3]) (n := 4) (Nat.le_of_ble_eq_true rfl)
  rw [lg_entry_eq]
  generalize (lg_sl ([.ref (ad 0), .int a1, .int a2, .int a3]) ++ List.replicate (4 - (lg_sl ([.ref (ad 0), .int a1, .int a2, .int a3])).length) Slot.unset).toArray = ls at hl ⊢
  exact zl_Post_odds B B0.returns B0.notSynchronized s.heap [] ls hP va_S.rf hl  hf
theorem zw_Post_odds {p : Program} {l : Launch} {e : Env} {R : Room} {s : State} {m : MethodId} {args : Array Value} {below : List Frame} {meth : Method} {c : Code} {H : Heap} {locs : List Loc} {cells slots : Nat} {Q : State → Prop} {cc : ByteArray} {pc nL : Nat} {ls : Array Slot} {rest st0 : List Value} {D : va_G} {cA : Nat → ClassId} {ad : Nat → Nat} {A : Nat → Prop} {X : IX} {Y : LX} {own : String} {index : Nat} {a1 : Int32} {a2 : Int32} {a3 : Int32} {v1 : Int64} {X1 : IX} {Y1 : LX} (B : zu_B p s m args c cc nL own D cA ad A) (hP : va_P D zu_cl (zu_pic cA ad X Y) H) (hS : va_S A s.heap H locs) (hq : fn_Post_odds a1 a2 a3 X Y = some (v1, X1, Y1)) (m1 : Cond.methodLink own index zm_Post_odds ∈ zu_TB) (hR1 : 6 + 1 ≤ R.frames) (hR2 : 8 + (4 + 11) + 138 ≤ R.locals) (hsz : ls.size = nL) (hst : st0 = .int a3 :: .int a2 :: .int a1 :: .ref (ad 0) :: rest) (hw : (rest.map fun v => v.category).sum ≤ 8) (hdg : decode cc pc = .ok (.invokevirtual index, 3)) (h00 : cells ≤ R.cells ∧ slots ≤ R.slots) (kk : ∀ (H1 : Heap) (locs1 : List Loc), va_P D zu_cl (zu_pic cA ad X1 Y1) H1 → va_S A s.heap H1 locs1 → W p l e R s m args below meth c H1 locs1 cells slots Q (F0 m (pc + 3) ls (.long v1 :: rest))) : W p l e R s m args below meth c H locs cells slots Q (F0 m pc ls st0) := by
  subst hst
  exact zr_cVl (As := [.int a1, .int a2, .int a3]) (rest := rest) (n := 3) (C := "StonePost") (T := zt_Post) (N := 8) B hP hS (zC_Post_odds l  hq) (K := 1) rfl (by decide) (by decide) rfl rfl m1 zq_447 zq_448 zq_1 zq_449 (by decide +kernel) ⟨hR1, hR2⟩ rfl rfl rfl hsz rfl hw hdg h00 kk
abbrev zR_Post_lost : Room := { frames := 6, cells := 0, slots := 0, locals := 138 }
theorem zd_Post_lost_0 : decode zb_Post_lost 0 = .ok (.iload_n 1, 1) := by decide +kernel
theorem zd_Post_lost_1 : decode zb_Post_lost 1 = .ok (.invokestatic 47, 3) := by decide +kernel
theorem zd_Post_lost_4 : decode zb_Post_lost 4 = .ok (.ifCond .eq 13, 3) := by decide +kernel
theorem zd_Post_lost_7 : decode zb_Post_lost 7 = .ok (.iload_n 2, 1) := by decide +kernel
theorem zd_Post_lost_8 : decode zb_Post_lost 8 = .ok (.iconst 0, 1) := by decide +kernel
theorem zd_Post_lost_9 : decode zb_Post_lost 9 = .ok (.bipush 15, 2) := by decide +kernel
theorem zd_Post_lost_11 : decode zb_Post_lost 11 = .ok (.invokestatic 51, 3) := by decide +kernel
theorem zd_Post_lost_14 : decode zb_Post_lost 14 = .ok (.ifCond .ne 11, 3) := by decide +kernel
theorem zd_Post_lost_17 : decode zb_Post_lost 17 = .ok (.aload_n 0, 1) := by decide +kernel
theorem zd_Post_lost_18 : decode zb_Post_lost 18 = .ok (.ldc 55, 2) := by decide +kernel
theorem zd_Post_lost_20 : decode zb_Post_lost 20 = .ok (.invokevirtual 56, 3) := by decide +kernel
theorem zd_Post_lost_23 : decode zb_Post_lost 23 = .ok (.i2l, 1) := by decide +kernel
theorem zd_Post_lost_24 : decode zb_Post_lost 24 = .ok (.lreturn, 1) := by decide +kernel
theorem zd_Post_lost_25 : decode zb_Post_lost 25 = .ok (.aload_n 0, 1) := by decide +kernel
theorem zd_Post_lost_26 : decode zb_Post_lost 26 = .ok (.getfield 25, 3) := by decide +kernel
theorem zd_Post_lost_29 : decode zb_Post_lost 29 = .ok (.aload_n 0, 1) := by decide +kernel
theorem zd_Post_lost_30 : decode zb_Post_lost 30 = .ok (.getfield 10, 3) := by decide +kernel
theorem zd_Post_lost_33 : decode zb_Post_lost 33 = .ok (.invokevirtual 136, 3) := by decide +kernel
theorem zd_Post_lost_36 : decode zb_Post_lost 36 = .ok (.aload_n 0, 1) := by decide +kernel
theorem zd_Post_lost_37 : decode zb_Post_lost 37 = .ok (.getfield 25, 3) := by decide +kernel
theorem zd_Post_lost_40 : decode zb_Post_lost 40 = .ok (.iload_n 1, 1) := by decide +kernel
theorem zd_Post_lost_41 : decode zb_Post_lost 41 = .ok (.iload_n 2, 1) := by decide +kernel
theorem zd_Post_lost_42 : decode zb_Post_lost 42 = .ok (.aload_n 0, 1) := by decide +kernel
theorem zd_Post_lost_43 : decode zb_Post_lost 43 = .ok (.getfield 25, 3) := by decide +kernel
theorem zd_Post_lost_46 : decode zb_Post_lost 46 = .ok (.getfield 146, 3) := by decide +kernel
theorem zd_Post_lost_49 : decode zb_Post_lost 49 = .ok (.invokevirtual 149, 3) := by decide +kernel
theorem zd_Post_lost_52 : decode zb_Post_lost 52 = .ok (.lconst 0, 1) := by decide +kernel
theorem zd_Post_lost_53 : decode zb_Post_lost 53 = .ok (.lstore_n 3, 1) := by decide +kernel
theorem zd_Post_lost_54 : decode zb_Post_lost 54 = .ok (.iconst 0, 1) := by decide +kernel
theorem zd_Post_lost_55 : decode zb_Post_lost 55 = .ok (.istore 5, 2) := by decide +kernel
theorem zd_Post_lost_57 : decode zb_Post_lost 57 = .ok (.iload 5, 2) := by decide +kernel
theorem zd_Post_lost_59 : decode zb_Post_lost 59 = .ok (.bipush 24, 2) := by decide +kernel
theorem zd_Post_lost_61 : decode zb_Post_lost 61 = .ok (.if_icmp .ge 35, 3) := by decide +kernel
theorem zd_Post_lost_64 : decode zb_Post_lost 64 = .ok (.aload_n 0, 1) := by decide +kernel
theorem zd_Post_lost_65 : decode zb_Post_lost 65 = .ok (.getfield 10, 3) := by decide +kernel
theorem zd_Post_lost_68 : decode zb_Post_lost 68 = .ok (.iload 5, 2) := by decide +kernel
theorem zd_Post_lost_70 : decode zb_Post_lost 70 = .ok (.invokevirtual 143, 3) := by decide +kernel
theorem zd_Post_lost_73 : decode zb_Post_lost 73 = .ok (.iconst 1, 1) := by decide +kernel
theorem zd_Post_lost_74 : decode zb_Post_lost 74 = .ok (.if_icmp .ne 16, 3) := by decide +kernel
theorem zd_Post_lost_77 : decode zb_Post_lost 77 = .ok (.lload_n 3, 1) := by decide +kernel
theorem zd_Post_lost_78 : decode zb_Post_lost 78 = .ok (.aload_n 0, 1) := by decide +kernel
theorem zd_Post_lost_79 : decode zb_Post_lost 79 = .ok (.getfield 25, 3) := by decide +kernel
theorem zd_Post_lost_82 : decode zb_Post_lost 82 = .ok (.getfield 153, 3) := by decide +kernel
theorem zd_Post_lost_85 : decode zb_Post_lost 85 = .ok (.iload 5, 2) := by decide +kernel
theorem zd_Post_lost_87 : decode zb_Post_lost 87 = .ok (.laload, 1) := by decide +kernel
theorem zd_Post_lost_88 : decode zb_Post_lost 88 = .ok (.ladd, 1) := by decide +kernel
theorem zd_Post_lost_89 : decode zb_Post_lost 89 = .ok (.lstore_n 3, 1) := by decide +kernel
theorem zd_Post_lost_90 : decode zb_Post_lost 90 = .ok (.iinc 5 1, 3) := by decide +kernel
theorem zd_Post_lost_93 : decode zb_Post_lost 93 = .ok (.goto (-36), 3) := by decide +kernel
theorem zd_Post_lost_96 : decode zb_Post_lost 96 = .ok (.lload_n 3, 1) := by decide +kernel
theorem zd_Post_lost_97 : decode zb_Post_lost 97 = .ok (.lreturn, 1) := by decide +kernel
set_option maxHeartbeats 4000000 in
theorem zl_Post_lost_L90 {p : Program} {l : Launch} {e : Env} {s : State} {m : MethodId} {args : Array Value} {below : List Frame} {meth : Method} {c : Code} {D : va_G} {cA : Nat → ClassId} {ad : Nat → Nat} {A : Nat → Prop} (B : zu_B p s m args c zb_Post_lost 6 "StonePost" D cA ad A) (hret : meth.sig.returnType = (some .long)) (hlk : meth.locks = false) {res : Int64 × IX × LX} {k57 : Int64 → Int32 → IX → LX → Option (Int64 × IX × LX)} (hk57 : ∀ (x3 : Int64) (x5 : Int32) (X : IX) (Y : LX) (H : Heap) (locs : List Loc) (ls : Array Slot), va_P D zu_cl (zu_pic cA ad X Y) H → va_S A s.heap H locs → lv_has ls 6 [(0, .ref (ad 0)), (3, .long x3), (5, .int x5)] → k57 x3 x5 X Y = some res → W p l e zR_Post_lost s m args below meth c H locs 0 0 (MQ below (zu_Ql D cA ad A res.1 res.2.1 res.2.2) args s 0 0 A) (F0 m 57 ls [])) (x3 : Int64) (x5 : Int32) (X : IX) (Y : LX) (H : Heap) (locs : List Loc) (ls : Array Slot) (hP : va_P D zu_cl (zu_pic cA ad X Y) H) (hS : va_S A s.heap H locs) (hl : lv_has ls 6 [(0, .ref (ad 0)), (3, .long x3), (5, .int x5)]) (hf : fn_Post_lost_L90 k57 x3 x5 X Y = some res) : W p l e zR_Post_lost s m args below meth c H locs 0 0 (MQ below (zu_Ql D cA ad A res.1 res.2.1 res.2.2) args s 0 0 A) (F0 m 90 ls []) := by
  obtain ⟨hx, hb, hml, hown, hts, hST⟩ := id B
  unfold fn_Post_lost_L90 at hf
  obtain ⟨v20, ev20, hf⟩ := zu_nx_e hf
  refine lv_iinc (v := v20) (lv' := [(5, .int v20), (0, .ref (ad 0)), (3, .long x3)]) hx hb zd_Post_lost_90 hl (k := 2) rfl (by rw [ev20]; rfl) (by decide) rfl (fun ls hl => ?_)
  clear ev20
  refine lv_goto (tgt := 57) hx hb zd_Post_lost_93 (by decide) ?_
  exact hk57 x3 v20 X Y _ _ _ hP hS (lv_sub hl [1, 2, 0] rfl) hf
set_option maxHeartbeats 4000000 in
theorem zl_Post_lost_B57 {p : Program} {l : Launch} {e : Env} {s : State} {m : MethodId} {args : Array Value} {below : List Frame} {meth : Method} {c : Code} {D : va_G} {cA : Nat → ClassId} {ad : Nat → Nat} {A : Nat → Prop} (B : zu_B p s m args c zb_Post_lost 6 "StonePost" D cA ad A) (hret : meth.sig.returnType = (some .long)) (hlk : meth.locks = false) {res : Int64 × IX × LX} {k57 : Int64 → Int32 → IX → LX → Option (Int64 × IX × LX)} (hk57 : ∀ (x3 : Int64) (x5 : Int32) (X : IX) (Y : LX) (H : Heap) (locs : List Loc) (ls : Array Slot), va_P D zu_cl (zu_pic cA ad X Y) H → va_S A s.heap H locs → lv_has ls 6 [(0, .ref (ad 0)), (3, .long x3), (5, .int x5)] → k57 x3 x5 X Y = some res → W p l e zR_Post_lost s m args below meth c H locs 0 0 (MQ below (zu_Ql D cA ad A res.1 res.2.1 res.2.2) args s 0 0 A) (F0 m 57 ls [])) (x3 : Int64) (x5 : Int32) (X : IX) (Y : LX) (H : Heap) (locs : List Loc) (ls : Array Slot) (hP : va_P D zu_cl (zu_pic cA ad X Y) H) (hS : va_S A s.heap H locs) (hl : lv_has ls 6 [(0, .ref (ad 0)), (3, .long x3), (5, .int x5)]) (hf : fn_Post_lost_B57 k57 x3 x5 X Y = some res) : W p l e zR_Post_lost s m args below meth c H locs 0 0 (MQ below (zu_Ql D cA ad A res.1 res.2.1 res.2.2) args s 0 0 A) (F0 m 57 ls []) := by
  obtain ⟨hx, hb, hml, hown, hts, hST⟩ := id B
  unfold fn_Post_lost_B57 at hf
  refine lv_iload hx hb zd_Post_lost_57 (lv_at hl 2 rfl) ?_
  refine lv_bipush (v := 24) hx hb zd_Post_lost_59 (by decide) ?_
  refine lv_icmp_ge (tgt := 96) hx hb zd_Post_lost_61 (by decide) (fun c14 => ?_) (fun c14 => ?_)
  · have hf := zu_t c14 hf
    refine lv_lload_n hx hb zd_Post_lost_96 rfl (lv_at hl 1 rfl) ?_
    obtain rfl := Option.some.inj hf
    exact zr_lret hx hb hret hlk hP hS zd_Post_lost_97
  · have hf := zu_f c14 hf
    refine lv_aload_n hx hb zd_Post_lost_64 rfl (lv_at hl 0 rfl) ?_
    refine zg_Post_land B hP rfl zq_191 zd_Post_lost_65 ?_
    refine lv_iload hx hb zd_Post_lost_68 (lv_at hl 2 rfl) ?_
    obtain ⟨v15, hq16, hf⟩ := zu_b1_e hf
    refine zw_Land_placeSort (rest := []) B hP hS rfl hq16 zq_445 (Nat.le_of_ble_eq_true rfl) (Nat.le_of_ble_eq_true rfl) hl.1 rfl (Nat.le_of_ble_eq_true rfl) zd_Post_lost_70 (by decide) (fun H locs hP hS => ?_)
    clear hq16
    refine lv_iconst (v := 1) hx hb zd_Post_lost_73 (by decide) ?_
    refine lv_icmp_ne (tgt := 90) hx hb zd_Post_lost_74 (by decide) (fun c17 => ?_) (fun c17 => ?_)
    · have hf := zu_f c17 hf
      exact zl_Post_lost_L90 B hret hlk hk57 x3 x5 X Y _ _ _ hP hS (lv_sub hl [0, 1, 2] rfl) hf
    · have hf := zu_t c17 hf
      refine lv_lload_n hx hb zd_Post_lost_77 rfl (lv_at hl 1 rfl) ?_
      refine lv_aload_n hx hb zd_Post_lost_78 rfl (lv_at hl 0 rfl) ?_
      refine zg_Post_chart B hP rfl zq_194 zd_Post_lost_79 ?_
      refine zg_Chart_parts B hP rfl zq_115 zd_Post_lost_82 ?_
      refine lv_iload hx hb zd_Post_lost_85 (lv_at hl 2 rfl) ?_
      obtain ⟨hg18, hf⟩ := zu_gd_e hf
      refine zr_lald rfl B hP rfl (by decide) rfl hg18 zd_Post_lost_87 ?_
      refine lv_ladd hx hb zd_Post_lost_88 ?_
      refine zr_nxl hf (fun v19 hf => ?_)
      refine lv_lstore_n (lv' := [(3, .long v19), (0, .ref (ad 0)), (5, .int x5)]) hx hb zd_Post_lost_89 rfl hl (by decide) rfl (fun ls hl => ?_)
      exact zl_Post_lost_L90 B hret hlk hk57 v19 x5 X Y _ _ _ hP hS (lv_sub hl [1, 0, 2] rfl) hf
theorem zl_Post_lost_L57 {p : Program} {l : Launch} {e : Env} {s : State} {m : MethodId} {args : Array Value} {below : List Frame} {meth : Method} {c : Code} {D : va_G} {cA : Nat → ClassId} {ad : Nat → Nat} {A : Nat → Prop} (B : zu_B p s m args c zb_Post_lost 6 "StonePost" D cA ad A) (hret : meth.sig.returnType = (some .long)) (hlk : meth.locks = false) {res : Int64 × IX × LX} : ∀ (n : Nat) (x3 : Int64) (x5 : Int32) (X : IX) (Y : LX) (H : Heap) (locs : List Loc) (ls : Array Slot), va_P D zu_cl (zu_pic cA ad X Y) H → va_S A s.heap H locs → lv_has ls 6 [(0, .ref (ad 0)), (3, .long x3), (5, .int x5)] → fn_Post_lost_L57 n x3 x5 X Y = some res → W p l e zR_Post_lost s m args below meth c H locs 0 0 (MQ below (zu_Ql D cA ad A res.1 res.2.1 res.2.2) args s 0 0 A) (F0 m 57 ls []) := by
  intro n
  induction n with
  | zero =>
    intro x3 x5 X Y H locs ls hP hS hl hf
    exact (Option.some_ne_none _ hf.symm).elim
  | succ n ih =>
    intro x3 x5 X Y H locs ls hP hS hl hf
    exact zl_Post_lost_B57 B hret hlk ih x3 x5 X Y H locs ls hP hS hl  hf
set_option maxHeartbeats 4000000 in
theorem zl_Post_lost_L17 {p : Program} {l : Launch} {e : Env} {s : State} {m : MethodId} {args : Array Value} {below : List Frame} {meth : Method} {c : Code} {D : va_G} {cA : Nat → ClassId} {ad : Nat → Nat} {A : Nat → Prop} (B : zu_B p s m args c zb_Post_lost 6 "StonePost" D cA ad A) (hret : meth.sig.returnType = (some .long)) (hlk : meth.locks = false) {res : Int64 × IX × LX} (X : IX) (Y : LX) (H : Heap) (locs : List Loc) (ls : Array Slot) (hP : va_P D zu_cl (zu_pic cA ad X Y) H) (hS : va_S A s.heap H locs) (hl : lv_has ls 6 [(0, .ref (ad 0))]) (hf : fn_Post_lost_L17 X Y = some res) : W p l e zR_Post_lost s m args below meth c H locs 0 0 (MQ below (zu_Ql D cA ad A res.1 res.2.1 res.2.2) args s 0 0 A) (F0 m 17 ls []) := by
  obtain ⟨hx, hb, hml, hown, hts, hST⟩ := id B
  unfold fn_Post_lost_L17 at hf
  refine lv_aload_n hx hb zd_Post_lost_17 rfl (lv_at hl 0 rfl) ?_
  refine lv_ldc (v := -1000001) hx hb hown (hts _ zq_226) zd_Post_lost_18 ?_
  obtain ⟨v11, X12, hq13, hf⟩ := zu_b2_e hf
  refine zw_Post_finding (rest := []) B hP hS hq13 zq_227 (Nat.le_of_ble_eq_true rfl) (Nat.le_of_ble_eq_true rfl) hl.1 rfl (Nat.le_of_ble_eq_true rfl) zd_Post_lost_20 (by decide) (fun H locs hP hS => ?_)
  clear hq13
  refine lv_i2l hx hb zd_Post_lost_23 rfl ?_
  obtain rfl := Option.some.inj hf
  exact zr_lret hx hb hret hlk hP hS zd_Post_lost_24
set_option maxHeartbeats 4000000 in
theorem zl_Post_lost {p : Program} {l : Launch} {e : Env} {s : State} {m : MethodId} {args : Array Value} {below : List Frame} {meth : Method} {c : Code} {D : va_G} {cA : Nat → ClassId} {ad : Nat → Nat} {A : Nat → Prop} (B : zu_B p s m args c zb_Post_lost 6 "StonePost" D cA ad A) (hret : meth.sig.returnType = (some .long)) (hlk : meth.locks = false) {res : Int64 × IX × LX} {a1 : Int32} {a2 : Int32} {X : IX} {Y : LX} (H : Heap) (locs : List Loc) (ls : Array Slot) (hP : va_P D zu_cl (zu_pic cA ad X Y) H) (hS : va_S A s.heap H locs) (hl : lv_has ls 6 [(0, .ref (ad 0)), (1, .int a1), (2, .int a2)]) (hf : fn_Post_lost a1 a2 X Y = some res) : W p l e zR_Post_lost s m args below meth c H locs 0 0 (MQ below (zu_Ql D cA ad A res.1 res.2.1 res.2.2) args s 0 0 A) (F0 m 0 ls []) := by
  obtain ⟨hx, hb, hml, hown, hts, hST⟩ := id B
  unfold fn_Post_lost at hf
  refine lv_iload_n hx hb zd_Post_lost_0 rfl (lv_at hl 1 rfl) ?_
  obtain ⟨v1, hq2, hf⟩ := zu_b1_e hf
  refine zw_Post_isCell (rest := []) B hP hS hq2 zq_220 (Nat.le_of_ble_eq_true rfl) (Nat.le_of_ble_eq_true rfl) hl.1 rfl (Nat.le_of_ble_eq_true rfl) zd_Post_lost_1 (by decide) (fun H locs hP hS => ?_)
  clear hq2
  refine lv_if_eq (tgt := 17) hx hb zd_Post_lost_4 (by decide) (fun c3 => ?_) (fun c3 => ?_)
  · have hf := zu_t c3 hf
    exact zl_Post_lost_L17 B hret hlk X Y _ _ _ hP hS (lv_sub hl [0] rfl) hf
  · have hf := zu_f c3 hf
    refine lv_iload_n hx hb zd_Post_lost_7 rfl (lv_at hl 2 rfl) ?_
    refine lv_iconst (v := 0) hx hb zd_Post_lost_8 (by decide) ?_
    refine lv_bipush (v := 15) hx hb zd_Post_lost_9 (by decide) ?_
    obtain ⟨v4, hq5, hf⟩ := zu_b1_e hf
    refine zw_Post_isWithin (rest := []) B hP hS hq5 zq_223 (Nat.le_of_ble_eq_true rfl) (Nat.le_of_ble_eq_true rfl) hl.1 rfl (Nat.le_of_ble_eq_true rfl) zd_Post_lost_11 (by decide) (fun H locs hP hS => ?_)
    clear hq5
    refine lv_if_ne (tgt := 25) hx hb zd_Post_lost_14 (by decide) (fun c6 => ?_) (fun c6 => ?_)
    · have hf := zu_f c6 hf
      refine lv_aload_n hx hb zd_Post_lost_25 rfl (lv_at hl 0 rfl) ?_
      refine zg_Post_chart B hP rfl zq_194 zd_Post_lost_26 ?_
      refine lv_aload_n hx hb zd_Post_lost_29 rfl (lv_at hl 0 rfl) ?_
      refine zg_Post_land B hP rfl zq_191 zd_Post_lost_30 ?_
      obtain ⟨X7, hq8, hf⟩ := zu_b1_e hf
      refine zw_Chart_lay (rest := []) B hP hS rfl hq8 zq_382 (Nat.le_of_ble_eq_true rfl) (Nat.le_of_ble_eq_true rfl) hl.1 rfl (Nat.le_of_ble_eq_true rfl) zd_Post_lost_33 (by decide) (fun H locs hP hS => ?_)
      clear hq8
      refine lv_aload_n hx hb zd_Post_lost_36 rfl (lv_at hl 0 rfl) ?_
      refine zg_Post_chart B hP rfl zq_194 zd_Post_lost_37 ?_
      refine lv_iload_n hx hb zd_Post_lost_40 rfl (lv_at hl 1 rfl) ?_
      refine lv_iload_n hx hb zd_Post_lost_41 rfl (lv_at hl 2 rfl) ?_
      refine lv_aload_n hx hb zd_Post_lost_42 rfl (lv_at hl 0 rfl) ?_
      refine zg_Post_chart B hP rfl zq_194 zd_Post_lost_43 ?_
      refine zg_Chart_choices B hP rfl zq_118 zd_Post_lost_46 ?_
      obtain ⟨Y9, hq10, hf⟩ := zu_b1_e hf
      refine zw_Chart_spread (rest := []) B hP hS hq10 zq_450 (Nat.le_of_ble_eq_true rfl) (Nat.le_of_ble_eq_true rfl) hl.1 rfl (Nat.le_of_ble_eq_true rfl) zd_Post_lost_49 (by decide) (fun H locs hP hS => ?_)
      clear hq10
      refine lv_lconst (v := 0) hx hb zd_Post_lost_52 (by decide) ?_
      refine lv_lstore_n (lv' := [(3, .long (0 : Int64)), (0, .ref (ad 0)), (1, .int a1), (2, .int a2)]) hx hb zd_Post_lost_53 rfl hl (by decide) rfl (fun ls hl => ?_)
      refine lv_iconst (v := 0) hx hb zd_Post_lost_54 (by decide) ?_
      refine lv_istore (lv' := [(5, .int (0 : Int32)), (3, .long (0 : Int64)), (0, .ref (ad 0)), (1, .int a1), (2, .int a2)]) hx hb zd_Post_lost_55 hl (by decide) rfl (fun ls hl => ?_)
      exact zl_Post_lost_L57 B hret hlk 400 (0 : Int64) (0 : Int32) X7 Y9 _ _ _ hP hS (lv_sub hl [2, 1, 0] rfl) hf
    · have hf := zu_t c6 hf
      exact zl_Post_lost_L17 B hret hlk X Y _ _ _ hP hS (lv_sub hl [0] rfl) hf
theorem zC_Post_lost (l : Launch) {D : va_G} {cA : Nat → ClassId} {ad : Nat → Nat} {A : Nat → Prop} {a1 : Int32} {a2 : Int32} {X : IX} {Y : LX} {res : Int64 × IX × LX} (hf : fn_Post_lost a1 a2 X Y = some res) : Met l zm_Post_lost (zu_ws zm_Post_lost zb_Post_lost 6 (some .long)) zR_Post_lost (va_Pc [.ref (ad 0), .int a1, .int a2] (zu_Pre D cA ad A X Y)) (zu_Ql D cA ad A res.1 res.2.1 res.2.2) 0 0 A := by
  refine Met.ofW (cc := zb_Post_lost) (maxL := 6) (ret := (some .long)) (by decide +kernel) rfl ?_
  intro p e s m args below meth c s₁ B0 hml hv
  obtain ⟨rfl, hP, hST⟩ := hv
  have B : zu_B p s m _ c zb_Post_lost 6 "StonePost" D cA ad A := ⟨B0.exec, B0.bytes, hml, findClass_of_methodNamed B0.named, (fun w hw => atoms_spec (ws := zu_ws zm_Post_lost zb_Post_lost 6 (some .long)) B0.pre w (List.mem_cons_of_mem _ hw)), hST⟩
  have hl := lv_entry ([.ref (ad 0), .int a1, .int a2]) (n := 6) (Nat.le_of_ble_eq_true rfl)
  rw [lg_entry_eq]
  generalize (lg_sl ([.ref (ad 0), .int a1, .int a2]) ++ List.replicate (6 - (lg_sl ([.ref (ad 0), .int a1, .int a2])).length) Slot.unset).toArray = ls at hl ⊢
  exact zl_Post_lost B B0.returns B0.notSynchronized s.heap [] ls hP va_S.rf hl  hf
theorem zw_Post_lost {p : Program} {l : Launch} {e : Env} {R : Room} {s : State} {m : MethodId} {args : Array Value} {below : List Frame} {meth : Method} {c : Code} {H : Heap} {locs : List Loc} {cells slots : Nat} {Q : State → Prop} {cc : ByteArray} {pc nL : Nat} {ls : Array Slot} {rest st0 : List Value} {D : va_G} {cA : Nat → ClassId} {ad : Nat → Nat} {A : Nat → Prop} {X : IX} {Y : LX} {own : String} {index : Nat} {a1 : Int32} {a2 : Int32} {v1 : Int64} {X1 : IX} {Y1 : LX} (B : zu_B p s m args c cc nL own D cA ad A) (hP : va_P D zu_cl (zu_pic cA ad X Y) H) (hS : va_S A s.heap H locs) (hq : fn_Post_lost a1 a2 X Y = some (v1, X1, Y1)) (m1 : Cond.methodLink own index zm_Post_lost ∈ zu_TB) (hR1 : 6 + 1 ≤ R.frames) (hR2 : 8 + (6 + 11) + 138 ≤ R.locals) (hsz : ls.size = nL) (hst : st0 = .int a2 :: .int a1 :: .ref (ad 0) :: rest) (hw : (rest.map fun v => v.category).sum ≤ 8) (hdg : decode cc pc = .ok (.invokevirtual index, 3)) (h00 : cells ≤ R.cells ∧ slots ≤ R.slots) (kk : ∀ (H1 : Heap) (locs1 : List Loc), va_P D zu_cl (zu_pic cA ad X1 Y1) H1 → va_S A s.heap H1 locs1 → W p l e R s m args below meth c H1 locs1 cells slots Q (F0 m (pc + 3) ls (.long v1 :: rest))) : W p l e R s m args below meth c H locs cells slots Q (F0 m pc ls st0) := by
  subst hst
  exact zr_cVl (As := [.int a1, .int a2]) (rest := rest) (n := 2) (C := "StonePost") (T := zt_Post) (N := 8) B hP hS (zC_Post_lost l  hq) (K := 1) rfl (by decide) (by decide) rfl rfl m1 zq_460 zq_461 zq_1 zq_462 (by decide +kernel) ⟨hR1, hR2⟩ rfl rfl rfl hsz rfl hw hdg h00 kk
abbrev zR_Post_likeliest : Room := { frames := 6, cells := 0, slots := 0, locals := 138 }
theorem zd_Post_likeliest_0 : decode zb_Post_likeliest 0 = .ok (.iload_n 1, 1) := by decide +kernel
theorem zd_Post_likeliest_1 : decode zb_Post_likeliest 1 = .ok (.invokestatic 47, 3) := by decide +kernel
theorem zd_Post_likeliest_4 : decode zb_Post_likeliest 4 = .ok (.ifCond .eq 13, 3) := by decide +kernel
theorem zd_Post_likeliest_7 : decode zb_Post_likeliest 7 = .ok (.iload_n 2, 1) := by decide +kernel
theorem zd_Post_likeliest_8 : decode zb_Post_likeliest 8 = .ok (.iconst 0, 1) := by decide +kernel
theorem zd_Post_likeliest_9 : decode zb_Post_likeliest 9 = .ok (.bipush 15, 2) := by decide +kernel
theorem zd_Post_likeliest_11 : decode zb_Post_likeliest 11 = .ok (.invokestatic 51, 3) := by decide +kernel
theorem zd_Post_likeliest_14 : decode zb_Post_likeliest 14 = .ok (.ifCond .ne 10, 3) := by decide +kernel
theorem zd_Post_likeliest_17 : decode zb_Post_likeliest 17 = .ok (.aload_n 0, 1) := by decide +kernel
theorem zd_Post_likeliest_18 : decode zb_Post_likeliest 18 = .ok (.ldc 55, 2) := by decide +kernel
theorem zd_Post_likeliest_20 : decode zb_Post_likeliest 20 = .ok (.invokevirtual 56, 3) := by decide +kernel
theorem zd_Post_likeliest_23 : decode zb_Post_likeliest 23 = .ok (.ireturn, 1) := by decide +kernel
theorem zd_Post_likeliest_24 : decode zb_Post_likeliest 24 = .ok (.aload_n 0, 1) := by decide +kernel
theorem zd_Post_likeliest_25 : decode zb_Post_likeliest 25 = .ok (.getfield 25, 3) := by decide +kernel
theorem zd_Post_likeliest_28 : decode zb_Post_likeliest 28 = .ok (.aload_n 0, 1) := by decide +kernel
theorem zd_Post_likeliest_29 : decode zb_Post_likeliest 29 = .ok (.getfield 10, 3) := by decide +kernel
theorem zd_Post_likeliest_32 : decode zb_Post_likeliest 32 = .ok (.invokevirtual 136, 3) := by decide +kernel
theorem zd_Post_likeliest_35 : decode zb_Post_likeliest 35 = .ok (.aload_n 0, 1) := by decide +kernel
theorem zd_Post_likeliest_36 : decode zb_Post_likeliest 36 = .ok (.getfield 25, 3) := by decide +kernel
theorem zd_Post_likeliest_39 : decode zb_Post_likeliest 39 = .ok (.iload_n 1, 1) := by decide +kernel
theorem zd_Post_likeliest_40 : decode zb_Post_likeliest 40 = .ok (.iload_n 2, 1) := by decide +kernel
theorem zd_Post_likeliest_41 : decode zb_Post_likeliest 41 = .ok (.aload_n 0, 1) := by decide +kernel
theorem zd_Post_likeliest_42 : decode zb_Post_likeliest 42 = .ok (.getfield 25, 3) := by decide +kernel
theorem zd_Post_likeliest_45 : decode zb_Post_likeliest 45 = .ok (.getfield 146, 3) := by decide +kernel
theorem zd_Post_likeliest_48 : decode zb_Post_likeliest 48 = .ok (.invokevirtual 149, 3) := by decide +kernel
theorem zd_Post_likeliest_51 : decode zb_Post_likeliest 51 = .ok (.iconst 0, 1) := by decide +kernel
theorem zd_Post_likeliest_52 : decode zb_Post_likeliest 52 = .ok (.istore_n 3, 1) := by decide +kernel
theorem zd_Post_likeliest_53 : decode zb_Post_likeliest 53 = .ok (.iconst 1, 1) := by decide +kernel
theorem zd_Post_likeliest_54 : decode zb_Post_likeliest 54 = .ok (.istore 4, 2) := by decide +kernel
theorem zd_Post_likeliest_56 : decode zb_Post_likeliest 56 = .ok (.iload 4, 2) := by decide +kernel
theorem zd_Post_likeliest_58 : decode zb_Post_likeliest 58 = .ok (.bipush 24, 2) := by decide +kernel
theorem zd_Post_likeliest_60 : decode zb_Post_likeliest 60 = .ok (.if_icmp .ge 35, 3) := by decide +kernel
theorem zd_Post_likeliest_63 : decode zb_Post_likeliest 63 = .ok (.aload_n 0, 1) := by decide +kernel
theorem zd_Post_likeliest_64 : decode zb_Post_likeliest 64 = .ok (.getfield 25, 3) := by decide +kernel
theorem zd_Post_likeliest_67 : decode zb_Post_likeliest 67 = .ok (.getfield 153, 3) := by decide +kernel
theorem zd_Post_likeliest_70 : decode zb_Post_likeliest 70 = .ok (.iload 4, 2) := by decide +kernel
theorem zd_Post_likeliest_72 : decode zb_Post_likeliest 72 = .ok (.laload, 1) := by decide +kernel
theorem zd_Post_likeliest_73 : decode zb_Post_likeliest 73 = .ok (.aload_n 0, 1) := by decide +kernel
theorem zd_Post_likeliest_74 : decode zb_Post_likeliest 74 = .ok (.getfield 25, 3) := by decide +kernel
theorem zd_Post_likeliest_77 : decode zb_Post_likeliest 77 = .ok (.getfield 153, 3) := by decide +kernel
theorem zd_Post_likeliest_80 : decode zb_Post_likeliest 80 = .ok (.iload_n 3, 1) := by decide +kernel
theorem zd_Post_likeliest_81 : decode zb_Post_likeliest 81 = .ok (.laload, 1) := by decide +kernel
theorem zd_Post_likeliest_82 : decode zb_Post_likeliest 82 = .ok (.lcmp, 1) := by decide +kernel
theorem zd_Post_likeliest_83 : decode zb_Post_likeliest 83 = .ok (.ifCond .le 6, 3) := by decide +kernel
theorem zd_Post_likeliest_86 : decode zb_Post_likeliest 86 = .ok (.iload 4, 2) := by decide +kernel
theorem zd_Post_likeliest_88 : decode zb_Post_likeliest 88 = .ok (.istore_n 3, 1) := by decide +kernel
theorem zd_Post_likeliest_89 : decode zb_Post_likeliest 89 = .ok (.iinc 4 1, 3) := by decide +kernel
theorem zd_Post_likeliest_92 : decode zb_Post_likeliest 92 = .ok (.goto (-36), 3) := by decide +kernel
theorem zd_Post_likeliest_95 : decode zb_Post_likeliest 95 = .ok (.iload_n 3, 1) := by decide +kernel
theorem zd_Post_likeliest_96 : decode zb_Post_likeliest 96 = .ok (.ireturn, 1) := by decide +kernel
set_option maxHeartbeats 4000000 in
theorem zl_Post_likeliest_L89 {p : Program} {l : Launch} {e : Env} {s : State} {m : MethodId} {args : Array Value} {below : List Frame} {meth : Method} {c : Code} {D : va_G} {cA : Nat → ClassId} {ad : Nat → Nat} {A : Nat → Prop} (B : zu_B p s m args c zb_Post_likeliest 5 "StonePost" D cA ad A) (hret : meth.sig.returnType = (some .int)) (hlk : meth.locks = false) {res : Int32 × IX × LX} {k56 : Int32 → Int32 → IX → LX → Option (Int32 × IX × LX)} (hk56 : ∀ (x3 : Int32) (x4 : Int32) (X : IX) (Y : LX) (H : Heap) (locs : List Loc) (ls : Array Slot), va_P D zu_cl (zu_pic cA ad X Y) H → va_S A s.heap H locs → lv_has ls 5 [(0, .ref (ad 0)), (3, .int x3), (4, .int x4)] → k56 x3 x4 X Y = some res → W p l e zR_Post_likeliest s m args below meth c H locs 0 0 (MQ below (zu_Qi D cA ad A res.1 res.2.1 res.2.2) args s 0 0 A) (F0 m 56 ls [])) (x3 : Int32) (x4 : Int32) (X : IX) (Y : LX) (H : Heap) (locs : List Loc) (ls : Array Slot) (hP : va_P D zu_cl (zu_pic cA ad X Y) H) (hS : va_S A s.heap H locs) (hl : lv_has ls 5 [(0, .ref (ad 0)), (3, .int x3), (4, .int x4)]) (hf : fn_Post_likeliest_L89 k56 x3 x4 X Y = some res) : W p l e zR_Post_likeliest s m args below meth c H locs 0 0 (MQ below (zu_Qi D cA ad A res.1 res.2.1 res.2.2) args s 0 0 A) (F0 m 89 ls []) := by
  obtain ⟨hx, hb, hml, hown, hts, hST⟩ := id B
  unfold fn_Post_likeliest_L89 at hf
  obtain ⟨v18, ev18, hf⟩ := zu_nx_e hf
  refine lv_iinc (v := v18) (lv' := [(4, .int v18), (0, .ref (ad 0)), (3, .int x3)]) hx hb zd_Post_likeliest_89 hl (k := 2) rfl (by rw [ev18]; rfl) (by decide) rfl (fun ls hl => ?_)
  clear ev18
  refine lv_goto (tgt := 56) hx hb zd_Post_likeliest_92 (by decide) ?_
  exact hk56 x3 v18 X Y _ _ _ hP hS (lv_sub hl [1, 2, 0] rfl) hf
set_option maxHeartbeats 4000000 in
theorem zl_Post_likeliest_B56 {p : Program} {l : Launch} {e : Env} {s : State} {m : MethodId} {args : Array Value} {below : List Frame} {meth : Method} {c : Code} {D : va_G} {cA : Nat → ClassId} {ad : Nat → Nat} {A : Nat → Prop} (B : zu_B p s m args c zb_Post_likeliest 5 "StonePost" D cA ad A) (hret : meth.sig.returnType = (some .int)) (hlk : meth.locks = false) {res : Int32 × IX × LX} {k56 : Int32 → Int32 → IX → LX → Option (Int32 × IX × LX)} (hk56 : ∀ (x3 : Int32) (x4 : Int32) (X : IX) (Y : LX) (H : Heap) (locs : List Loc) (ls : Array Slot), va_P D zu_cl (zu_pic cA ad X Y) H → va_S A s.heap H locs → lv_has ls 5 [(0, .ref (ad 0)), (3, .int x3), (4, .int x4)] → k56 x3 x4 X Y = some res → W p l e zR_Post_likeliest s m args below meth c H locs 0 0 (MQ below (zu_Qi D cA ad A res.1 res.2.1 res.2.2) args s 0 0 A) (F0 m 56 ls [])) (x3 : Int32) (x4 : Int32) (X : IX) (Y : LX) (H : Heap) (locs : List Loc) (ls : Array Slot) (hP : va_P D zu_cl (zu_pic cA ad X Y) H) (hS : va_S A s.heap H locs) (hl : lv_has ls 5 [(0, .ref (ad 0)), (3, .int x3), (4, .int x4)]) (hf : fn_Post_likeliest_B56 k56 x3 x4 X Y = some res) : W p l e zR_Post_likeliest s m args below meth c H locs 0 0 (MQ below (zu_Qi D cA ad A res.1 res.2.1 res.2.2) args s 0 0 A) (F0 m 56 ls []) := by
  obtain ⟨hx, hb, hml, hown, hts, hST⟩ := id B
  unfold fn_Post_likeliest_B56 at hf
  refine lv_iload hx hb zd_Post_likeliest_56 (lv_at hl 2 rfl) ?_
  refine lv_bipush (v := 24) hx hb zd_Post_likeliest_58 (by decide) ?_
  refine lv_icmp_ge (tgt := 95) hx hb zd_Post_likeliest_60 (by decide) (fun c14 => ?_) (fun c14 => ?_)
  · have hf := zu_t c14 hf
    refine lv_iload_n hx hb zd_Post_likeliest_95 rfl (lv_at hl 1 rfl) ?_
    obtain rfl := Option.some.inj hf
    exact zr_iret hx hb hret hlk hP hS zd_Post_likeliest_96
  · have hf := zu_f c14 hf
    refine lv_aload_n hx hb zd_Post_likeliest_63 rfl (lv_at hl 0 rfl) ?_
    refine zg_Post_chart B hP rfl zq_194 zd_Post_likeliest_64 ?_
    refine zg_Chart_parts B hP rfl zq_115 zd_Post_likeliest_67 ?_
    refine lv_iload hx hb zd_Post_likeliest_70 (lv_at hl 2 rfl) ?_
    obtain ⟨hg15, hf⟩ := zu_gd_e hf
    refine zr_lald rfl B hP rfl (by decide) rfl hg15 zd_Post_likeliest_72 ?_
    refine lv_aload_n hx hb zd_Post_likeliest_73 rfl (lv_at hl 0 rfl) ?_
    refine zg_Post_chart B hP rfl zq_194 zd_Post_likeliest_74 ?_
    refine zg_Chart_parts B hP rfl zq_115 zd_Post_likeliest_77 ?_
    refine lv_iload_n hx hb zd_Post_likeliest_80 rfl (lv_at hl 1 rfl) ?_
    obtain ⟨hg16, hf⟩ := zu_gd_e hf
    refine zr_lald rfl B hP rfl (by decide) rfl hg16 zd_Post_likeliest_81 ?_
    refine W.lcmp hx hb zd_Post_likeliest_82 ?_
    refine lv_if_le (tgt := 89) hx hb zd_Post_likeliest_83 (by decide) (fun c17 => ?_) (fun c17 => ?_)
    · have hf := zu_t c17 hf
      exact zl_Post_likeliest_L89 B hret hlk hk56 x3 x4 X Y _ _ _ hP hS (lv_sub hl [0, 1, 2] rfl) hf
    · have hf := zu_f c17 hf
      refine lv_iload hx hb zd_Post_likeliest_86 (lv_at hl 2 rfl) ?_
      refine lv_istore_n (lv' := [(3, .int x4), (0, .ref (ad 0)), (4, .int x4)]) hx hb zd_Post_likeliest_88 rfl hl (by decide) rfl (fun ls hl => ?_)
      exact zl_Post_likeliest_L89 B hret hlk hk56 x4 x4 X Y _ _ _ hP hS (lv_sub hl [1, 0, 2] rfl) hf
theorem zl_Post_likeliest_L56 {p : Program} {l : Launch} {e : Env} {s : State} {m : MethodId} {args : Array Value} {below : List Frame} {meth : Method} {c : Code} {D : va_G} {cA : Nat → ClassId} {ad : Nat → Nat} {A : Nat → Prop} (B : zu_B p s m args c zb_Post_likeliest 5 "StonePost" D cA ad A) (hret : meth.sig.returnType = (some .int)) (hlk : meth.locks = false) {res : Int32 × IX × LX} : ∀ (n : Nat) (x3 : Int32) (x4 : Int32) (X : IX) (Y : LX) (H : Heap) (locs : List Loc) (ls : Array Slot), va_P D zu_cl (zu_pic cA ad X Y) H → va_S A s.heap H locs → lv_has ls 5 [(0, .ref (ad 0)), (3, .int x3), (4, .int x4)] → fn_Post_likeliest_L56 n x3 x4 X Y = some res → W p l e zR_Post_likeliest s m args below meth c H locs 0 0 (MQ below (zu_Qi D cA ad A res.1 res.2.1 res.2.2) args s 0 0 A) (F0 m 56 ls []) := by
  intro n
  induction n with
  | zero =>
    intro x3 x4 X Y H locs ls hP hS hl hf
    exact (Option.some_ne_none _ hf.symm).elim
  | succ n ih =>
    intro x3 x4 X Y H locs ls hP hS hl hf
    exact zl_Post_likeliest_B56 B hret hlk ih x3 x4 X Y H locs ls hP hS hl  hf
set_option maxHeartbeats 4000000 in
theorem zl_Post_likeliest_L17 {p : Program} {l : Launch} {e : Env} {s : State} {m : MethodId} {args : Array Value} {below : List Frame} {meth : Method} {c : Code} {D : va_G} {cA : Nat → ClassId} {ad : Nat → Nat} {A : Nat → Prop} (B : zu_B p s m args c zb_Post_likeliest 5 "StonePost" D cA ad A) (hret : meth.sig.returnType = (some .int)) (hlk : meth.locks = false) {res : Int32 × IX × LX} (X : IX) (Y : LX) (H : Heap) (locs : List Loc) (ls : Array Slot) (hP : va_P D zu_cl (zu_pic cA ad X Y) H) (hS : va_S A s.heap H locs) (hl : lv_has ls 5 [(0, .ref (ad 0))]) (hf : fn_Post_likeliest_L17 X Y = some res) : W p l e zR_Post_likeliest s m args below meth c H locs 0 0 (MQ below (zu_Qi D cA ad A res.1 res.2.1 res.2.2) args s 0 0 A) (F0 m 17 ls []) := by
  obtain ⟨hx, hb, hml, hown, hts, hST⟩ := id B
  unfold fn_Post_likeliest_L17 at hf
  refine lv_aload_n hx hb zd_Post_likeliest_17 rfl (lv_at hl 0 rfl) ?_
  refine lv_ldc (v := -1000001) hx hb hown (hts _ zq_226) zd_Post_likeliest_18 ?_
  obtain ⟨v11, X12, hq13, hf⟩ := zu_b2_e hf
  refine zw_Post_finding (rest := []) B hP hS hq13 zq_227 (Nat.le_of_ble_eq_true rfl) (Nat.le_of_ble_eq_true rfl) hl.1 rfl (Nat.le_of_ble_eq_true rfl) zd_Post_likeliest_20 (by decide) (fun H locs hP hS => ?_)
  clear hq13
  obtain rfl := Option.some.inj hf
  exact zr_iret hx hb hret hlk hP hS zd_Post_likeliest_23
set_option maxHeartbeats 4000000 in
theorem zl_Post_likeliest {p : Program} {l : Launch} {e : Env} {s : State} {m : MethodId} {args : Array Value} {below : List Frame} {meth : Method} {c : Code} {D : va_G} {cA : Nat → ClassId} {ad : Nat → Nat} {A : Nat → Prop} (B : zu_B p s m args c zb_Post_likeliest 5 "StonePost" D cA ad A) (hret : meth.sig.returnType = (some .int)) (hlk : meth.locks = false) {res : Int32 × IX × LX} {a1 : Int32} {a2 : Int32} {X : IX} {Y : LX} (H : Heap) (locs : List Loc) (ls : Array Slot) (hP : va_P D zu_cl (zu_pic cA ad X Y) H) (hS : va_S A s.heap H locs) (hl : lv_has ls 5 [(0, .ref (ad 0)), (1, .int a1), (2, .int a2)]) (hf : fn_Post_likeliest a1 a2 X Y = some res) : W p l e zR_Post_likeliest s m args below meth c H locs 0 0 (MQ below (zu_Qi D cA ad A res.1 res.2.1 res.2.2) args s 0 0 A) (F0 m 0 ls []) := by
  obtain ⟨hx, hb, hml, hown, hts, hST⟩ := id B
  unfold fn_Post_likeliest at hf
  refine lv_iload_n hx hb zd_Post_likeliest_0 rfl (lv_at hl 1 rfl) ?_
  obtain ⟨v1, hq2, hf⟩ := zu_b1_e hf
  refine zw_Post_isCell (rest := []) B hP hS hq2 zq_220 (Nat.le_of_ble_eq_true rfl) (Nat.le_of_ble_eq_true rfl) hl.1 rfl (Nat.le_of_ble_eq_true rfl) zd_Post_likeliest_1 (by decide) (fun H locs hP hS => ?_)
  clear hq2
  refine lv_if_eq (tgt := 17) hx hb zd_Post_likeliest_4 (by decide) (fun c3 => ?_) (fun c3 => ?_)
  · have hf := zu_t c3 hf
    exact zl_Post_likeliest_L17 B hret hlk X Y _ _ _ hP hS (lv_sub hl [0] rfl) hf
  · have hf := zu_f c3 hf
    refine lv_iload_n hx hb zd_Post_likeliest_7 rfl (lv_at hl 2 rfl) ?_
    refine lv_iconst (v := 0) hx hb zd_Post_likeliest_8 (by decide) ?_
    refine lv_bipush (v := 15) hx hb zd_Post_likeliest_9 (by decide) ?_
    obtain ⟨v4, hq5, hf⟩ := zu_b1_e hf
    refine zw_Post_isWithin (rest := []) B hP hS hq5 zq_223 (Nat.le_of_ble_eq_true rfl) (Nat.le_of_ble_eq_true rfl) hl.1 rfl (Nat.le_of_ble_eq_true rfl) zd_Post_likeliest_11 (by decide) (fun H locs hP hS => ?_)
    clear hq5
    refine lv_if_ne (tgt := 24) hx hb zd_Post_likeliest_14 (by decide) (fun c6 => ?_) (fun c6 => ?_)
    · have hf := zu_f c6 hf
      refine lv_aload_n hx hb zd_Post_likeliest_24 rfl (lv_at hl 0 rfl) ?_
      refine zg_Post_chart B hP rfl zq_194 zd_Post_likeliest_25 ?_
      refine lv_aload_n hx hb zd_Post_likeliest_28 rfl (lv_at hl 0 rfl) ?_
      refine zg_Post_land B hP rfl zq_191 zd_Post_likeliest_29 ?_
      obtain ⟨X7, hq8, hf⟩ := zu_b1_e hf
      refine zw_Chart_lay (rest := []) B hP hS rfl hq8 zq_382 (Nat.le_of_ble_eq_true rfl) (Nat.le_of_ble_eq_true rfl) hl.1 rfl (Nat.le_of_ble_eq_true rfl) zd_Post_likeliest_32 (by decide) (fun H locs hP hS => ?_)
      clear hq8
      refine lv_aload_n hx hb zd_Post_likeliest_35 rfl (lv_at hl 0 rfl) ?_
      refine zg_Post_chart B hP rfl zq_194 zd_Post_likeliest_36 ?_
      refine lv_iload_n hx hb zd_Post_likeliest_39 rfl (lv_at hl 1 rfl) ?_
      refine lv_iload_n hx hb zd_Post_likeliest_40 rfl (lv_at hl 2 rfl) ?_
      refine lv_aload_n hx hb zd_Post_likeliest_41 rfl (lv_at hl 0 rfl) ?_
      refine zg_Post_chart B hP rfl zq_194 zd_Post_likeliest_42 ?_
      refine zg_Chart_choices B hP rfl zq_118 zd_Post_likeliest_45 ?_
      obtain ⟨Y9, hq10, hf⟩ := zu_b1_e hf
      refine zw_Chart_spread (rest := []) B hP hS hq10 zq_450 (Nat.le_of_ble_eq_true rfl) (Nat.le_of_ble_eq_true rfl) hl.1 rfl (Nat.le_of_ble_eq_true rfl) zd_Post_likeliest_48 (by decide) (fun H locs hP hS => ?_)
      clear hq10
      refine lv_iconst (v := 0) hx hb zd_Post_likeliest_51 (by decide) ?_
      refine lv_istore_n (lv' := [(3, .int (0 : Int32)), (0, .ref (ad 0)), (1, .int a1), (2, .int a2)]) hx hb zd_Post_likeliest_52 rfl hl (by decide) rfl (fun ls hl => ?_)
      refine lv_iconst (v := 1) hx hb zd_Post_likeliest_53 (by decide) ?_
      refine lv_istore (lv' := [(4, .int (1 : Int32)), (3, .int (0 : Int32)), (0, .ref (ad 0)), (1, .int a1), (2, .int a2)]) hx hb zd_Post_likeliest_54 hl (by decide) rfl (fun ls hl => ?_)
      exact zl_Post_likeliest_L56 B hret hlk 400 (0 : Int32) (1 : Int32) X7 Y9 _ _ _ hP hS (lv_sub hl [2, 1, 0] rfl) hf
    · have hf := zu_t c6 hf
      exact zl_Post_likeliest_L17 B hret hlk X Y _ _ _ hP hS (lv_sub hl [0] rfl) hf
theorem zC_Post_likeliest (l : Launch) {D : va_G} {cA : Nat → ClassId} {ad : Nat → Nat} {A : Nat → Prop} {a1 : Int32} {a2 : Int32} {X : IX} {Y : LX} {res : Int32 × IX × LX} (hf : fn_Post_likeliest a1 a2 X Y = some res) : Met l zm_Post_likeliest (zu_ws zm_Post_likeliest zb_Post_likeliest 5 (some .int)) zR_Post_likeliest (va_Pc [.ref (ad 0), .int a1, .int a2] (zu_Pre D cA ad A X Y)) (zu_Qi D cA ad A res.1 res.2.1 res.2.2) 0 0 A := by
  refine Met.ofW (cc := zb_Post_likeliest) (maxL := 5) (ret := (some .int)) (by decide +kernel) rfl ?_
  intro p e s m args below meth c s₁ B0 hml hv
  obtain ⟨rfl, hP, hST⟩ := hv
  have B : zu_B p s m _ c zb_Post_likeliest 5 "StonePost" D cA ad A := ⟨B0.exec, B0.bytes, hml, findClass_of_methodNamed B0.named, (fun w hw => atoms_spec (ws := zu_ws zm_Post_likeliest zb_Post_likeliest 5 (some .int)) B0.pre w (List.mem_cons_of_mem _ hw)), hST⟩
  have hl := lv_entry ([.ref (ad 0), .int a1, .int a2]) (n := 5) (Nat.le_of_ble_eq_true rfl)
  rw [lg_entry_eq]
  generalize (lg_sl ([.ref (ad 0), .int a1, .int a2]) ++ List.replicate (5 - (lg_sl ([.ref (ad 0), .int a1, .int a2])).length) Slot.unset).toArray = ls at hl ⊢
  exact zl_Post_likeliest B B0.returns B0.notSynchronized s.heap [] ls hP va_S.rf hl  hf
theorem zw_Post_likeliest {p : Program} {l : Launch} {e : Env} {R : Room} {s : State} {m : MethodId} {args : Array Value} {below : List Frame} {meth : Method} {c : Code} {H : Heap} {locs : List Loc} {cells slots : Nat} {Q : State → Prop} {cc : ByteArray} {pc nL : Nat} {ls : Array Slot} {rest st0 : List Value} {D : va_G} {cA : Nat → ClassId} {ad : Nat → Nat} {A : Nat → Prop} {X : IX} {Y : LX} {own : String} {index : Nat} {a1 : Int32} {a2 : Int32} {v1 : Int32} {X1 : IX} {Y1 : LX} (B : zu_B p s m args c cc nL own D cA ad A) (hP : va_P D zu_cl (zu_pic cA ad X Y) H) (hS : va_S A s.heap H locs) (hq : fn_Post_likeliest a1 a2 X Y = some (v1, X1, Y1)) (m1 : Cond.methodLink own index zm_Post_likeliest ∈ zu_TB) (hR1 : 6 + 1 ≤ R.frames) (hR2 : 8 + (5 + 11) + 138 ≤ R.locals) (hsz : ls.size = nL) (hst : st0 = .int a2 :: .int a1 :: .ref (ad 0) :: rest) (hw : (rest.map fun v => v.category).sum ≤ 8) (hdg : decode cc pc = .ok (.invokevirtual index, 3)) (h00 : cells ≤ R.cells ∧ slots ≤ R.slots) (kk : ∀ (H1 : Heap) (locs1 : List Loc), va_P D zu_cl (zu_pic cA ad X1 Y1) H1 → va_S A s.heap H1 locs1 → W p l e R s m args below meth c H1 locs1 cells slots Q (F0 m (pc + 3) ls (.int v1 :: rest))) : W p l e R s m args below meth c H locs cells slots Q (F0 m pc ls st0) := by
  subst hst
  exact zr_cVi (As := [.int a1, .int a2]) (rest := rest) (n := 2) (C := "StonePost") (T := zt_Post) (N := 8) B hP hS (zC_Post_likeliest l  hq) (K := 1) rfl (by decide) (by decide) rfl rfl m1 zq_464 zq_465 zq_1 zq_466 (by decide +kernel) ⟨hR1, hR2⟩ rfl rfl rfl hsz rfl hw hdg h00 kk
abbrev zR_Chart_cellsOf : Room := { frames := 0, cells := 0, slots := 0, locals := 0 }
theorem zd_Chart_cellsOf_0 : decode zb_Chart_cellsOf 0 = .ok (.iconst 0, 1) := by decide +kernel
theorem zd_Chart_cellsOf_1 : decode zb_Chart_cellsOf 1 = .ok (.istore_n 2, 1) := by decide +kernel
theorem zd_Chart_cellsOf_2 : decode zb_Chart_cellsOf 2 = .ok (.aload_n 0, 1) := by decide +kernel
theorem zd_Chart_cellsOf_3 : decode zb_Chart_cellsOf 3 = .ok (.getfield 18, 3) := by decide +kernel
theorem zd_Chart_cellsOf_6 : decode zb_Chart_cellsOf 6 = .ok (.iload_n 1, 1) := by decide +kernel
theorem zd_Chart_cellsOf_7 : decode zb_Chart_cellsOf 7 = .ok (.iaload, 1) := by decide +kernel
theorem zd_Chart_cellsOf_8 : decode zb_Chart_cellsOf 8 = .ok (.ifCond .le 14, 3) := by decide +kernel
theorem zd_Chart_cellsOf_11 : decode zb_Chart_cellsOf 11 = .ok (.iload_n 2, 1) := by decide +kernel
theorem zd_Chart_cellsOf_12 : decode zb_Chart_cellsOf 12 = .ok (.iconst 1, 1) := by decide +kernel
theorem zd_Chart_cellsOf_13 : decode zb_Chart_cellsOf 13 = .ok (.aload_n 0, 1) := by decide +kernel
theorem zd_Chart_cellsOf_14 : decode zb_Chart_cellsOf 14 = .ok (.getfield 11, 3) := by decide +kernel
theorem zd_Chart_cellsOf_17 : decode zb_Chart_cellsOf 17 = .ok (.iload_n 1, 1) := by decide +kernel
theorem zd_Chart_cellsOf_18 : decode zb_Chart_cellsOf 18 = .ok (.iaload, 1) := by decide +kernel
theorem zd_Chart_cellsOf_19 : decode zb_Chart_cellsOf 19 = .ok (.ishl, 1) := by decide +kernel
theorem zd_Chart_cellsOf_20 : decode zb_Chart_cellsOf 20 = .ok (.ior, 1) := by decide +kernel
theorem zd_Chart_cellsOf_21 : decode zb_Chart_cellsOf 21 = .ok (.istore_n 2, 1) := by decide +kernel
theorem zd_Chart_cellsOf_22 : decode zb_Chart_cellsOf 22 = .ok (.aload_n 0, 1) := by decide +kernel
theorem zd_Chart_cellsOf_23 : decode zb_Chart_cellsOf 23 = .ok (.getfield 18, 3) := by decide +kernel
theorem zd_Chart_cellsOf_26 : decode zb_Chart_cellsOf 26 = .ok (.iload_n 1, 1) := by decide +kernel
theorem zd_Chart_cellsOf_27 : decode zb_Chart_cellsOf 27 = .ok (.iaload, 1) := by decide +kernel
theorem zd_Chart_cellsOf_28 : decode zb_Chart_cellsOf 28 = .ok (.bipush 12, 2) := by decide +kernel
theorem zd_Chart_cellsOf_30 : decode zb_Chart_cellsOf 30 = .ok (.if_icmp .ge 14, 3) := by decide +kernel
theorem zd_Chart_cellsOf_33 : decode zb_Chart_cellsOf 33 = .ok (.iload_n 2, 1) := by decide +kernel
theorem zd_Chart_cellsOf_34 : decode zb_Chart_cellsOf 34 = .ok (.iconst 1, 1) := by decide +kernel
theorem zd_Chart_cellsOf_35 : decode zb_Chart_cellsOf 35 = .ok (.aload_n 0, 1) := by decide +kernel
theorem zd_Chart_cellsOf_36 : decode zb_Chart_cellsOf 36 = .ok (.getfield 15, 3) := by decide +kernel
theorem zd_Chart_cellsOf_39 : decode zb_Chart_cellsOf 39 = .ok (.iload_n 1, 1) := by decide +kernel
theorem zd_Chart_cellsOf_40 : decode zb_Chart_cellsOf 40 = .ok (.iaload, 1) := by decide +kernel
theorem zd_Chart_cellsOf_41 : decode zb_Chart_cellsOf 41 = .ok (.ishl, 1) := by decide +kernel
theorem zd_Chart_cellsOf_42 : decode zb_Chart_cellsOf 42 = .ok (.ior, 1) := by decide +kernel
theorem zd_Chart_cellsOf_43 : decode zb_Chart_cellsOf 43 = .ok (.istore_n 2, 1) := by decide +kernel
theorem zd_Chart_cellsOf_44 : decode zb_Chart_cellsOf 44 = .ok (.iload_n 2, 1) := by decide +kernel
theorem zd_Chart_cellsOf_45 : decode zb_Chart_cellsOf 45 = .ok (.ireturn, 1) := by decide +kernel
set_option maxHeartbeats 4000000 in
theorem zl_Chart_cellsOf_L44 {p : Program} {l : Launch} {e : Env} {s : State} {m : MethodId} {args : Array Value} {below : List Frame} {meth : Method} {c : Code} {D : va_G} {cA : Nat → ClassId} {ad : Nat → Nat} {A : Nat → Prop} (B : zu_B p s m args c zb_Chart_cellsOf 3 "StonePost$Chart" D cA ad A) (hret : meth.sig.returnType = (some .int)) (hlk : meth.locks = false) {X : IX} {Y : LX} {res : Int32} (x2 : Int32) (H : Heap) (locs : List Loc) (ls : Array Slot) (hP : va_P D zu_cl (zu_pic cA ad X Y) H) (hS : va_S A s.heap H locs) (hl : lv_has ls 3 [(2, .int x2)]) (hf : fn_Chart_cellsOf_L44 X x2 = some res) : W p l e zR_Chart_cellsOf s m args below meth c H locs 0 0 (MQ below (zu_Qi D cA ad A res X Y) args s 0 0 A) (F0 m 44 ls []) := by
  obtain ⟨hx, hb, hml, hown, hts, hST⟩ := id B
  unfold fn_Chart_cellsOf_L44 at hf
  refine lv_iload_n hx hb zd_Chart_cellsOf_44 rfl (lv_at hl 0 rfl) ?_
  obtain rfl := Option.some.inj hf
  exact zr_iret hx hb hret hlk hP hS zd_Chart_cellsOf_45
set_option maxHeartbeats 4000000 in
theorem zl_Chart_cellsOf_L22 {p : Program} {l : Launch} {e : Env} {s : State} {m : MethodId} {args : Array Value} {below : List Frame} {meth : Method} {c : Code} {D : va_G} {cA : Nat → ClassId} {ad : Nat → Nat} {A : Nat → Prop} (B : zu_B p s m args c zb_Chart_cellsOf 3 "StonePost$Chart" D cA ad A) (hret : meth.sig.returnType = (some .int)) (hlk : meth.locks = false) {X : IX} {Y : LX} {res : Int32} (x1 : Int32) (x2 : Int32) (H : Heap) (locs : List Loc) (ls : Array Slot) (hP : va_P D zu_cl (zu_pic cA ad X Y) H) (hS : va_S A s.heap H locs) (hl : lv_has ls 3 [(0, .ref (ad 1)), (1, .int x1), (2, .int x2)]) (hf : fn_Chart_cellsOf_L22 X x1 x2 = some res) : W p l e zR_Chart_cellsOf s m args below meth c H locs 0 0 (MQ below (zu_Qi D cA ad A res X Y) args s 0 0 A) (F0 m 22 ls []) := by
  obtain ⟨hx, hb, hml, hown, hts, hST⟩ := id B
  unfold fn_Chart_cellsOf_L22 at hf
  refine lv_aload_n hx hb zd_Chart_cellsOf_22 rfl (lv_at hl 0 rfl) ?_
  refine zg_Chart_twelfths B hP rfl zq_110 zd_Chart_cellsOf_23 ?_
  refine lv_iload_n hx hb zd_Chart_cellsOf_26 rfl (lv_at hl 1 rfl) ?_
  obtain ⟨hg5, hf⟩ := zu_gd_e hf
  refine zr_iald rfl B hP rfl (by decide) rfl hg5 zd_Chart_cellsOf_27 ?_
  refine lv_bipush (v := 12) hx hb zd_Chart_cellsOf_28 (by decide) ?_
  refine lv_icmp_ge (tgt := 44) hx hb zd_Chart_cellsOf_30 (by decide) (fun c6 => ?_) (fun c6 => ?_)
  · have hf := zu_t c6 hf
    exact zl_Chart_cellsOf_L44 B hret hlk x2 _ _ _ hP hS (lv_sub hl [2] rfl) hf
  · have hf := zu_f c6 hf
    refine lv_iload_n hx hb zd_Chart_cellsOf_33 rfl (lv_at hl 2 rfl) ?_
    refine lv_iconst (v := 1) hx hb zd_Chart_cellsOf_34 (by decide) ?_
    refine lv_aload_n hx hb zd_Chart_cellsOf_35 rfl (lv_at hl 0 rfl) ?_
    refine zg_Chart_second B hP rfl zq_108 zd_Chart_cellsOf_36 ?_
    refine lv_iload_n hx hb zd_Chart_cellsOf_39 rfl (lv_at hl 1 rfl) ?_
    obtain ⟨hg7, hf⟩ := zu_gd_e hf
    refine zr_iald rfl B hP rfl (by decide) rfl hg7 zd_Chart_cellsOf_40 ?_
    refine lv_ishl hx hb zd_Chart_cellsOf_41 ?_
    refine lv_ior hx hb zd_Chart_cellsOf_42 ?_
    refine zr_nxi hf (fun v8 hf => ?_)
    refine lv_istore_n (lv' := [(2, .int v8), (0, .ref (ad 1)), (1, .int x1)]) hx hb zd_Chart_cellsOf_43 rfl hl (by decide) rfl (fun ls hl => ?_)
    exact zl_Chart_cellsOf_L44 B hret hlk v8 _ _ _ hP hS (lv_sub hl [0] rfl) hf
set_option maxHeartbeats 4000000 in
theorem zl_Chart_cellsOf {p : Program} {l : Launch} {e : Env} {s : State} {m : MethodId} {args : Array Value} {below : List Frame} {meth : Method} {c : Code} {D : va_G} {cA : Nat → ClassId} {ad : Nat → Nat} {A : Nat → Prop} (B : zu_B p s m args c zb_Chart_cellsOf 3 "StonePost$Chart" D cA ad A) (hret : meth.sig.returnType = (some .int)) (hlk : meth.locks = false) {X : IX} {Y : LX} {res : Int32} {a1 : Int32} (H : Heap) (locs : List Loc) (ls : Array Slot) (hP : va_P D zu_cl (zu_pic cA ad X Y) H) (hS : va_S A s.heap H locs) (hl : lv_has ls 3 [(0, .ref (ad 1)), (1, .int a1)]) (hf : fn_Chart_cellsOf X a1 = some res) : W p l e zR_Chart_cellsOf s m args below meth c H locs 0 0 (MQ below (zu_Qi D cA ad A res X Y) args s 0 0 A) (F0 m 0 ls []) := by
  obtain ⟨hx, hb, hml, hown, hts, hST⟩ := id B
  unfold fn_Chart_cellsOf at hf
  refine lv_iconst (v := 0) hx hb zd_Chart_cellsOf_0 (by decide) ?_
  refine lv_istore_n (lv' := [(2, .int (0 : Int32)), (0, .ref (ad 1)), (1, .int a1)]) hx hb zd_Chart_cellsOf_1 rfl hl (by decide) rfl (fun ls hl => ?_)
  refine lv_aload_n hx hb zd_Chart_cellsOf_2 rfl (lv_at hl 1 rfl) ?_
  refine zg_Chart_twelfths B hP rfl zq_110 zd_Chart_cellsOf_3 ?_
  refine lv_iload_n hx hb zd_Chart_cellsOf_6 rfl (lv_at hl 2 rfl) ?_
  obtain ⟨hg1, hf⟩ := zu_gd_e hf
  refine zr_iald rfl B hP rfl (by decide) rfl hg1 zd_Chart_cellsOf_7 ?_
  refine lv_if_le (tgt := 22) hx hb zd_Chart_cellsOf_8 (by decide) (fun c2 => ?_) (fun c2 => ?_)
  · have hf := zu_t c2 hf
    exact zl_Chart_cellsOf_L22 B hret hlk a1 (0 : Int32) _ _ _ hP hS (lv_sub hl [1, 2, 0] rfl) hf
  · have hf := zu_f c2 hf
    refine lv_iload_n hx hb zd_Chart_cellsOf_11 rfl (lv_at hl 0 rfl) ?_
    refine lv_iconst (v := 1) hx hb zd_Chart_cellsOf_12 (by decide) ?_
    refine lv_aload_n hx hb zd_Chart_cellsOf_13 rfl (lv_at hl 1 rfl) ?_
    refine zg_Chart_first B hP rfl zq_106 zd_Chart_cellsOf_14 ?_
    refine lv_iload_n hx hb zd_Chart_cellsOf_17 rfl (lv_at hl 2 rfl) ?_
    obtain ⟨hg3, hf⟩ := zu_gd_e hf
    refine zr_iald rfl B hP rfl (by decide) rfl hg3 zd_Chart_cellsOf_18 ?_
    refine lv_ishl hx hb zd_Chart_cellsOf_19 ?_
    refine lv_ior hx hb zd_Chart_cellsOf_20 ?_
    refine zr_nxi hf (fun v4 hf => ?_)
    refine lv_istore_n (lv' := [(2, .int v4), (0, .ref (ad 1)), (1, .int a1)]) hx hb zd_Chart_cellsOf_21 rfl hl (by decide) rfl (fun ls hl => ?_)
    exact zl_Chart_cellsOf_L22 B hret hlk a1 v4 _ _ _ hP hS (lv_sub hl [1, 2, 0] rfl) hf
theorem zC_Chart_cellsOf (l : Launch) {D : va_G} {cA : Nat → ClassId} {ad : Nat → Nat} {A : Nat → Prop} {a1 : Int32} {X : IX} {Y : LX} {res : Int32} (hf : fn_Chart_cellsOf X a1 = some res) : Met l zm_Chart_cellsOf (zu_ws zm_Chart_cellsOf zb_Chart_cellsOf 3 (some .int)) zR_Chart_cellsOf (va_Pc [.ref (ad 1), .int a1] (zu_Pre D cA ad A X Y)) (zu_Qi D cA ad A res X Y) 0 0 A := by
  refine Met.ofW (cc := zb_Chart_cellsOf) (maxL := 3) (ret := (some .int)) (by decide +kernel) rfl ?_
  intro p e s m args below meth c s₁ B0 hml hv
  obtain ⟨rfl, hP, hST⟩ := hv
  have B : zu_B p s m _ c zb_Chart_cellsOf 3 "StonePost$Chart" D cA ad A := ⟨B0.exec, B0.bytes, hml, findClass_of_methodNamed B0.named, (fun w hw => atoms_spec (ws := zu_ws zm_Chart_cellsOf zb_Chart_cellsOf 3 (some .int)) B0.pre w (List.mem_cons_of_mem _ hw)), hST⟩
  have hl := lv_entry ([.ref (ad 1), .int a1]) (n := 3) (Nat.le_of_ble_eq_true rfl)
  rw [lg_entry_eq]
  generalize (lg_sl ([.ref (ad 1), .int a1]) ++ List.replicate (3 - (lg_sl ([.ref (ad 1), .int a1])).length) Slot.unset).toArray = ls at hl ⊢
  exact zl_Chart_cellsOf B B0.returns B0.notSynchronized s.heap [] ls hP va_S.rf hl  hf
theorem zw_Chart_cellsOf {p : Program} {l : Launch} {e : Env} {R : Room} {s : State} {m : MethodId} {args : Array Value} {below : List Frame} {meth : Method} {c : Code} {H : Heap} {locs : List Loc} {cells slots : Nat} {Q : State → Prop} {cc : ByteArray} {pc nL : Nat} {ls : Array Slot} {rest st0 : List Value} {D : va_G} {cA : Nat → ClassId} {ad : Nat → Nat} {A : Nat → Prop} {X : IX} {Y : LX} {own : String} {index : Nat} {a1 : Int32} {v1 : Int32} (B : zu_B p s m args c cc nL own D cA ad A) (hP : va_P D zu_cl (zu_pic cA ad X Y) H) (hS : va_S A s.heap H locs) (hq : fn_Chart_cellsOf X a1 = some v1) (m1 : Cond.methodLink own index zm_Chart_cellsOf ∈ zu_TB) (hR1 : 0 + 1 ≤ R.frames) (hR2 : 8 + (3 + 11) + 0 ≤ R.locals) (hsz : ls.size = nL) (hst : st0 = .int a1 :: .ref (ad 1) :: rest) (hw : (rest.map fun v => v.category).sum ≤ 8) (hdg : decode cc pc = .ok (.invokevirtual index, 3)) (h00 : cells ≤ R.cells ∧ slots ≤ R.slots) (kk : ∀ (H1 : Heap) (locs1 : List Loc), va_P D zu_cl (zu_pic cA ad X Y) H1 → va_S A s.heap H1 locs1 → W p l e R s m args below meth c H1 locs1 cells slots Q (F0 m (pc + 3) ls (.int v1 :: rest))) : W p l e R s m args below meth c H locs cells slots Q (F0 m pc ls st0) := by
  subst hst
  exact zr_cVi (As := [.int a1]) (rest := rest) (n := 1) (C := "StonePost$Chart") (T := zt_Chart) (N := 9) B hP hS (zC_Chart_cellsOf l  hq) (K := 2) rfl (by decide) (by decide) rfl rfl m1 zq_481 zqP_13 zq_5 zq_482 (by decide +kernel) ⟨hR1, hR2⟩ rfl rfl rfl hsz rfl hw hdg h00 kk
abbrev zR_Chart_after : Room := { frames := 3, cells := 0, slots := 0, locals := 68 }
theorem zd_Chart_after_0 : decode zb_Chart_after 0 = .ok (.iconst 0, 1) := by decide +kernel
theorem zd_Chart_after_1 : decode zb_Chart_after 1 = .ok (.istore_n 3, 1) := by decide +kernel
theorem zd_Chart_after_2 : decode zb_Chart_after 2 = .ok (.iconst 0, 1) := by decide +kernel
theorem zd_Chart_after_3 : decode zb_Chart_after 3 = .ok (.istore 4, 2) := by decide +kernel
theorem zd_Chart_after_5 : decode zb_Chart_after 5 = .ok (.iload 4, 2) := by decide +kernel
theorem zd_Chart_after_7 : decode zb_Chart_after 7 = .ok (.bipush 24, 2) := by decide +kernel
theorem zd_Chart_after_9 : decode zb_Chart_after 9 = .ok (.if_icmp .ge 37, 3) := by decide +kernel
theorem zd_Chart_after_12 : decode zb_Chart_after 12 = .ok (.iload_n 1, 1) := by decide +kernel
theorem zd_Chart_after_13 : decode zb_Chart_after 13 = .ok (.iload 4, 2) := by decide +kernel
theorem zd_Chart_after_15 : decode zb_Chart_after 15 = .ok (.ishr, 1) := by decide +kernel
theorem zd_Chart_after_16 : decode zb_Chart_after 16 = .ok (.iconst 1, 1) := by decide +kernel
theorem zd_Chart_after_17 : decode zb_Chart_after 17 = .ok (.iand, 1) := by decide +kernel
theorem zd_Chart_after_18 : decode zb_Chart_after 18 = .ok (.iconst 1, 1) := by decide +kernel
theorem zd_Chart_after_19 : decode zb_Chart_after 19 = .ok (.if_icmp .ne 21, 3) := by decide +kernel
theorem zd_Chart_after_22 : decode zb_Chart_after 22 = .ok (.iload_n 3, 1) := by decide +kernel
theorem zd_Chart_after_23 : decode zb_Chart_after 23 = .ok (.aload_n 0, 1) := by decide +kernel
theorem zd_Chart_after_24 : decode zb_Chart_after 24 = .ok (.aload_n 0, 1) := by decide +kernel
theorem zd_Chart_after_25 : decode zb_Chart_after 25 = .ok (.iload 4, 2) := by decide +kernel
theorem zd_Chart_after_27 : decode zb_Chart_after 27 = .ok (.iload_n 2, 1) := by decide +kernel
theorem zd_Chart_after_28 : decode zb_Chart_after 28 = .ok (.aload_n 0, 1) := by decide +kernel
theorem zd_Chart_after_29 : decode zb_Chart_after 29 = .ok (.getfield 37, 3) := by decide +kernel
theorem zd_Chart_after_32 : decode zb_Chart_after 32 = .ok (.invokevirtual 105, 3) := by decide +kernel
theorem zd_Chart_after_35 : decode zb_Chart_after 35 = .ok (.invokevirtual 108, 3) := by decide +kernel
theorem zd_Chart_after_38 : decode zb_Chart_after 38 = .ok (.ior, 1) := by decide +kernel
theorem zd_Chart_after_39 : decode zb_Chart_after 39 = .ok (.istore_n 3, 1) := by decide +kernel
theorem zd_Chart_after_40 : decode zb_Chart_after 40 = .ok (.iinc 4 1, 3) := by decide +kernel
theorem zd_Chart_after_43 : decode zb_Chart_after 43 = .ok (.goto (-38), 3) := by decide +kernel
theorem zd_Chart_after_46 : decode zb_Chart_after 46 = .ok (.iload_n 3, 1) := by decide +kernel
theorem zd_Chart_after_47 : decode zb_Chart_after 47 = .ok (.ireturn, 1) := by decide +kernel
set_option maxHeartbeats 4000000 in
theorem zl_Chart_after_L40 {p : Program} {l : Launch} {e : Env} {s : State} {m : MethodId} {args : Array Value} {below : List Frame} {meth : Method} {c : Code} {D : va_G} {cA : Nat → ClassId} {ad : Nat → Nat} {A : Nat → Prop} (B : zu_B p s m args c zb_Chart_after 5 "StonePost$Chart" D cA ad A) (hret : meth.sig.returnType = (some .int)) (hlk : meth.locks = false) {X : IX} {Y : LX} {res : Int32} {k5 : Int32 → Int32 → Int32 → Int32 → Option Int32} (hk5 : ∀ (x1 : Int32) (x2 : Int32) (x3 : Int32) (x4 : Int32) (H : Heap) (locs : List Loc) (ls : Array Slot), va_P D zu_cl (zu_pic cA ad X Y) H → va_S A s.heap H locs → lv_has ls 5 [(0, .ref (ad 1)), (1, .int x1), (2, .int x2), (3, .int x3), (4, .int x4)] → k5 x1 x2 x3 x4 = some res → W p l e zR_Chart_after s m args below meth c H locs 0 0 (MQ below (zu_Qi D cA ad A res X Y) args s 0 0 A) (F0 m 5 ls [])) (x1 : Int32) (x2 : Int32) (x3 : Int32) (x4 : Int32) (H : Heap) (locs : List Loc) (ls : Array Slot) (hP : va_P D zu_cl (zu_pic cA ad X Y) H) (hS : va_S A s.heap H locs) (hl : lv_has ls 5 [(0, .ref (ad 1)), (1, .int x1), (2, .int x2), (3, .int x3), (4, .int x4)]) (hf : fn_Chart_after_L40 X k5 x1 x2 x3 x4 = some res) : W p l e zR_Chart_after s m args below meth c H locs 0 0 (MQ below (zu_Qi D cA ad A res X Y) args s 0 0 A) (F0 m 40 ls []) := by
  obtain ⟨hx, hb, hml, hown, hts, hST⟩ := id B
  unfold fn_Chart_after_L40 at hf
  obtain ⟨v8, ev8, hf⟩ := zu_nx_e hf
  refine lv_iinc (v := v8) (lv' := [(4, .int v8), (0, .ref (ad 1)), (1, .int x1), (2, .int x2), (3, .int x3)]) hx hb zd_Chart_after_40 hl (k := 4) rfl (by rw [ev8]; rfl) (by decide) rfl (fun ls hl => ?_)
  clear ev8
  refine lv_goto (tgt := 5) hx hb zd_Chart_after_43 (by decide) ?_
  exact hk5 x1 x2 x3 v8 _ _ _ hP hS (lv_sub hl [1, 2, 3, 4, 0] rfl) hf
set_option maxHeartbeats 4000000 in
theorem zl_Chart_after_B5 {p : Program} {l : Launch} {e : Env} {s : State} {m : MethodId} {args : Array Value} {below : List Frame} {meth : Method} {c : Code} {D : va_G} {cA : Nat → ClassId} {ad : Nat → Nat} {A : Nat → Prop} (B : zu_B p s m args c zb_Chart_after 5 "StonePost$Chart" D cA ad A) (hret : meth.sig.returnType = (some .int)) (hlk : meth.locks = false) {X : IX} {Y : LX} {res : Int32} {k5 : Int32 → Int32 → Int32 → Int32 → Option Int32} (hk5 : ∀ (x1 : Int32) (x2 : Int32) (x3 : Int32) (x4 : Int32) (H : Heap) (locs : List Loc) (ls : Array Slot), va_P D zu_cl (zu_pic cA ad X Y) H → va_S A s.heap H locs → lv_has ls 5 [(0, .ref (ad 1)), (1, .int x1), (2, .int x2), (3, .int x3), (4, .int x4)] → k5 x1 x2 x3 x4 = some res → W p l e zR_Chart_after s m args below meth c H locs 0 0 (MQ below (zu_Qi D cA ad A res X Y) args s 0 0 A) (F0 m 5 ls [])) (x1 : Int32) (x2 : Int32) (x3 : Int32) (x4 : Int32) (H : Heap) (locs : List Loc) (ls : Array Slot) (hP : va_P D zu_cl (zu_pic cA ad X Y) H) (hS : va_S A s.heap H locs) (hl : lv_has ls 5 [(0, .ref (ad 1)), (1, .int x1), (2, .int x2), (3, .int x3), (4, .int x4)]) (hf : fn_Chart_after_B5 X k5 x1 x2 x3 x4 = some res) : W p l e zR_Chart_after s m args below meth c H locs 0 0 (MQ below (zu_Qi D cA ad A res X Y) args s 0 0 A) (F0 m 5 ls []) := by
  obtain ⟨hx, hb, hml, hown, hts, hST⟩ := id B
  unfold fn_Chart_after_B5 at hf
  refine lv_iload hx hb zd_Chart_after_5 (lv_at hl 4 rfl) ?_
  refine lv_bipush (v := 24) hx hb zd_Chart_after_7 (by decide) ?_
  refine lv_icmp_ge (tgt := 46) hx hb zd_Chart_after_9 (by decide) (fun c1 => ?_) (fun c1 => ?_)
  · have hf := zu_t c1 hf
    refine lv_iload_n hx hb zd_Chart_after_46 rfl (lv_at hl 3 rfl) ?_
    obtain rfl := Option.some.inj hf
    exact zr_iret hx hb hret hlk hP hS zd_Chart_after_47
  · have hf := zu_f c1 hf
    refine lv_iload_n hx hb zd_Chart_after_12 rfl (lv_at hl 1 rfl) ?_
    refine lv_iload hx hb zd_Chart_after_13 (lv_at hl 4 rfl) ?_
    refine lv_ishr hx hb zd_Chart_after_15 ?_
    refine lv_iconst (v := 1) hx hb zd_Chart_after_16 (by decide) ?_
    refine lv_iand hx hb zd_Chart_after_17 ?_
    refine lv_iconst (v := 1) hx hb zd_Chart_after_18 (by decide) ?_
    refine lv_icmp_ne (tgt := 40) hx hb zd_Chart_after_19 (by decide) (fun c2 => ?_) (fun c2 => ?_)
    · have hf := zu_f c2 hf
      exact zl_Chart_after_L40 B hret hlk hk5 x1 x2 x3 x4 _ _ _ hP hS (lv_sub hl [0, 1, 2, 3, 4] rfl) hf
    · have hf := zu_t c2 hf
      refine lv_iload_n hx hb zd_Chart_after_22 rfl (lv_at hl 3 rfl) ?_
      refine lv_aload_n hx hb zd_Chart_after_23 rfl (lv_at hl 0 rfl) ?_
      refine lv_aload_n hx hb zd_Chart_after_24 rfl (lv_at hl 0 rfl) ?_
      refine lv_iload hx hb zd_Chart_after_25 (lv_at hl 4 rfl) ?_
      refine lv_iload_n hx hb zd_Chart_after_27 rfl (lv_at hl 2 rfl) ?_
      refine lv_aload_n hx hb zd_Chart_after_28 rfl (lv_at hl 0 rfl) ?_
      refine zg_Chart_choices B hP rfl zq_117 zd_Chart_after_29 ?_
      obtain ⟨v3, hq4, hf⟩ := zu_b1_e hf
      refine zw_Chart_chosenRow (rest := [.ref (ad 1), .int x3]) B hP hS hq4 zq_457 (Nat.le_of_ble_eq_true rfl) (Nat.le_of_ble_eq_true rfl) hl.1 rfl (Nat.le_of_ble_eq_true rfl) zd_Chart_after_32 (by decide) (fun H locs hP hS => ?_)
      clear hq4
      obtain ⟨v5, hq6, hf⟩ := zu_b1_e hf
      refine zw_Chart_cellsOf (rest := [.int x3]) B hP hS hq6 zq_479 (Nat.le_of_ble_eq_true rfl) (Nat.le_of_ble_eq_true rfl) hl.1 rfl (Nat.le_of_ble_eq_true rfl) zd_Chart_after_35 (by decide) (fun H locs hP hS => ?_)
      clear hq6
      refine lv_ior hx hb zd_Chart_after_38 ?_
      refine zr_nxi hf (fun v7 hf => ?_)
      refine lv_istore_n (lv' := [(3, .int v7), (0, .ref (ad 1)), (1, .int x1), (2, .int x2), (4, .int x4)]) hx hb zd_Chart_after_39 rfl hl (by decide) rfl (fun ls hl => ?_)
      exact zl_Chart_after_L40 B hret hlk hk5 x1 x2 v7 x4 _ _ _ hP hS (lv_sub hl [1, 2, 3, 0, 4] rfl) hf
theorem zl_Chart_after_L5 {p : Program} {l : Launch} {e : Env} {s : State} {m : MethodId} {args : Array Value} {below : List Frame} {meth : Method} {c : Code} {D : va_G} {cA : Nat → ClassId} {ad : Nat → Nat} {A : Nat → Prop} (B : zu_B p s m args c zb_Chart_after 5 "StonePost$Chart" D cA ad A) (hret : meth.sig.returnType = (some .int)) (hlk : meth.locks = false) {X : IX} {Y : LX} {res : Int32} : ∀ (n : Nat) (x1 : Int32) (x2 : Int32) (x3 : Int32) (x4 : Int32) (H : Heap) (locs : List Loc) (ls : Array Slot), va_P D zu_cl (zu_pic cA ad X Y) H → va_S A s.heap H locs → lv_has ls 5 [(0, .ref (ad 1)), (1, .int x1), (2, .int x2), (3, .int x3), (4, .int x4)] → fn_Chart_after_L5 X n x1 x2 x3 x4 = some res → W p l e zR_Chart_after s m args below meth c H locs 0 0 (MQ below (zu_Qi D cA ad A res X Y) args s 0 0 A) (F0 m 5 ls []) := by
  intro n
  induction n with
  | zero =>
    intro x1 x2 x3 x4 H locs ls hP hS hl hf
    exact (Option.some_ne_none _ hf.symm).elim
  | succ n ih =>
    intro x1 x2 x3 x4 H locs ls hP hS hl hf
    exact zl_Chart_after_B5 B hret hlk ih x1 x2 x3 x4 H locs ls hP hS hl  hf
set_option maxHeartbeats 4000000 in
theorem zl_Chart_after {p : Program} {l : Launch} {e : Env} {s : State} {m : MethodId} {args : Array Value} {below : List Frame} {meth : Method} {c : Code} {D : va_G} {cA : Nat → ClassId} {ad : Nat → Nat} {A : Nat → Prop} (B : zu_B p s m args c zb_Chart_after 5 "StonePost$Chart" D cA ad A) (hret : meth.sig.returnType = (some .int)) (hlk : meth.locks = false) {X : IX} {Y : LX} {res : Int32} {a1 : Int32} {a2 : Int32} (H : Heap) (locs : List Loc) (ls : Array Slot) (hP : va_P D zu_cl (zu_pic cA ad X Y) H) (hS : va_S A s.heap H locs) (hl : lv_has ls 5 [(0, .ref (ad 1)), (1, .int a1), (2, .int a2)]) (hf : fn_Chart_after X a1 a2 = some res) : W p l e zR_Chart_after s m args below meth c H locs 0 0 (MQ below (zu_Qi D cA ad A res X Y) args s 0 0 A) (F0 m 0 ls []) := by
  obtain ⟨hx, hb, hml, hown, hts, hST⟩ := id B
  unfold fn_Chart_after at hf
  refine lv_iconst (v := 0) hx hb zd_Chart_after_0 (by decide) ?_
  refine lv_istore_n (lv' := [(3, .int (0 : Int32)), (0, .ref (ad 1)), (1, .int a1), (2, .int a2)]) hx hb zd_Chart_after_1 rfl hl (by decide) rfl (fun ls hl => ?_)
  refine lv_iconst (v := 0) hx hb zd_Chart_after_2 (by decide) ?_
  refine lv_istore (lv' := [(4, .int (0 : Int32)), (3, .int (0 : Int32)), (0, .ref (ad 1)), (1, .int a1), (2, .int a2)]) hx hb zd_Chart_after_3 hl (by decide) rfl (fun ls hl => ?_)
  exact zl_Chart_after_L5 B hret hlk 400 a1 a2 (0 : Int32) (0 : Int32) _ _ _ hP hS (lv_sub hl [2, 3, 4, 1, 0] rfl) hf
theorem zC_Chart_after (l : Launch) {D : va_G} {cA : Nat → ClassId} {ad : Nat → Nat} {A : Nat → Prop} {a1 : Int32} {a2 : Int32} {X : IX} {Y : LX} {res : Int32} (hf : fn_Chart_after X a1 a2 = some res) : Met l zm_Chart_after (zu_ws zm_Chart_after zb_Chart_after 5 (some .int)) zR_Chart_after (va_Pc [.ref (ad 1), .int a1, .int a2] (zu_Pre D cA ad A X Y)) (zu_Qi D cA ad A res X Y) 0 0 A := by
  refine Met.ofW (cc := zb_Chart_after) (maxL := 5) (ret := (some .int)) (by decide +kernel) rfl ?_
  intro p e s m args below meth c s₁ B0 hml hv
  obtain ⟨rfl, hP, hST⟩ := hv
  have B : zu_B p s m _ c zb_Chart_after 5 "StonePost$Chart" D cA ad A := ⟨B0.exec, B0.bytes, hml, findClass_of_methodNamed B0.named, (fun w hw => atoms_spec (ws := zu_ws zm_Chart_after zb_Chart_after 5 (some .int)) B0.pre w (List.mem_cons_of_mem _ hw)), hST⟩
  have hl := lv_entry ([.ref (ad 1), .int a1, .int a2]) (n := 5) (Nat.le_of_ble_eq_true rfl)
  rw [lg_entry_eq]
  generalize (lg_sl ([.ref (ad 1), .int a1, .int a2]) ++ List.replicate (5 - (lg_sl ([.ref (ad 1), .int a1, .int a2])).length) Slot.unset).toArray = ls at hl ⊢
  exact zl_Chart_after B B0.returns B0.notSynchronized s.heap [] ls hP va_S.rf hl  hf
theorem zw_Chart_after {p : Program} {l : Launch} {e : Env} {R : Room} {s : State} {m : MethodId} {args : Array Value} {below : List Frame} {meth : Method} {c : Code} {H : Heap} {locs : List Loc} {cells slots : Nat} {Q : State → Prop} {cc : ByteArray} {pc nL : Nat} {ls : Array Slot} {rest st0 : List Value} {D : va_G} {cA : Nat → ClassId} {ad : Nat → Nat} {A : Nat → Prop} {X : IX} {Y : LX} {own : String} {index : Nat} {a1 : Int32} {a2 : Int32} {v1 : Int32} (B : zu_B p s m args c cc nL own D cA ad A) (hP : va_P D zu_cl (zu_pic cA ad X Y) H) (hS : va_S A s.heap H locs) (hq : fn_Chart_after X a1 a2 = some v1) (m1 : Cond.methodLink own index zm_Chart_after ∈ zu_TB) (hR1 : 3 + 1 ≤ R.frames) (hR2 : 8 + (5 + 11) + 68 ≤ R.locals) (hsz : ls.size = nL) (hst : st0 = .int a2 :: .int a1 :: .ref (ad 1) :: rest) (hw : (rest.map fun v => v.category).sum ≤ 8) (hdg : decode cc pc = .ok (.invokevirtual index, 3)) (h00 : cells ≤ R.cells ∧ slots ≤ R.slots) (kk : ∀ (H1 : Heap) (locs1 : List Loc), va_P D zu_cl (zu_pic cA ad X Y) H1 → va_S A s.heap H1 locs1 → W p l e R s m args below meth c H1 locs1 cells slots Q (F0 m (pc + 3) ls (.int v1 :: rest))) : W p l e R s m args below meth c H locs cells slots Q (F0 m pc ls st0) := by
  subst hst
  exact zr_cVi (As := [.int a1, .int a2]) (rest := rest) (n := 2) (C := "StonePost$Chart") (T := zt_Chart) (N := 9) B hP hS (zC_Chart_after l  hq) (K := 2) rfl (by decide) (by decide) rfl rfl m1 zq_484 zq_485 zq_5 zq_486 (by decide +kernel) ⟨hR1, hR2⟩ rfl rfl rfl hsz rfl hw hdg h00 kk
abbrev zR_Chart_afterAny : Room := { frames := 2, cells := 0, slots := 0, locals := 44 }
theorem zd_Chart_afterAny_0 : decode zb_Chart_afterAny 0 = .ok (.iconst 0, 1) := by decide +kernel
theorem zd_Chart_afterAny_1 : decode zb_Chart_afterAny 1 = .ok (.istore_n 3, 1) := by decide +kernel
theorem zd_Chart_afterAny_2 : decode zb_Chart_afterAny 2 = .ok (.iconst 0, 1) := by decide +kernel
theorem zd_Chart_afterAny_3 : decode zb_Chart_afterAny 3 = .ok (.istore 4, 2) := by decide +kernel
theorem zd_Chart_afterAny_5 : decode zb_Chart_afterAny 5 = .ok (.iload 4, 2) := by decide +kernel
theorem zd_Chart_afterAny_7 : decode zb_Chart_afterAny 7 = .ok (.bipush 24, 2) := by decide +kernel
theorem zd_Chart_afterAny_9 : decode zb_Chart_afterAny 9 = .ok (.if_icmp .ge 47, 3) := by decide +kernel
theorem zd_Chart_afterAny_12 : decode zb_Chart_afterAny 12 = .ok (.iload_n 1, 1) := by decide +kernel
theorem zd_Chart_afterAny_13 : decode zb_Chart_afterAny 13 = .ok (.iload 4, 2) := by decide +kernel
theorem zd_Chart_afterAny_15 : decode zb_Chart_afterAny 15 = .ok (.ishr, 1) := by decide +kernel
theorem zd_Chart_afterAny_16 : decode zb_Chart_afterAny 16 = .ok (.iconst 1, 1) := by decide +kernel
theorem zd_Chart_afterAny_17 : decode zb_Chart_afterAny 17 = .ok (.iand, 1) := by decide +kernel
theorem zd_Chart_afterAny_18 : decode zb_Chart_afterAny 18 = .ok (.iconst 1, 1) := by decide +kernel
theorem zd_Chart_afterAny_19 : decode zb_Chart_afterAny 19 = .ok (.if_icmp .ne 31, 3) := by decide +kernel
theorem zd_Chart_afterAny_22 : decode zb_Chart_afterAny 22 = .ok (.iload_n 3, 1) := by decide +kernel
theorem zd_Chart_afterAny_23 : decode zb_Chart_afterAny 23 = .ok (.aload_n 0, 1) := by decide +kernel
theorem zd_Chart_afterAny_24 : decode zb_Chart_afterAny 24 = .ok (.aload_n 0, 1) := by decide +kernel
theorem zd_Chart_afterAny_25 : decode zb_Chart_afterAny 25 = .ok (.iload 4, 2) := by decide +kernel
theorem zd_Chart_afterAny_27 : decode zb_Chart_afterAny 27 = .ok (.iload_n 2, 1) := by decide +kernel
theorem zd_Chart_afterAny_28 : decode zb_Chart_afterAny 28 = .ok (.iconst 0, 1) := by decide +kernel
theorem zd_Chart_afterAny_29 : decode zb_Chart_afterAny 29 = .ok (.invokevirtual 101, 3) := by decide +kernel
theorem zd_Chart_afterAny_32 : decode zb_Chart_afterAny 32 = .ok (.invokevirtual 108, 3) := by decide +kernel
theorem zd_Chart_afterAny_35 : decode zb_Chart_afterAny 35 = .ok (.aload_n 0, 1) := by decide +kernel
theorem zd_Chart_afterAny_36 : decode zb_Chart_afterAny 36 = .ok (.aload_n 0, 1) := by decide +kernel
theorem zd_Chart_afterAny_37 : decode zb_Chart_afterAny 37 = .ok (.iload 4, 2) := by decide +kernel
theorem zd_Chart_afterAny_39 : decode zb_Chart_afterAny 39 = .ok (.iload_n 2, 1) := by decide +kernel
theorem zd_Chart_afterAny_40 : decode zb_Chart_afterAny 40 = .ok (.iconst 1, 1) := by decide +kernel
theorem zd_Chart_afterAny_41 : decode zb_Chart_afterAny 41 = .ok (.invokevirtual 101, 3) := by decide +kernel
theorem zd_Chart_afterAny_44 : decode zb_Chart_afterAny 44 = .ok (.invokevirtual 108, 3) := by decide +kernel
theorem zd_Chart_afterAny_47 : decode zb_Chart_afterAny 47 = .ok (.ior, 1) := by decide +kernel
theorem zd_Chart_afterAny_48 : decode zb_Chart_afterAny 48 = .ok (.ior, 1) := by decide +kernel
theorem zd_Chart_afterAny_49 : decode zb_Chart_afterAny 49 = .ok (.istore_n 3, 1) := by decide +kernel
theorem zd_Chart_afterAny_50 : decode zb_Chart_afterAny 50 = .ok (.iinc 4 1, 3) := by decide +kernel
theorem zd_Chart_afterAny_53 : decode zb_Chart_afterAny 53 = .ok (.goto (-48), 3) := by decide +kernel
theorem zd_Chart_afterAny_56 : decode zb_Chart_afterAny 56 = .ok (.iload_n 3, 1) := by decide +kernel
theorem zd_Chart_afterAny_57 : decode zb_Chart_afterAny 57 = .ok (.ireturn, 1) := by decide +kernel
set_option maxHeartbeats 4000000 in
theorem zl_Chart_afterAny_L50 {p : Program} {l : Launch} {e : Env} {s : State} {m : MethodId} {args : Array Value} {below : List Frame} {meth : Method} {c : Code} {D : va_G} {cA : Nat → ClassId} {ad : Nat → Nat} {A : Nat → Prop} (B : zu_B p s m args c zb_Chart_afterAny 5 "StonePost$Chart" D cA ad A) (hret : meth.sig.returnType = (some .int)) (hlk : meth.locks = false) {X : IX} {Y : LX} {res : Int32} {k5 : Int32 → Int32 → Int32 → Int32 → Option Int32} (hk5 : ∀ (x1 : Int32) (x2 : Int32) (x3 : Int32) (x4 : Int32) (H : Heap) (locs : List Loc) (ls : Array Slot), va_P D zu_cl (zu_pic cA ad X Y) H → va_S A s.heap H locs → lv_has ls 5 [(0, .ref (ad 1)), (1, .int x1), (2, .int x2), (3, .int x3), (4, .int x4)] → k5 x1 x2 x3 x4 = some res → W p l e zR_Chart_afterAny s m args below meth c H locs 0 0 (MQ below (zu_Qi D cA ad A res X Y) args s 0 0 A) (F0 m 5 ls [])) (x1 : Int32) (x2 : Int32) (x3 : Int32) (x4 : Int32) (H : Heap) (locs : List Loc) (ls : Array Slot) (hP : va_P D zu_cl (zu_pic cA ad X Y) H) (hS : va_S A s.heap H locs) (hl : lv_has ls 5 [(0, .ref (ad 1)), (1, .int x1), (2, .int x2), (3, .int x3), (4, .int x4)]) (hf : fn_Chart_afterAny_L50 X k5 x1 x2 x3 x4 = some res) : W p l e zR_Chart_afterAny s m args below meth c H locs 0 0 (MQ below (zu_Qi D cA ad A res X Y) args s 0 0 A) (F0 m 50 ls []) := by
  obtain ⟨hx, hb, hml, hown, hts, hST⟩ := id B
  unfold fn_Chart_afterAny_L50 at hf
  obtain ⟨v12, ev12, hf⟩ := zu_nx_e hf
  refine lv_iinc (v := v12) (lv' := [(4, .int v12), (0, .ref (ad 1)), (1, .int x1), (2, .int x2), (3, .int x3)]) hx hb zd_Chart_afterAny_50 hl (k := 4) rfl (by rw [ev12]; rfl) (by decide) rfl (fun ls hl => ?_)
  clear ev12
  refine lv_goto (tgt := 5) hx hb zd_Chart_afterAny_53 (by decide) ?_
  exact hk5 x1 x2 x3 v12 _ _ _ hP hS (lv_sub hl [1, 2, 3, 4, 0] rfl) hf
set_option maxHeartbeats 4000000 in
theorem zl_Chart_afterAny_B5 {p : Program} {l : Launch} {e : Env} {s : State} {m : MethodId} {args : Array Value} {below : List Frame} {meth : Method} {c : Code} {D : va_G} {cA : Nat → ClassId} {ad : Nat → Nat} {A : Nat → Prop} (B : zu_B p s m args c zb_Chart_afterAny 5 "StonePost$Chart" D cA ad A) (hret : meth.sig.returnType = (some .int)) (hlk : meth.locks = false) {X : IX} {Y : LX} {res : Int32} {k5 : Int32 → Int32 → Int32 → Int32 → Option Int32} (hk5 : ∀ (x1 : Int32) (x2 : Int32) (x3 : Int32) (x4 : Int32) (H : Heap) (locs : List Loc) (ls : Array Slot), va_P D zu_cl (zu_pic cA ad X Y) H → va_S A s.heap H locs → lv_has ls 5 [(0, .ref (ad 1)), (1, .int x1), (2, .int x2), (3, .int x3), (4, .int x4)] → k5 x1 x2 x3 x4 = some res → W p l e zR_Chart_afterAny s m args below meth c H locs 0 0 (MQ below (zu_Qi D cA ad A res X Y) args s 0 0 A) (F0 m 5 ls [])) (x1 : Int32) (x2 : Int32) (x3 : Int32) (x4 : Int32) (H : Heap) (locs : List Loc) (ls : Array Slot) (hP : va_P D zu_cl (zu_pic cA ad X Y) H) (hS : va_S A s.heap H locs) (hl : lv_has ls 5 [(0, .ref (ad 1)), (1, .int x1), (2, .int x2), (3, .int x3), (4, .int x4)]) (hf : fn_Chart_afterAny_B5 X k5 x1 x2 x3 x4 = some res) : W p l e zR_Chart_afterAny s m args below meth c H locs 0 0 (MQ below (zu_Qi D cA ad A res X Y) args s 0 0 A) (F0 m 5 ls []) := by
  obtain ⟨hx, hb, hml, hown, hts, hST⟩ := id B
  unfold fn_Chart_afterAny_B5 at hf
  refine lv_iload hx hb zd_Chart_afterAny_5 (lv_at hl 4 rfl) ?_
  refine lv_bipush (v := 24) hx hb zd_Chart_afterAny_7 (by decide) ?_
  refine lv_icmp_ge (tgt := 56) hx hb zd_Chart_afterAny_9 (by decide) (fun c1 => ?_) (fun c1 => ?_)
  · have hf := zu_t c1 hf
    refine lv_iload_n hx hb zd_Chart_afterAny_56 rfl (lv_at hl 3 rfl) ?_
    obtain rfl := Option.some.inj hf
    exact zr_iret hx hb hret hlk hP hS zd_Chart_afterAny_57
  · have hf := zu_f c1 hf
    refine lv_iload_n hx hb zd_Chart_afterAny_12 rfl (lv_at hl 1 rfl) ?_
    refine lv_iload hx hb zd_Chart_afterAny_13 (lv_at hl 4 rfl) ?_
    refine lv_ishr hx hb zd_Chart_afterAny_15 ?_
    refine lv_iconst (v := 1) hx hb zd_Chart_afterAny_16 (by decide) ?_
    refine lv_iand hx hb zd_Chart_afterAny_17 ?_
    refine lv_iconst (v := 1) hx hb zd_Chart_afterAny_18 (by decide) ?_
    refine lv_icmp_ne (tgt := 50) hx hb zd_Chart_afterAny_19 (by decide) (fun c2 => ?_) (fun c2 => ?_)
    · have hf := zu_f c2 hf
      exact zl_Chart_afterAny_L50 B hret hlk hk5 x1 x2 x3 x4 _ _ _ hP hS (lv_sub hl [0, 1, 2, 3, 4] rfl) hf
    · have hf := zu_t c2 hf
      refine lv_iload_n hx hb zd_Chart_afterAny_22 rfl (lv_at hl 3 rfl) ?_
      refine lv_aload_n hx hb zd_Chart_afterAny_23 rfl (lv_at hl 0 rfl) ?_
      refine lv_aload_n hx hb zd_Chart_afterAny_24 rfl (lv_at hl 0 rfl) ?_
      refine lv_iload hx hb zd_Chart_afterAny_25 (lv_at hl 4 rfl) ?_
      refine lv_iload_n hx hb zd_Chart_afterAny_27 rfl (lv_at hl 2 rfl) ?_
      refine lv_iconst (v := 0) hx hb zd_Chart_afterAny_28 (by decide) ?_
      obtain ⟨v3, hq4, hf⟩ := zu_b1_e hf
      refine zw_Chart_row (rest := [.ref (ad 1), .int x3]) B hP hS hq4 zq_427 (Nat.le_of_ble_eq_true rfl) (Nat.le_of_ble_eq_true rfl) hl.1 rfl (Nat.le_of_ble_eq_true rfl) zd_Chart_afterAny_29 (by decide) (fun H locs hP hS => ?_)
      clear hq4
      obtain ⟨v5, hq6, hf⟩ := zu_b1_e hf
      refine zw_Chart_cellsOf (rest := [.int x3]) B hP hS hq6 zq_479 (Nat.le_of_ble_eq_true rfl) (Nat.le_of_ble_eq_true rfl) hl.1 rfl (Nat.le_of_ble_eq_true rfl) zd_Chart_afterAny_32 (by decide) (fun H locs hP hS => ?_)
      clear hq6
      refine lv_aload_n hx hb zd_Chart_afterAny_35 rfl (lv_at hl 0 rfl) ?_
      refine lv_aload_n hx hb zd_Chart_afterAny_36 rfl (lv_at hl 0 rfl) ?_
      refine lv_iload hx hb zd_Chart_afterAny_37 (lv_at hl 4 rfl) ?_
      refine lv_iload_n hx hb zd_Chart_afterAny_39 rfl (lv_at hl 2 rfl) ?_
      refine lv_iconst (v := 1) hx hb zd_Chart_afterAny_40 (by decide) ?_
      obtain ⟨v7, hq8, hf⟩ := zu_b1_e hf
      refine zw_Chart_row (rest := [.ref (ad 1), .int v5, .int x3]) B hP hS hq8 zq_427 (Nat.le_of_ble_eq_true rfl) (Nat.le_of_ble_eq_true rfl) hl.1 rfl (Nat.le_of_ble_eq_true rfl) zd_Chart_afterAny_41 (by decide) (fun H locs hP hS => ?_)
      clear hq8
      obtain ⟨v9, hq10, hf⟩ := zu_b1_e hf
      refine zw_Chart_cellsOf (rest := [.int v5, .int x3]) B hP hS hq10 zq_479 (Nat.le_of_ble_eq_true rfl) (Nat.le_of_ble_eq_true rfl) hl.1 rfl (Nat.le_of_ble_eq_true rfl) zd_Chart_afterAny_44 (by decide) (fun H locs hP hS => ?_)
      clear hq10
      refine lv_ior hx hb zd_Chart_afterAny_47 ?_
      refine lv_ior hx hb zd_Chart_afterAny_48 ?_
      refine zr_nxi hf (fun v11 hf => ?_)
      refine lv_istore_n (lv' := [(3, .int v11), (0, .ref (ad 1)), (1, .int x1), (2, .int x2), (4, .int x4)]) hx hb zd_Chart_afterAny_49 rfl hl (by decide) rfl (fun ls hl => ?_)
      exact zl_Chart_afterAny_L50 B hret hlk hk5 x1 x2 v11 x4 _ _ _ hP hS (lv_sub hl [1, 2, 3, 0, 4] rfl) hf
theorem zl_Chart_afterAny_L5 {p : Program} {l : Launch} {e : Env} {s : State} {m : MethodId} {args : Array Value} {below : List Frame} {meth : Method} {c : Code} {D : va_G} {cA : Nat → ClassId} {ad : Nat → Nat} {A : Nat → Prop} (B : zu_B p s m args c zb_Chart_afterAny 5 "StonePost$Chart" D cA ad A) (hret : meth.sig.returnType = (some .int)) (hlk : meth.locks = false) {X : IX} {Y : LX} {res : Int32} : ∀ (n : Nat) (x1 : Int32) (x2 : Int32) (x3 : Int32) (x4 : Int32) (H : Heap) (locs : List Loc) (ls : Array Slot), va_P D zu_cl (zu_pic cA ad X Y) H → va_S A s.heap H locs → lv_has ls 5 [(0, .ref (ad 1)), (1, .int x1), (2, .int x2), (3, .int x3), (4, .int x4)] → fn_Chart_afterAny_L5 X n x1 x2 x3 x4 = some res → W p l e zR_Chart_afterAny s m args below meth c H locs 0 0 (MQ below (zu_Qi D cA ad A res X Y) args s 0 0 A) (F0 m 5 ls []) := by
  intro n
  induction n with
  | zero =>
    intro x1 x2 x3 x4 H locs ls hP hS hl hf
    exact (Option.some_ne_none _ hf.symm).elim
  | succ n ih =>
    intro x1 x2 x3 x4 H locs ls hP hS hl hf
    exact zl_Chart_afterAny_B5 B hret hlk ih x1 x2 x3 x4 H locs ls hP hS hl  hf
set_option maxHeartbeats 4000000 in
theorem zl_Chart_afterAny {p : Program} {l : Launch} {e : Env} {s : State} {m : MethodId} {args : Array Value} {below : List Frame} {meth : Method} {c : Code} {D : va_G} {cA : Nat → ClassId} {ad : Nat → Nat} {A : Nat → Prop} (B : zu_B p s m args c zb_Chart_afterAny 5 "StonePost$Chart" D cA ad A) (hret : meth.sig.returnType = (some .int)) (hlk : meth.locks = false) {X : IX} {Y : LX} {res : Int32} {a1 : Int32} {a2 : Int32} (H : Heap) (locs : List Loc) (ls : Array Slot) (hP : va_P D zu_cl (zu_pic cA ad X Y) H) (hS : va_S A s.heap H locs) (hl : lv_has ls 5 [(0, .ref (ad 1)), (1, .int a1), (2, .int a2)]) (hf : fn_Chart_afterAny X a1 a2 = some res) : W p l e zR_Chart_afterAny s m args below meth c H locs 0 0 (MQ below (zu_Qi D cA ad A res X Y) args s 0 0 A) (F0 m 0 ls []) := by
  obtain ⟨hx, hb, hml, hown, hts, hST⟩ := id B
  unfold fn_Chart_afterAny at hf
  refine lv_iconst (v := 0) hx hb zd_Chart_afterAny_0 (by decide) ?_
  refine lv_istore_n (lv' := [(3, .int (0 : Int32)), (0, .ref (ad 1)), (1, .int a1), (2, .int a2)]) hx hb zd_Chart_afterAny_1 rfl hl (by decide) rfl (fun ls hl => ?_)
  refine lv_iconst (v := 0) hx hb zd_Chart_afterAny_2 (by decide) ?_
  refine lv_istore (lv' := [(4, .int (0 : Int32)), (3, .int (0 : Int32)), (0, .ref (ad 1)), (1, .int a1), (2, .int a2)]) hx hb zd_Chart_afterAny_3 hl (by decide) rfl (fun ls hl => ?_)
  exact zl_Chart_afterAny_L5 B hret hlk 400 a1 a2 (0 : Int32) (0 : Int32) _ _ _ hP hS (lv_sub hl [2, 3, 4, 1, 0] rfl) hf
theorem zC_Chart_afterAny (l : Launch) {D : va_G} {cA : Nat → ClassId} {ad : Nat → Nat} {A : Nat → Prop} {a1 : Int32} {a2 : Int32} {X : IX} {Y : LX} {res : Int32} (hf : fn_Chart_afterAny X a1 a2 = some res) : Met l zm_Chart_afterAny (zu_ws zm_Chart_afterAny zb_Chart_afterAny 5 (some .int)) zR_Chart_afterAny (va_Pc [.ref (ad 1), .int a1, .int a2] (zu_Pre D cA ad A X Y)) (zu_Qi D cA ad A res X Y) 0 0 A := by
  refine Met.ofW (cc := zb_Chart_afterAny) (maxL := 5) (ret := (some .int)) (by decide +kernel) rfl ?_
  intro p e s m args below meth c s₁ B0 hml hv
  obtain ⟨rfl, hP, hST⟩ := hv
  have B : zu_B p s m _ c zb_Chart_afterAny 5 "StonePost$Chart" D cA ad A := ⟨B0.exec, B0.bytes, hml, findClass_of_methodNamed B0.named, (fun w hw => atoms_spec (ws := zu_ws zm_Chart_afterAny zb_Chart_afterAny 5 (some .int)) B0.pre w (List.mem_cons_of_mem _ hw)), hST⟩
  have hl := lv_entry ([.ref (ad 1), .int a1, .int a2]) (n := 5) (Nat.le_of_ble_eq_true rfl)
  rw [lg_entry_eq]
  generalize (lg_sl ([.ref (ad 1), .int a1, .int a2]) ++ List.replicate (5 - (lg_sl ([.ref (ad 1), .int a1, .int a2])).length) Slot.unset).toArray = ls at hl ⊢
  exact zl_Chart_afterAny B B0.returns B0.notSynchronized s.heap [] ls hP va_S.rf hl  hf
theorem zw_Chart_afterAny {p : Program} {l : Launch} {e : Env} {R : Room} {s : State} {m : MethodId} {args : Array Value} {below : List Frame} {meth : Method} {c : Code} {H : Heap} {locs : List Loc} {cells slots : Nat} {Q : State → Prop} {cc : ByteArray} {pc nL : Nat} {ls : Array Slot} {rest st0 : List Value} {D : va_G} {cA : Nat → ClassId} {ad : Nat → Nat} {A : Nat → Prop} {X : IX} {Y : LX} {own : String} {index : Nat} {a1 : Int32} {a2 : Int32} {v1 : Int32} (B : zu_B p s m args c cc nL own D cA ad A) (hP : va_P D zu_cl (zu_pic cA ad X Y) H) (hS : va_S A s.heap H locs) (hq : fn_Chart_afterAny X a1 a2 = some v1) (m1 : Cond.methodLink own index zm_Chart_afterAny ∈ zu_TB) (hR1 : 2 + 1 ≤ R.frames) (hR2 : 8 + (5 + 11) + 44 ≤ R.locals) (hsz : ls.size = nL) (hst : st0 = .int a2 :: .int a1 :: .ref (ad 1) :: rest) (hw : (rest.map fun v => v.category).sum ≤ 8) (hdg : decode cc pc = .ok (.invokevirtual index, 3)) (h00 : cells ≤ R.cells ∧ slots ≤ R.slots) (kk : ∀ (H1 : Heap) (locs1 : List Loc), va_P D zu_cl (zu_pic cA ad X Y) H1 → va_S A s.heap H1 locs1 → W p l e R s m args below meth c H1 locs1 cells slots Q (F0 m (pc + 3) ls (.int v1 :: rest))) : W p l e R s m args below meth c H locs cells slots Q (F0 m pc ls st0) := by
  subst hst
  exact zr_cVi (As := [.int a1, .int a2]) (rest := rest) (n := 2) (C := "StonePost$Chart") (T := zt_Chart) (N := 9) B hP hS (zC_Chart_afterAny l  hq) (K := 2) rfl (by decide) (by decide) rfl rfl m1 zq_476 zq_477 zq_5 zq_478 (by decide +kernel) ⟨hR1, hR2⟩ rfl rfl rfl hsz rfl hw hdg h00 kk
abbrev zR_Post_hoursHome : Room := { frames := 6, cells := 0, slots := 0, locals := 138 }
theorem zd_Post_hoursHome_0 : decode zb_Post_hoursHome 0 = .ok (.iload_n 1, 1) := by decide +kernel
theorem zd_Post_hoursHome_1 : decode zb_Post_hoursHome 1 = .ok (.invokestatic 47, 3) := by decide +kernel
theorem zd_Post_hoursHome_4 : decode zb_Post_hoursHome 4 = .ok (.ifCond .ne 10, 3) := by decide +kernel
theorem zd_Post_hoursHome_7 : decode zb_Post_hoursHome 7 = .ok (.aload_n 0, 1) := by decide +kernel
theorem zd_Post_hoursHome_8 : decode zb_Post_hoursHome 8 = .ok (.ldc 55, 2) := by decide +kernel
theorem zd_Post_hoursHome_10 : decode zb_Post_hoursHome 10 = .ok (.invokevirtual 56, 3) := by decide +kernel
theorem zd_Post_hoursHome_13 : decode zb_Post_hoursHome 13 = .ok (.ireturn, 1) := by decide +kernel
theorem zd_Post_hoursHome_14 : decode zb_Post_hoursHome 14 = .ok (.aload_n 0, 1) := by decide +kernel
theorem zd_Post_hoursHome_15 : decode zb_Post_hoursHome 15 = .ok (.getfield 25, 3) := by decide +kernel
theorem zd_Post_hoursHome_18 : decode zb_Post_hoursHome 18 = .ok (.aload_n 0, 1) := by decide +kernel
theorem zd_Post_hoursHome_19 : decode zb_Post_hoursHome 19 = .ok (.getfield 10, 3) := by decide +kernel
theorem zd_Post_hoursHome_22 : decode zb_Post_hoursHome 22 = .ok (.invokevirtual 136, 3) := by decide +kernel
theorem zd_Post_hoursHome_25 : decode zb_Post_hoursHome 25 = .ok (.iconst 1, 1) := by decide +kernel
theorem zd_Post_hoursHome_26 : decode zb_Post_hoursHome 26 = .ok (.iload_n 1, 1) := by decide +kernel
theorem zd_Post_hoursHome_27 : decode zb_Post_hoursHome 27 = .ok (.ishl, 1) := by decide +kernel
theorem zd_Post_hoursHome_28 : decode zb_Post_hoursHome 28 = .ok (.istore_n 3, 1) := by decide +kernel
theorem zd_Post_hoursHome_29 : decode zb_Post_hoursHome 29 = .ok (.iconst 0, 1) := by decide +kernel
theorem zd_Post_hoursHome_30 : decode zb_Post_hoursHome 30 = .ok (.istore 4, 2) := by decide +kernel
theorem zd_Post_hoursHome_32 : decode zb_Post_hoursHome 32 = .ok (.iload 4, 2) := by decide +kernel
theorem zd_Post_hoursHome_34 : decode zb_Post_hoursHome 34 = .ok (.bipush 60, 2) := by decide +kernel
theorem zd_Post_hoursHome_36 : decode zb_Post_hoursHome 36 = .ok (.if_icmp .gt 55, 3) := by decide +kernel
theorem zd_Post_hoursHome_39 : decode zb_Post_hoursHome 39 = .ok (.iload_n 3, 1) := by decide +kernel
theorem zd_Post_hoursHome_40 : decode zb_Post_hoursHome 40 = .ok (.aload_n 0, 1) := by decide +kernel
theorem zd_Post_hoursHome_41 : decode zb_Post_hoursHome 41 = .ok (.getfield 10, 3) := by decide +kernel
theorem zd_Post_hoursHome_44 : decode zb_Post_hoursHome 44 = .ok (.getfield 63, 3) := by decide +kernel
theorem zd_Post_hoursHome_47 : decode zb_Post_hoursHome 47 = .ok (.ishr, 1) := by decide +kernel
theorem zd_Post_hoursHome_48 : decode zb_Post_hoursHome 48 = .ok (.iconst 1, 1) := by decide +kernel
theorem zd_Post_hoursHome_49 : decode zb_Post_hoursHome 49 = .ok (.iand, 1) := by decide +kernel
theorem zd_Post_hoursHome_50 : decode zb_Post_hoursHome 50 = .ok (.iconst 1, 1) := by decide +kernel
theorem zd_Post_hoursHome_51 : decode zb_Post_hoursHome 51 = .ok (.if_icmp .ne 6, 3) := by decide +kernel
theorem zd_Post_hoursHome_54 : decode zb_Post_hoursHome 54 = .ok (.iload 4, 2) := by decide +kernel
theorem zd_Post_hoursHome_56 : decode zb_Post_hoursHome 56 = .ok (.ireturn, 1) := by decide +kernel
theorem zd_Post_hoursHome_57 : decode zb_Post_hoursHome 57 = .ok (.iload_n 2, 1) := by decide +kernel
theorem zd_Post_hoursHome_58 : decode zb_Post_hoursHome 58 = .ok (.ifCond .eq 16, 3) := by decide +kernel
theorem zd_Post_hoursHome_61 : decode zb_Post_hoursHome 61 = .ok (.aload_n 0, 1) := by decide +kernel
theorem zd_Post_hoursHome_62 : decode zb_Post_hoursHome 62 = .ok (.getfield 25, 3) := by decide +kernel
theorem zd_Post_hoursHome_65 : decode zb_Post_hoursHome 65 = .ok (.iload_n 3, 1) := by decide +kernel
theorem zd_Post_hoursHome_66 : decode zb_Post_hoursHome 66 = .ok (.iload 4, 2) := by decide +kernel
theorem zd_Post_hoursHome_68 : decode zb_Post_hoursHome 68 = .ok (.invokevirtual 320, 3) := by decide +kernel
theorem zd_Post_hoursHome_71 : decode zb_Post_hoursHome 71 = .ok (.goto 13, 3) := by decide +kernel
theorem zd_Post_hoursHome_74 : decode zb_Post_hoursHome 74 = .ok (.aload_n 0, 1) := by decide +kernel
theorem zd_Post_hoursHome_75 : decode zb_Post_hoursHome 75 = .ok (.getfield 25, 3) := by decide +kernel
theorem zd_Post_hoursHome_78 : decode zb_Post_hoursHome 78 = .ok (.iload_n 3, 1) := by decide +kernel
theorem zd_Post_hoursHome_79 : decode zb_Post_hoursHome 79 = .ok (.iload 4, 2) := by decide +kernel
theorem zd_Post_hoursHome_81 : decode zb_Post_hoursHome 81 = .ok (.invokevirtual 160, 3) := by decide +kernel
theorem zd_Post_hoursHome_84 : decode zb_Post_hoursHome 84 = .ok (.istore_n 3, 1) := by decide +kernel
theorem zd_Post_hoursHome_85 : decode zb_Post_hoursHome 85 = .ok (.iinc 4 1, 3) := by decide +kernel
theorem zd_Post_hoursHome_88 : decode zb_Post_hoursHome 88 = .ok (.goto (-56), 3) := by decide +kernel
theorem zd_Post_hoursHome_91 : decode zb_Post_hoursHome 91 = .ok (.aload_n 0, 1) := by decide +kernel
theorem zd_Post_hoursHome_92 : decode zb_Post_hoursHome 92 = .ok (.ldc 120, 2) := by decide +kernel
theorem zd_Post_hoursHome_94 : decode zb_Post_hoursHome 94 = .ok (.invokevirtual 56, 3) := by decide +kernel
theorem zd_Post_hoursHome_97 : decode zb_Post_hoursHome 97 = .ok (.ireturn, 1) := by decide +kernel
set_option maxHeartbeats 4000000 in
theorem zl_Post_hoursHome_L84 {p : Program} {l : Launch} {e : Env} {s : State} {m : MethodId} {args : Array Value} {below : List Frame} {meth : Method} {c : Code} {D : va_G} {cA : Nat → ClassId} {ad : Nat → Nat} {A : Nat → Prop} (B : zu_B p s m args c zb_Post_hoursHome 5 "StonePost" D cA ad A) (hret : meth.sig.returnType = (some .int)) (hlk : meth.locks = false) {Y : LX} {res : Int32 × IX} {k32 : Int32 → Int32 → Int32 → IX → Option (Int32 × IX)} (hk32 : ∀ (x2 : Int32) (x3 : Int32) (x4 : Int32) (X : IX) (H : Heap) (locs : List Loc) (ls : Array Slot), va_P D zu_cl (zu_pic cA ad X Y) H → va_S A s.heap H locs → lv_has ls 5 [(0, .ref (ad 0)), (2, .int x2), (3, .int x3), (4, .int x4)] → k32 x2 x3 x4 X = some res → W p l e zR_Post_hoursHome s m args below meth c H locs 0 0 (MQ below (zu_Qi D cA ad A res.1 res.2 Y) args s 0 0 A) (F0 m 32 ls [])) (x2 : Int32) (x4 : Int32) (y0 : Int32) (X : IX) (H : Heap) (locs : List Loc) (ls : Array Slot) (hP : va_P D zu_cl (zu_pic cA ad X Y) H) (hS : va_S A s.heap H locs) (hl : lv_has ls 5 [(0, .ref (ad 0)), (2, .int x2), (4, .int x4)]) (hf : fn_Post_hoursHome_L84 k32 x2 x4 y0 X = some res) : W p l e zR_Post_hoursHome s m args below meth c H locs 0 0 (MQ below (zu_Qi D cA ad A res.1 res.2 Y) args s 0 0 A) (F0 m 84 ls [.int y0]) := by
  obtain ⟨hx, hb, hml, hown, hts, hST⟩ := id B
  unfold fn_Post_hoursHome_L84 at hf
  refine lv_istore_n (lv' := [(3, .int y0), (0, .ref (ad 0)), (2, .int x2), (4, .int x4)]) hx hb zd_Post_hoursHome_84 rfl hl (by decide) rfl (fun ls hl => ?_)
  obtain ⟨v20, ev20, hf⟩ := zu_nx_e hf
  refine lv_iinc (v := v20) (lv' := [(4, .int v20), (3, .int y0), (0, .ref (ad 0)), (2, .int x2)]) hx hb zd_Post_hoursHome_85 hl (k := 3) rfl (by rw [ev20]; rfl) (by decide) rfl (fun ls hl => ?_)
  clear ev20
  refine lv_goto (tgt := 32) hx hb zd_Post_hoursHome_88 (by decide) ?_
  exact hk32 x2 y0 v20 X _ _ _ hP hS (lv_sub hl [2, 3, 1, 0] rfl) hf
set_option maxHeartbeats 4000000 in
theorem zl_Post_hoursHome_B32 {p : Program} {l : Launch} {e : Env} {s : State} {m : MethodId} {args : Array Value} {below : List Frame} {meth : Method} {c : Code} {D : va_G} {cA : Nat → ClassId} {ad : Nat → Nat} {A : Nat → Prop} (B : zu_B p s m args c zb_Post_hoursHome 5 "StonePost" D cA ad A) (hret : meth.sig.returnType = (some .int)) (hlk : meth.locks = false) {Y : LX} {res : Int32 × IX} {k32 : Int32 → Int32 → Int32 → IX → Option (Int32 × IX)} (hk32 : ∀ (x2 : Int32) (x3 : Int32) (x4 : Int32) (X : IX) (H : Heap) (locs : List Loc) (ls : Array Slot), va_P D zu_cl (zu_pic cA ad X Y) H → va_S A s.heap H locs → lv_has ls 5 [(0, .ref (ad 0)), (2, .int x2), (3, .int x3), (4, .int x4)] → k32 x2 x3 x4 X = some res → W p l e zR_Post_hoursHome s m args below meth c H locs 0 0 (MQ below (zu_Qi D cA ad A res.1 res.2 Y) args s 0 0 A) (F0 m 32 ls [])) (x2 : Int32) (x3 : Int32) (x4 : Int32) (X : IX) (H : Heap) (locs : List Loc) (ls : Array Slot) (hP : va_P D zu_cl (zu_pic cA ad X Y) H) (hS : va_S A s.heap H locs) (hl : lv_has ls 5 [(0, .ref (ad 0)), (2, .int x2), (3, .int x3), (4, .int x4)]) (hf : fn_Post_hoursHome_B32 k32 x2 x3 x4 X = some res) : W p l e zR_Post_hoursHome s m args below meth c H locs 0 0 (MQ below (zu_Qi D cA ad A res.1 res.2 Y) args s 0 0 A) (F0 m 32 ls []) := by
  obtain ⟨hx, hb, hml, hown, hts, hST⟩ := id B
  unfold fn_Post_hoursHome_B32 at hf
  refine lv_iload hx hb zd_Post_hoursHome_32 (lv_at hl 3 rfl) ?_
  refine lv_bipush (v := 60) hx hb zd_Post_hoursHome_34 (by decide) ?_
  refine lv_icmp_gt (tgt := 91) hx hb zd_Post_hoursHome_36 (by decide) (fun c10 => ?_) (fun c10 => ?_)
  · have hf := zu_t c10 hf
    refine lv_aload_n hx hb zd_Post_hoursHome_91 rfl (lv_at hl 0 rfl) ?_
    refine lv_ldc (v := -1000004) hx hb hown (hts _ zq_357) zd_Post_hoursHome_92 ?_
    obtain ⟨v11, X12, hq13, hf⟩ := zu_b2_e hf
    refine zw_Post_finding (rest := []) B hP hS hq13 zq_227 (Nat.le_of_ble_eq_true rfl) (Nat.le_of_ble_eq_true rfl) hl.1 rfl (Nat.le_of_ble_eq_true rfl) zd_Post_hoursHome_94 (by decide) (fun H locs hP hS => ?_)
    clear hq13
    obtain rfl := Option.some.inj hf
    exact zr_iret hx hb hret hlk hP hS zd_Post_hoursHome_97
  · have hf := zu_f c10 hf
    refine lv_iload_n hx hb zd_Post_hoursHome_39 rfl (lv_at hl 2 rfl) ?_
    refine lv_aload_n hx hb zd_Post_hoursHome_40 rfl (lv_at hl 0 rfl) ?_
    refine zg_Post_land B hP rfl zq_191 zd_Post_hoursHome_41 ?_
    refine zg_Land_home B hP rfl zq_69 zd_Post_hoursHome_44 ?_
    refine lv_ishr hx hb zd_Post_hoursHome_47 ?_
    refine lv_iconst (v := 1) hx hb zd_Post_hoursHome_48 (by decide) ?_
    refine lv_iand hx hb zd_Post_hoursHome_49 ?_
    refine lv_iconst (v := 1) hx hb zd_Post_hoursHome_50 (by decide) ?_
    refine lv_icmp_ne (tgt := 57) hx hb zd_Post_hoursHome_51 (by decide) (fun c14 => ?_) (fun c14 => ?_)
    · have hf := zu_f c14 hf
      refine lv_iload_n hx hb zd_Post_hoursHome_57 rfl (lv_at hl 1 rfl) ?_
      refine lv_if_eq (tgt := 74) hx hb zd_Post_hoursHome_58 (by decide) (fun c15 => ?_) (fun c15 => ?_)
      · have hf := zu_t c15 hf
        refine lv_aload_n hx hb zd_Post_hoursHome_74 rfl (lv_at hl 0 rfl) ?_
        refine zg_Post_chart B hP rfl zq_194 zd_Post_hoursHome_75 ?_
        refine lv_iload_n hx hb zd_Post_hoursHome_78 rfl (lv_at hl 2 rfl) ?_
        refine lv_iload hx hb zd_Post_hoursHome_79 (lv_at hl 3 rfl) ?_
        obtain ⟨v16, hq17, hf⟩ := zu_b1_e hf
        refine zw_Chart_after (rest := []) B hP hS hq17 zq_483 (Nat.le_of_ble_eq_true rfl) (Nat.le_of_ble_eq_true rfl) hl.1 rfl (Nat.le_of_ble_eq_true rfl) zd_Post_hoursHome_81 (by decide) (fun H locs hP hS => ?_)
        clear hq17
        exact zl_Post_hoursHome_L84 B hret hlk hk32 x2 x4 v16 X _ _ _ hP hS (lv_sub hl [0, 1, 3] rfl) hf
      · have hf := zu_f c15 hf
        refine lv_aload_n hx hb zd_Post_hoursHome_61 rfl (lv_at hl 0 rfl) ?_
        refine zg_Post_chart B hP rfl zq_194 zd_Post_hoursHome_62 ?_
        refine lv_iload_n hx hb zd_Post_hoursHome_65 rfl (lv_at hl 2 rfl) ?_
        refine lv_iload hx hb zd_Post_hoursHome_66 (lv_at hl 3 rfl) ?_
        obtain ⟨v18, hq19, hf⟩ := zu_b1_e hf
        refine zw_Chart_afterAny (rest := []) B hP hS hq19 zq_475 (Nat.le_of_ble_eq_true rfl) (Nat.le_of_ble_eq_true rfl) hl.1 rfl (Nat.le_of_ble_eq_true rfl) zd_Post_hoursHome_68 (by decide) (fun H locs hP hS => ?_)
        clear hq19
        refine lv_goto (tgt := 84) hx hb zd_Post_hoursHome_71 (by decide) ?_
        exact zl_Post_hoursHome_L84 B hret hlk hk32 x2 x4 v18 X _ _ _ hP hS (lv_sub hl [0, 1, 3] rfl) hf
    · have hf := zu_t c14 hf
      refine lv_iload hx hb zd_Post_hoursHome_54 (lv_at hl 3 rfl) ?_
      obtain rfl := Option.some.inj hf
      exact zr_iret hx hb hret hlk hP hS zd_Post_hoursHome_56
theorem zl_Post_hoursHome_L32 {p : Program} {l : Launch} {e : Env} {s : State} {m : MethodId} {args : Array Value} {below : List Frame} {meth : Method} {c : Code} {D : va_G} {cA : Nat → ClassId} {ad : Nat → Nat} {A : Nat → Prop} (B : zu_B p s m args c zb_Post_hoursHome 5 "StonePost" D cA ad A) (hret : meth.sig.returnType = (some .int)) (hlk : meth.locks = false) {Y : LX} {res : Int32 × IX} : ∀ (n : Nat) (x2 : Int32) (x3 : Int32) (x4 : Int32) (X : IX) (H : Heap) (locs : List Loc) (ls : Array Slot), va_P D zu_cl (zu_pic cA ad X Y) H → va_S A s.heap H locs → lv_has ls 5 [(0, .ref (ad 0)), (2, .int x2), (3, .int x3), (4, .int x4)] → fn_Post_hoursHome_L32 n x2 x3 x4 X = some res → W p l e zR_Post_hoursHome s m args below meth c H locs 0 0 (MQ below (zu_Qi D cA ad A res.1 res.2 Y) args s 0 0 A) (F0 m 32 ls []) := by
  intro n
  induction n with
  | zero =>
    intro x2 x3 x4 X H locs ls hP hS hl hf
    exact (Option.some_ne_none _ hf.symm).elim
  | succ n ih =>
    intro x2 x3 x4 X H locs ls hP hS hl hf
    exact zl_Post_hoursHome_B32 B hret hlk ih x2 x3 x4 X H locs ls hP hS hl  hf
set_option maxHeartbeats 4000000 in
theorem zl_Post_hoursHome {p : Program} {l : Launch} {e : Env} {s : State} {m : MethodId} {args : Array Value} {below : List Frame} {meth : Method} {c : Code} {D : va_G} {cA : Nat → ClassId} {ad : Nat → Nat} {A : Nat → Prop} (B : zu_B p s m args c zb_Post_hoursHome 5 "StonePost" D cA ad A) (hret : meth.sig.returnType = (some .int)) (hlk : meth.locks = false) {Y : LX} {res : Int32 × IX} {a1 : Int32} {a2 : Int32} {X : IX} (H : Heap) (locs : List Loc) (ls : Array Slot) (hP : va_P D zu_cl (zu_pic cA ad X Y) H) (hS : va_S A s.heap H locs) (hl : lv_has ls 5 [(0, .ref (ad 0)), (1, .int a1), (2, .int a2)]) (hf : fn_Post_hoursHome a1 a2 X = some res) : W p l e zR_Post_hoursHome s m args below meth c H locs 0 0 (MQ below (zu_Qi D cA ad A res.1 res.2 Y) args s 0 0 A) (F0 m 0 ls []) := by
  obtain ⟨hx, hb, hml, hown, hts, hST⟩ := id B
  unfold fn_Post_hoursHome at hf
  refine lv_iload_n hx hb zd_Post_hoursHome_0 rfl (lv_at hl 1 rfl) ?_
  obtain ⟨v1, hq2, hf⟩ := zu_b1_e hf
  refine zw_Post_isCell (rest := []) B hP hS hq2 zq_220 (Nat.le_of_ble_eq_true rfl) (Nat.le_of_ble_eq_true rfl) hl.1 rfl (Nat.le_of_ble_eq_true rfl) zd_Post_hoursHome_1 (by decide) (fun H locs hP hS => ?_)
  clear hq2
  refine lv_if_ne (tgt := 14) hx hb zd_Post_hoursHome_4 (by decide) (fun c3 => ?_) (fun c3 => ?_)
  · have hf := zu_f c3 hf
    refine lv_aload_n hx hb zd_Post_hoursHome_14 rfl (lv_at hl 0 rfl) ?_
    refine zg_Post_chart B hP rfl zq_194 zd_Post_hoursHome_15 ?_
    refine lv_aload_n hx hb zd_Post_hoursHome_18 rfl (lv_at hl 0 rfl) ?_
    refine zg_Post_land B hP rfl zq_191 zd_Post_hoursHome_19 ?_
    obtain ⟨X4, hq5, hf⟩ := zu_b1_e hf
    refine zw_Chart_lay (rest := []) B hP hS rfl hq5 zq_382 (Nat.le_of_ble_eq_true rfl) (Nat.le_of_ble_eq_true rfl) hl.1 rfl (Nat.le_of_ble_eq_true rfl) zd_Post_hoursHome_22 (by decide) (fun H locs hP hS => ?_)
    clear hq5
    refine lv_iconst (v := 1) hx hb zd_Post_hoursHome_25 (by decide) ?_
    refine lv_iload_n hx hb zd_Post_hoursHome_26 rfl (lv_at hl 1 rfl) ?_
    refine lv_ishl hx hb zd_Post_hoursHome_27 ?_
    refine zr_nxi hf (fun v6 hf => ?_)
    refine lv_istore_n (lv' := [(3, .int v6), (0, .ref (ad 0)), (1, .int a1), (2, .int a2)]) hx hb zd_Post_hoursHome_28 rfl hl (by decide) rfl (fun ls hl => ?_)
    refine lv_iconst (v := 0) hx hb zd_Post_hoursHome_29 (by decide) ?_
    refine lv_istore (lv' := [(4, .int (0 : Int32)), (3, .int v6), (0, .ref (ad 0)), (1, .int a1), (2, .int a2)]) hx hb zd_Post_hoursHome_30 hl (by decide) rfl (fun ls hl => ?_)
    exact zl_Post_hoursHome_L32 B hret hlk 400 a2 v6 (0 : Int32) X4 _ _ _ hP hS (lv_sub hl [2, 4, 1, 0] rfl) hf
  · have hf := zu_t c3 hf
    refine lv_aload_n hx hb zd_Post_hoursHome_7 rfl (lv_at hl 0 rfl) ?_
    refine lv_ldc (v := -1000001) hx hb hown (hts _ zq_226) zd_Post_hoursHome_8 ?_
    obtain ⟨v7, X8, hq9, hf⟩ := zu_b2_e hf
    refine zw_Post_finding (rest := []) B hP hS hq9 zq_227 (Nat.le_of_ble_eq_true rfl) (Nat.le_of_ble_eq_true rfl) hl.1 rfl (Nat.le_of_ble_eq_true rfl) zd_Post_hoursHome_10 (by decide) (fun H locs hP hS => ?_)
    clear hq9
    obtain rfl := Option.some.inj hf
    exact zr_iret hx hb hret hlk hP hS zd_Post_hoursHome_13
theorem zC_Post_hoursHome (l : Launch) {D : va_G} {cA : Nat → ClassId} {ad : Nat → Nat} {A : Nat → Prop} {a1 : Int32} {a2 : Int32} {X : IX} {Y : LX} {res : Int32 × IX} (hf : fn_Post_hoursHome a1 a2 X = some res) : Met l zm_Post_hoursHome (zu_ws zm_Post_hoursHome zb_Post_hoursHome 5 (some .int)) zR_Post_hoursHome (va_Pc [.ref (ad 0), .int a1, .int a2] (zu_Pre D cA ad A X Y)) (zu_Qi D cA ad A res.1 res.2 Y) 0 0 A := by
  refine Met.ofW (cc := zb_Post_hoursHome) (maxL := 5) (ret := (some .int)) (by decide +kernel) rfl ?_
  intro p e s m args below meth c s₁ B0 hml hv
  obtain ⟨rfl, hP, hST⟩ := hv
  have B : zu_B p s m _ c zb_Post_hoursHome 5 "StonePost" D cA ad A := ⟨B0.exec, B0.bytes, hml, findClass_of_methodNamed B0.named, (fun w hw => atoms_spec (ws := zu_ws zm_Post_hoursHome zb_Post_hoursHome 5 (some .int)) B0.pre w (List.mem_cons_of_mem _ hw)), hST⟩
  have hl := lv_entry ([.ref (ad 0), .int a1, .int a2]) (n := 5) (Nat.le_of_ble_eq_true rfl)
  rw [lg_entry_eq]
  generalize (lg_sl ([.ref (ad 0), .int a1, .int a2]) ++ List.replicate (5 - (lg_sl ([.ref (ad 0), .int a1, .int a2])).length) Slot.unset).toArray = ls at hl ⊢
  exact zl_Post_hoursHome B B0.returns B0.notSynchronized s.heap [] ls hP va_S.rf hl  hf
theorem zw_Post_hoursHome {p : Program} {l : Launch} {e : Env} {R : Room} {s : State} {m : MethodId} {args : Array Value} {below : List Frame} {meth : Method} {c : Code} {H : Heap} {locs : List Loc} {cells slots : Nat} {Q : State → Prop} {cc : ByteArray} {pc nL : Nat} {ls : Array Slot} {rest st0 : List Value} {D : va_G} {cA : Nat → ClassId} {ad : Nat → Nat} {A : Nat → Prop} {X : IX} {Y : LX} {own : String} {index : Nat} {a1 : Int32} {a2 : Int32} {v1 : Int32} {X1 : IX} (B : zu_B p s m args c cc nL own D cA ad A) (hP : va_P D zu_cl (zu_pic cA ad X Y) H) (hS : va_S A s.heap H locs) (hq : fn_Post_hoursHome a1 a2 X = some (v1, X1)) (m1 : Cond.methodLink own index zm_Post_hoursHome ∈ zu_TB) (hR1 : 6 + 1 ≤ R.frames) (hR2 : 8 + (5 + 11) + 138 ≤ R.locals) (hsz : ls.size = nL) (hst : st0 = .int a2 :: .int a1 :: .ref (ad 0) :: rest) (hw : (rest.map fun v => v.category).sum ≤ 8) (hdg : decode cc pc = .ok (.invokevirtual index, 3)) (h00 : cells ≤ R.cells ∧ slots ≤ R.slots) (kk : ∀ (H1 : Heap) (locs1 : List Loc), va_P D zu_cl (zu_pic cA ad X1 Y) H1 → va_S A s.heap H1 locs1 → W p l e R s m args below meth c H1 locs1 cells slots Q (F0 m (pc + 3) ls (.int v1 :: rest))) : W p l e R s m args below meth c H locs cells slots Q (F0 m pc ls st0) := by
  subst hst
  exact zr_cVi (As := [.int a1, .int a2]) (rest := rest) (n := 2) (C := "StonePost") (T := zt_Post) (N := 8) B hP hS (zC_Post_hoursHome l  hq) (K := 1) rfl (by decide) (by decide) rfl rfl m1 zq_473 zqP_12 zq_1 zq_474 (by decide +kernel) ⟨hR1, hR2⟩ rfl rfl rfl hsz rfl hw hdg h00 kk
abbrev zR_Post_fewest : Room := { frames := 7, cells := 0, slots := 0, locals := 162 }
theorem zd_Post_fewest_0 : decode zb_Post_fewest 0 = .ok (.aload_n 0, 1) := by decide +kernel
theorem zd_Post_fewest_1 : decode zb_Post_fewest 1 = .ok (.iload_n 1, 1) := by decide +kernel
theorem zd_Post_fewest_2 : decode zb_Post_fewest 2 = .ok (.iconst 0, 1) := by decide +kernel
theorem zd_Post_fewest_3 : decode zb_Post_fewest 3 = .ok (.invokevirtual 157, 3) := by decide +kernel
theorem zd_Post_fewest_6 : decode zb_Post_fewest 6 = .ok (.ireturn, 1) := by decide +kernel
set_option maxHeartbeats 4000000 in
theorem zl_Post_fewest {p : Program} {l : Launch} {e : Env} {s : State} {m : MethodId} {args : Array Value} {below : List Frame} {meth : Method} {c : Code} {D : va_G} {cA : Nat → ClassId} {ad : Nat → Nat} {A : Nat → Prop} (B : zu_B p s m args c zb_Post_fewest 2 "StonePost" D cA ad A) (hret : meth.sig.returnType = (some .int)) (hlk : meth.locks = false) {Y : LX} {res : Int32 × IX} {a1 : Int32} {X : IX} (H : Heap) (locs : List Loc) (ls : Array Slot) (hP : va_P D zu_cl (zu_pic cA ad X Y) H) (hS : va_S A s.heap H locs) (hl : lv_has ls 2 [(0, .ref (ad 0)), (1, .int a1)]) (hf : fn_Post_fewest a1 X = some res) : W p l e zR_Post_fewest s m args below meth c H locs 0 0 (MQ below (zu_Qi D cA ad A res.1 res.2 Y) args s 0 0 A) (F0 m 0 ls []) := by
  obtain ⟨hx, hb, hml, hown, hts, hST⟩ := id B
  unfold fn_Post_fewest at hf
  refine lv_aload_n hx hb zd_Post_fewest_0 rfl (lv_at hl 0 rfl) ?_
  refine lv_iload_n hx hb zd_Post_fewest_1 rfl (lv_at hl 1 rfl) ?_
  refine lv_iconst (v := 0) hx hb zd_Post_fewest_2 (by decide) ?_
  obtain ⟨v1, X2, hq3, hf⟩ := zu_b2_e hf
  refine zw_Post_hoursHome (rest := []) B hP hS hq3 zq_471 (Nat.le_of_ble_eq_true rfl) (Nat.le_of_ble_eq_true rfl) hl.1 rfl (Nat.le_of_ble_eq_true rfl) zd_Post_fewest_3 (by decide) (fun H locs hP hS => ?_)
  clear hq3
  obtain rfl := Option.some.inj hf
  exact zr_iret hx hb hret hlk hP hS zd_Post_fewest_6
theorem zC_Post_fewest (l : Launch) {D : va_G} {cA : Nat → ClassId} {ad : Nat → Nat} {A : Nat → Prop} {a1 : Int32} {X : IX} {Y : LX} {res : Int32 × IX} (hf : fn_Post_fewest a1 X = some res) : Met l zm_Post_fewest (zu_ws zm_Post_fewest zb_Post_fewest 2 (some .int)) zR_Post_fewest (va_Pc [.ref (ad 0), .int a1] (zu_Pre D cA ad A X Y)) (zu_Qi D cA ad A res.1 res.2 Y) 0 0 A := by
  refine Met.ofW (cc := zb_Post_fewest) (maxL := 2) (ret := (some .int)) (by decide +kernel) rfl ?_
  intro p e s m args below meth c s₁ B0 hml hv
  obtain ⟨rfl, hP, hST⟩ := hv
  have B : zu_B p s m _ c zb_Post_fewest 2 "StonePost" D cA ad A := ⟨B0.exec, B0.bytes, hml, findClass_of_methodNamed B0.named, (fun w hw => atoms_spec (ws := zu_ws zm_Post_fewest zb_Post_fewest 2 (some .int)) B0.pre w (List.mem_cons_of_mem _ hw)), hST⟩
  have hl := lv_entry ([.ref (ad 0), .int a1]) (n := 2) (Nat.le_of_ble_eq_true rfl)
  rw [lg_entry_eq]
  generalize (lg_sl ([.ref (ad 0), .int a1]) ++ List.replicate (2 - (lg_sl ([.ref (ad 0), .int a1])).length) Slot.unset).toArray = ls at hl ⊢
  exact zl_Post_fewest B B0.returns B0.notSynchronized s.heap [] ls hP va_S.rf hl  hf
theorem zw_Post_fewest {p : Program} {l : Launch} {e : Env} {R : Room} {s : State} {m : MethodId} {args : Array Value} {below : List Frame} {meth : Method} {c : Code} {H : Heap} {locs : List Loc} {cells slots : Nat} {Q : State → Prop} {cc : ByteArray} {pc nL : Nat} {ls : Array Slot} {rest st0 : List Value} {D : va_G} {cA : Nat → ClassId} {ad : Nat → Nat} {A : Nat → Prop} {X : IX} {Y : LX} {own : String} {index : Nat} {a1 : Int32} {v1 : Int32} {X1 : IX} (B : zu_B p s m args c cc nL own D cA ad A) (hP : va_P D zu_cl (zu_pic cA ad X Y) H) (hS : va_S A s.heap H locs) (hq : fn_Post_fewest a1 X = some (v1, X1)) (m1 : Cond.methodLink own index zm_Post_fewest ∈ zu_TB) (hR1 : 7 + 1 ≤ R.frames) (hR2 : 8 + (2 + 11) + 162 ≤ R.locals) (hsz : ls.size = nL) (hst : st0 = .int a1 :: .ref (ad 0) :: rest) (hw : (rest.map fun v => v.category).sum ≤ 8) (hdg : decode cc pc = .ok (.invokevirtual index, 3)) (h00 : cells ≤ R.cells ∧ slots ≤ R.slots) (kk : ∀ (H1 : Heap) (locs1 : List Loc), va_P D zu_cl (zu_pic cA ad X1 Y) H1 → va_S A s.heap H1 locs1 → W p l e R s m args below meth c H1 locs1 cells slots Q (F0 m (pc + 3) ls (.int v1 :: rest))) : W p l e R s m args below meth c H locs cells slots Q (F0 m pc ls st0) := by
  subst hst
  exact zr_cVi (As := [.int a1]) (rest := rest) (n := 1) (C := "StonePost") (T := zt_Post) (N := 8) B hP hS (zC_Post_fewest l  hq) (K := 1) rfl (by decide) (by decide) rfl rfl m1 zq_468 zq_469 zq_1 zq_470 (by decide +kernel) ⟨hR1, hR2⟩ rfl rfl rfl hsz rfl hw hdg h00 kk
abbrev zR_Post_free : Room := { frames := 7, cells := 0, slots := 0, locals := 162 }
theorem zd_Post_free_0 : decode zb_Post_free 0 = .ok (.aload_n 0, 1) := by decide +kernel
theorem zd_Post_free_1 : decode zb_Post_free 1 = .ok (.iload_n 1, 1) := by decide +kernel
theorem zd_Post_free_2 : decode zb_Post_free 2 = .ok (.iconst 1, 1) := by decide +kernel
theorem zd_Post_free_3 : decode zb_Post_free 3 = .ok (.invokevirtual 157, 3) := by decide +kernel
theorem zd_Post_free_6 : decode zb_Post_free 6 = .ok (.ireturn, 1) := by decide +kernel
set_option maxHeartbeats 4000000 in
theorem zl_Post_free {p : Program} {l : Launch} {e : Env} {s : State} {m : MethodId} {args : Array Value} {below : List Frame} {meth : Method} {c : Code} {D : va_G} {cA : Nat → ClassId} {ad : Nat → Nat} {A : Nat → Prop} (B : zu_B p s m args c zb_Post_free 2 "StonePost" D cA ad A) (hret : meth.sig.returnType = (some .int)) (hlk : meth.locks = false) {Y : LX} {res : Int32 × IX} {a1 : Int32} {X : IX} (H : Heap) (locs : List Loc) (ls : Array Slot) (hP : va_P D zu_cl (zu_pic cA ad X Y) H) (hS : va_S A s.heap H locs) (hl : lv_has ls 2 [(0, .ref (ad 0)), (1, .int a1)]) (hf : fn_Post_free a1 X = some res) : W p l e zR_Post_free s m args below meth c H locs 0 0 (MQ below (zu_Qi D cA ad A res.1 res.2 Y) args s 0 0 A) (F0 m 0 ls []) := by
  obtain ⟨hx, hb, hml, hown, hts, hST⟩ := id B
  unfold fn_Post_free at hf
  refine lv_aload_n hx hb zd_Post_free_0 rfl (lv_at hl 0 rfl) ?_
  refine lv_iload_n hx hb zd_Post_free_1 rfl (lv_at hl 1 rfl) ?_
  refine lv_iconst (v := 1) hx hb zd_Post_free_2 (by decide) ?_
  obtain ⟨v1, X2, hq3, hf⟩ := zu_b2_e hf
  refine zw_Post_hoursHome (rest := []) B hP hS hq3 zq_471 (Nat.le_of_ble_eq_true rfl) (Nat.le_of_ble_eq_true rfl) hl.1 rfl (Nat.le_of_ble_eq_true rfl) zd_Post_free_3 (by decide) (fun H locs hP hS => ?_)
  clear hq3
  obtain rfl := Option.some.inj hf
  exact zr_iret hx hb hret hlk hP hS zd_Post_free_6
theorem zC_Post_free (l : Launch) {D : va_G} {cA : Nat → ClassId} {ad : Nat → Nat} {A : Nat → Prop} {a1 : Int32} {X : IX} {Y : LX} {res : Int32 × IX} (hf : fn_Post_free a1 X = some res) : Met l zm_Post_free (zu_ws zm_Post_free zb_Post_free 2 (some .int)) zR_Post_free (va_Pc [.ref (ad 0), .int a1] (zu_Pre D cA ad A X Y)) (zu_Qi D cA ad A res.1 res.2 Y) 0 0 A := by
  refine Met.ofW (cc := zb_Post_free) (maxL := 2) (ret := (some .int)) (by decide +kernel) rfl ?_
  intro p e s m args below meth c s₁ B0 hml hv
  obtain ⟨rfl, hP, hST⟩ := hv
  have B : zu_B p s m _ c zb_Post_free 2 "StonePost" D cA ad A := ⟨B0.exec, B0.bytes, hml, findClass_of_methodNamed B0.named, (fun w hw => atoms_spec (ws := zu_ws zm_Post_free zb_Post_free 2 (some .int)) B0.pre w (List.mem_cons_of_mem _ hw)), hST⟩
  have hl := lv_entry ([.ref (ad 0), .int a1]) (n := 2) (Nat.le_of_ble_eq_true rfl)
  rw [lg_entry_eq]
  generalize (lg_sl ([.ref (ad 0), .int a1]) ++ List.replicate (2 - (lg_sl ([.ref (ad 0), .int a1])).length) Slot.unset).toArray = ls at hl ⊢
  exact zl_Post_free B B0.returns B0.notSynchronized s.heap [] ls hP va_S.rf hl  hf
theorem zw_Post_free {p : Program} {l : Launch} {e : Env} {R : Room} {s : State} {m : MethodId} {args : Array Value} {below : List Frame} {meth : Method} {c : Code} {H : Heap} {locs : List Loc} {cells slots : Nat} {Q : State → Prop} {cc : ByteArray} {pc nL : Nat} {ls : Array Slot} {rest st0 : List Value} {D : va_G} {cA : Nat → ClassId} {ad : Nat → Nat} {A : Nat → Prop} {X : IX} {Y : LX} {own : String} {index : Nat} {a1 : Int32} {v1 : Int32} {X1 : IX} (B : zu_B p s m args c cc nL own D cA ad A) (hP : va_P D zu_cl (zu_pic cA ad X Y) H) (hS : va_S A s.heap H locs) (hq : fn_Post_free a1 X = some (v1, X1)) (m1 : Cond.methodLink own index zm_Post_free ∈ zu_TB) (hR1 : 7 + 1 ≤ R.frames) (hR2 : 8 + (2 + 11) + 162 ≤ R.locals) (hsz : ls.size = nL) (hst : st0 = .int a1 :: .ref (ad 0) :: rest) (hw : (rest.map fun v => v.category).sum ≤ 8) (hdg : decode cc pc = .ok (.invokevirtual index, 3)) (h00 : cells ≤ R.cells ∧ slots ≤ R.slots) (kk : ∀ (H1 : Heap) (locs1 : List Loc), va_P D zu_cl (zu_pic cA ad X1 Y) H1 → va_S A s.heap H1 locs1 → W p l e R s m args below meth c H1 locs1 cells slots Q (F0 m (pc + 3) ls (.int v1 :: rest))) : W p l e R s m args below meth c H locs cells slots Q (F0 m pc ls st0) := by
  subst hst
  exact zr_cVi (As := [.int a1]) (rest := rest) (n := 1) (C := "StonePost") (T := zt_Post) (N := 8) B hP hS (zC_Post_free l  hq) (K := 1) rfl (by decide) (by decide) rfl rfl m1 zq_488 zq_489 zq_1 zq_490 (by decide +kernel) ⟨hR1, hR2⟩ rfl rfl rfl hsz rfl hw hdg h00 kk
abbrev zR_Post_may : Room := { frames := 6, cells := 0, slots := 0, locals := 138 }
theorem zd_Post_may_0 : decode zb_Post_may 0 = .ok (.iload_n 1, 1) := by decide +kernel
theorem zd_Post_may_1 : decode zb_Post_may 1 = .ok (.invokestatic 47, 3) := by decide +kernel
theorem zd_Post_may_4 : decode zb_Post_may 4 = .ok (.ifCond .eq 13, 3) := by decide +kernel
theorem zd_Post_may_7 : decode zb_Post_may 7 = .ok (.iload_n 2, 1) := by decide +kernel
theorem zd_Post_may_8 : decode zb_Post_may 8 = .ok (.iconst 0, 1) := by decide +kernel
theorem zd_Post_may_9 : decode zb_Post_may 9 = .ok (.bipush 60, 2) := by decide +kernel
theorem zd_Post_may_11 : decode zb_Post_may 11 = .ok (.invokestatic 51, 3) := by decide +kernel
theorem zd_Post_may_14 : decode zb_Post_may 14 = .ok (.ifCond .ne 10, 3) := by decide +kernel
theorem zd_Post_may_17 : decode zb_Post_may 17 = .ok (.aload_n 0, 1) := by decide +kernel
theorem zd_Post_may_18 : decode zb_Post_may 18 = .ok (.ldc 55, 2) := by decide +kernel
theorem zd_Post_may_20 : decode zb_Post_may 20 = .ok (.invokevirtual 56, 3) := by decide +kernel
theorem zd_Post_may_23 : decode zb_Post_may 23 = .ok (.ireturn, 1) := by decide +kernel
theorem zd_Post_may_24 : decode zb_Post_may 24 = .ok (.aload_n 0, 1) := by decide +kernel
theorem zd_Post_may_25 : decode zb_Post_may 25 = .ok (.getfield 25, 3) := by decide +kernel
theorem zd_Post_may_28 : decode zb_Post_may 28 = .ok (.aload_n 0, 1) := by decide +kernel
theorem zd_Post_may_29 : decode zb_Post_may 29 = .ok (.getfield 10, 3) := by decide +kernel
theorem zd_Post_may_32 : decode zb_Post_may 32 = .ok (.invokevirtual 136, 3) := by decide +kernel
theorem zd_Post_may_35 : decode zb_Post_may 35 = .ok (.iconst 1, 1) := by decide +kernel
theorem zd_Post_may_36 : decode zb_Post_may 36 = .ok (.iload_n 1, 1) := by decide +kernel
theorem zd_Post_may_37 : decode zb_Post_may 37 = .ok (.ishl, 1) := by decide +kernel
theorem zd_Post_may_38 : decode zb_Post_may 38 = .ok (.istore_n 3, 1) := by decide +kernel
theorem zd_Post_may_39 : decode zb_Post_may 39 = .ok (.iconst 0, 1) := by decide +kernel
theorem zd_Post_may_40 : decode zb_Post_may 40 = .ok (.istore 4, 2) := by decide +kernel
theorem zd_Post_may_42 : decode zb_Post_may 42 = .ok (.iload 4, 2) := by decide +kernel
theorem zd_Post_may_44 : decode zb_Post_may 44 = .ok (.iload_n 2, 1) := by decide +kernel
theorem zd_Post_may_45 : decode zb_Post_may 45 = .ok (.if_icmp .ge 20, 3) := by decide +kernel
theorem zd_Post_may_48 : decode zb_Post_may 48 = .ok (.aload_n 0, 1) := by decide +kernel
theorem zd_Post_may_49 : decode zb_Post_may 49 = .ok (.getfield 25, 3) := by decide +kernel
theorem zd_Post_may_52 : decode zb_Post_may 52 = .ok (.iload_n 3, 1) := by decide +kernel
theorem zd_Post_may_53 : decode zb_Post_may 53 = .ok (.iload 4, 2) := by decide +kernel
theorem zd_Post_may_55 : decode zb_Post_may 55 = .ok (.invokevirtual 160, 3) := by decide +kernel
theorem zd_Post_may_58 : decode zb_Post_may 58 = .ok (.istore_n 3, 1) := by decide +kernel
theorem zd_Post_may_59 : decode zb_Post_may 59 = .ok (.iinc 4 1, 3) := by decide +kernel
theorem zd_Post_may_62 : decode zb_Post_may 62 = .ok (.goto (-20), 3) := by decide +kernel
theorem zd_Post_may_65 : decode zb_Post_may 65 = .ok (.iload_n 3, 1) := by decide +kernel
theorem zd_Post_may_66 : decode zb_Post_may 66 = .ok (.ireturn, 1) := by decide +kernel
set_option maxHeartbeats 4000000 in
theorem zl_Post_may_B42 {p : Program} {l : Launch} {e : Env} {s : State} {m : MethodId} {args : Array Value} {below : List Frame} {meth : Method} {c : Code} {D : va_G} {cA : Nat → ClassId} {ad : Nat → Nat} {A : Nat → Prop} (B : zu_B p s m args c zb_Post_may 5 "StonePost" D cA ad A) (hret : meth.sig.returnType = (some .int)) (hlk : meth.locks = false) {Y : LX} {res : Int32 × IX} {k42 : Int32 → Int32 → Int32 → IX → Option (Int32 × IX)} (hk42 : ∀ (x2 : Int32) (x3 : Int32) (x4 : Int32) (X : IX) (H : Heap) (locs : List Loc) (ls : Array Slot), va_P D zu_cl (zu_pic cA ad X Y) H → va_S A s.heap H locs → lv_has ls 5 [(0, .ref (ad 0)), (2, .int x2), (3, .int x3), (4, .int x4)] → k42 x2 x3 x4 X = some res → W p l e zR_Post_may s m args below meth c H locs 0 0 (MQ below (zu_Qi D cA ad A res.1 res.2 Y) args s 0 0 A) (F0 m 42 ls [])) (x2 : Int32) (x3 : Int32) (x4 : Int32) (X : IX) (H : Heap) (locs : List Loc) (ls : Array Slot) (hP : va_P D zu_cl (zu_pic cA ad X Y) H) (hS : va_S A s.heap H locs) (hl : lv_has ls 5 [(0, .ref (ad 0)), (2, .int x2), (3, .int x3), (4, .int x4)]) (hf : fn_Post_may_B42 k42 x2 x3 x4 X = some res) : W p l e zR_Post_may s m args below meth c H locs 0 0 (MQ below (zu_Qi D cA ad A res.1 res.2 Y) args s 0 0 A) (F0 m 42 ls []) := by
  obtain ⟨hx, hb, hml, hown, hts, hST⟩ := id B
  unfold fn_Post_may_B42 at hf
  refine lv_iload hx hb zd_Post_may_42 (lv_at hl 3 rfl) ?_
  refine lv_iload_n hx hb zd_Post_may_44 rfl (lv_at hl 1 rfl) ?_
  refine lv_icmp_ge (tgt := 65) hx hb zd_Post_may_45 (by decide) (fun c13 => ?_) (fun c13 => ?_)
  · have hf := zu_t c13 hf
    refine lv_iload_n hx hb zd_Post_may_65 rfl (lv_at hl 2 rfl) ?_
    obtain rfl := Option.some.inj hf
    exact zr_iret hx hb hret hlk hP hS zd_Post_may_66
  · have hf := zu_f c13 hf
    refine lv_aload_n hx hb zd_Post_may_48 rfl (lv_at hl 0 rfl) ?_
    refine zg_Post_chart B hP rfl zq_194 zd_Post_may_49 ?_
    refine lv_iload_n hx hb zd_Post_may_52 rfl (lv_at hl 2 rfl) ?_
    refine lv_iload hx hb zd_Post_may_53 (lv_at hl 3 rfl) ?_
    obtain ⟨v14, hq15, hf⟩ := zu_b1_e hf
    refine zw_Chart_after (rest := []) B hP hS hq15 zq_483 (Nat.le_of_ble_eq_true rfl) (Nat.le_of_ble_eq_true rfl) hl.1 rfl (Nat.le_of_ble_eq_true rfl) zd_Post_may_55 (by decide) (fun H locs hP hS => ?_)
    clear hq15
    refine lv_istore_n (lv' := [(3, .int v14), (0, .ref (ad 0)), (2, .int x2), (4, .int x4)]) hx hb zd_Post_may_58 rfl hl (by decide) rfl (fun ls hl => ?_)
    obtain ⟨v16, ev16, hf⟩ := zu_nx_e hf
    refine lv_iinc (v := v16) (lv' := [(4, .int v16), (3, .int v14), (0, .ref (ad 0)), (2, .int x2)]) hx hb zd_Post_may_59 hl (k := 3) rfl (by rw [ev16]; rfl) (by decide) rfl (fun ls hl => ?_)
    clear ev16
    refine lv_goto (tgt := 42) hx hb zd_Post_may_62 (by decide) ?_
    exact hk42 x2 v14 v16 X _ _ _ hP hS (lv_sub hl [2, 3, 1, 0] rfl) hf
theorem zl_Post_may_L42 {p : Program} {l : Launch} {e : Env} {s : State} {m : MethodId} {args : Array Value} {below : List Frame} {meth : Method} {c : Code} {D : va_G} {cA : Nat → ClassId} {ad : Nat → Nat} {A : Nat → Prop} (B : zu_B p s m args c zb_Post_may 5 "StonePost" D cA ad A) (hret : meth.sig.returnType = (some .int)) (hlk : meth.locks = false) {Y : LX} {res : Int32 × IX} : ∀ (n : Nat) (x2 : Int32) (x3 : Int32) (x4 : Int32) (X : IX) (H : Heap) (locs : List Loc) (ls : Array Slot), va_P D zu_cl (zu_pic cA ad X Y) H → va_S A s.heap H locs → lv_has ls 5 [(0, .ref (ad 0)), (2, .int x2), (3, .int x3), (4, .int x4)] → fn_Post_may_L42 n x2 x3 x4 X = some res → W p l e zR_Post_may s m args below meth c H locs 0 0 (MQ below (zu_Qi D cA ad A res.1 res.2 Y) args s 0 0 A) (F0 m 42 ls []) := by
  intro n
  induction n with
  | zero =>
    intro x2 x3 x4 X H locs ls hP hS hl hf
    exact (Option.some_ne_none _ hf.symm).elim
  | succ n ih =>
    intro x2 x3 x4 X H locs ls hP hS hl hf
    exact zl_Post_may_B42 B hret hlk ih x2 x3 x4 X H locs ls hP hS hl  hf
set_option maxHeartbeats 4000000 in
theorem zl_Post_may_L17 {p : Program} {l : Launch} {e : Env} {s : State} {m : MethodId} {args : Array Value} {below : List Frame} {meth : Method} {c : Code} {D : va_G} {cA : Nat → ClassId} {ad : Nat → Nat} {A : Nat → Prop} (B : zu_B p s m args c zb_Post_may 5 "StonePost" D cA ad A) (hret : meth.sig.returnType = (some .int)) (hlk : meth.locks = false) {Y : LX} {res : Int32 × IX} (X : IX) (H : Heap) (locs : List Loc) (ls : Array Slot) (hP : va_P D zu_cl (zu_pic cA ad X Y) H) (hS : va_S A s.heap H locs) (hl : lv_has ls 5 [(0, .ref (ad 0))]) (hf : fn_Post_may_L17 X = some res) : W p l e zR_Post_may s m args below meth c H locs 0 0 (MQ below (zu_Qi D cA ad A res.1 res.2 Y) args s 0 0 A) (F0 m 17 ls []) := by
  obtain ⟨hx, hb, hml, hown, hts, hST⟩ := id B
  unfold fn_Post_may_L17 at hf
  refine lv_aload_n hx hb zd_Post_may_17 rfl (lv_at hl 0 rfl) ?_
  refine lv_ldc (v := -1000001) hx hb hown (hts _ zq_226) zd_Post_may_18 ?_
  obtain ⟨v10, X11, hq12, hf⟩ := zu_b2_e hf
  refine zw_Post_finding (rest := []) B hP hS hq12 zq_227 (Nat.le_of_ble_eq_true rfl) (Nat.le_of_ble_eq_true rfl) hl.1 rfl (Nat.le_of_ble_eq_true rfl) zd_Post_may_20 (by decide) (fun H locs hP hS => ?_)
  clear hq12
  obtain rfl := Option.some.inj hf
  exact zr_iret hx hb hret hlk hP hS zd_Post_may_23
set_option maxHeartbeats 4000000 in
theorem zl_Post_may {p : Program} {l : Launch} {e : Env} {s : State} {m : MethodId} {args : Array Value} {below : List Frame} {meth : Method} {c : Code} {D : va_G} {cA : Nat → ClassId} {ad : Nat → Nat} {A : Nat → Prop} (B : zu_B p s m args c zb_Post_may 5 "StonePost" D cA ad A) (hret : meth.sig.returnType = (some .int)) (hlk : meth.locks = false) {Y : LX} {res : Int32 × IX} {a1 : Int32} {a2 : Int32} {X : IX} (H : Heap) (locs : List Loc) (ls : Array Slot) (hP : va_P D zu_cl (zu_pic cA ad X Y) H) (hS : va_S A s.heap H locs) (hl : lv_has ls 5 [(0, .ref (ad 0)), (1, .int a1), (2, .int a2)]) (hf : fn_Post_may a1 a2 X = some res) : W p l e zR_Post_may s m args below meth c H locs 0 0 (MQ below (zu_Qi D cA ad A res.1 res.2 Y) args s 0 0 A) (F0 m 0 ls []) := by
  obtain ⟨hx, hb, hml, hown, hts, hST⟩ := id B
  unfold fn_Post_may at hf
  refine lv_iload_n hx hb zd_Post_may_0 rfl (lv_at hl 1 rfl) ?_
  obtain ⟨v1, hq2, hf⟩ := zu_b1_e hf
  refine zw_Post_isCell (rest := []) B hP hS hq2 zq_220 (Nat.le_of_ble_eq_true rfl) (Nat.le_of_ble_eq_true rfl) hl.1 rfl (Nat.le_of_ble_eq_true rfl) zd_Post_may_1 (by decide) (fun H locs hP hS => ?_)
  clear hq2
  refine lv_if_eq (tgt := 17) hx hb zd_Post_may_4 (by decide) (fun c3 => ?_) (fun c3 => ?_)
  · have hf := zu_t c3 hf
    exact zl_Post_may_L17 B hret hlk X _ _ _ hP hS (lv_sub hl [0] rfl) hf
  · have hf := zu_f c3 hf
    refine lv_iload_n hx hb zd_Post_may_7 rfl (lv_at hl 2 rfl) ?_
    refine lv_iconst (v := 0) hx hb zd_Post_may_8 (by decide) ?_
    refine lv_bipush (v := 60) hx hb zd_Post_may_9 (by decide) ?_
    obtain ⟨v4, hq5, hf⟩ := zu_b1_e hf
    refine zw_Post_isWithin (rest := []) B hP hS hq5 zq_223 (Nat.le_of_ble_eq_true rfl) (Nat.le_of_ble_eq_true rfl) hl.1 rfl (Nat.le_of_ble_eq_true rfl) zd_Post_may_11 (by decide) (fun H locs hP hS => ?_)
    clear hq5
    refine lv_if_ne (tgt := 24) hx hb zd_Post_may_14 (by decide) (fun c6 => ?_) (fun c6 => ?_)
    · have hf := zu_f c6 hf
      refine lv_aload_n hx hb zd_Post_may_24 rfl (lv_at hl 0 rfl) ?_
      refine zg_Post_chart B hP rfl zq_194 zd_Post_may_25 ?_
      refine lv_aload_n hx hb zd_Post_may_28 rfl (lv_at hl 0 rfl) ?_
      refine zg_Post_land B hP rfl zq_191 zd_Post_may_29 ?_
      obtain ⟨X7, hq8, hf⟩ := zu_b1_e hf
      refine zw_Chart_lay (rest := []) B hP hS rfl hq8 zq_382 (Nat.le_of_ble_eq_true rfl) (Nat.le_of_ble_eq_true rfl) hl.1 rfl (Nat.le_of_ble_eq_true rfl) zd_Post_may_32 (by decide) (fun H locs hP hS => ?_)
      clear hq8
      refine lv_iconst (v := 1) hx hb zd_Post_may_35 (by decide) ?_
      refine lv_iload_n hx hb zd_Post_may_36 rfl (lv_at hl 1 rfl) ?_
      refine lv_ishl hx hb zd_Post_may_37 ?_
      refine zr_nxi hf (fun v9 hf => ?_)
      refine lv_istore_n (lv' := [(3, .int v9), (0, .ref (ad 0)), (1, .int a1), (2, .int a2)]) hx hb zd_Post_may_38 rfl hl (by decide) rfl (fun ls hl => ?_)
      refine lv_iconst (v := 0) hx hb zd_Post_may_39 (by decide) ?_
      refine lv_istore (lv' := [(4, .int (0 : Int32)), (3, .int v9), (0, .ref (ad 0)), (1, .int a1), (2, .int a2)]) hx hb zd_Post_may_40 hl (by decide) rfl (fun ls hl => ?_)
      exact zl_Post_may_L42 B hret hlk 400 a2 v9 (0 : Int32) X7 _ _ _ hP hS (lv_sub hl [2, 4, 1, 0] rfl) hf
    · have hf := zu_t c6 hf
      exact zl_Post_may_L17 B hret hlk X _ _ _ hP hS (lv_sub hl [0] rfl) hf
theorem zC_Post_may (l : Launch) {D : va_G} {cA : Nat → ClassId} {ad : Nat → Nat} {A : Nat → Prop} {a1 : Int32} {a2 : Int32} {X : IX} {Y : LX} {res : Int32 × IX} (hf : fn_Post_may a1 a2 X = some res) : Met l zm_Post_may (zu_ws zm_Post_may zb_Post_may 5 (some .int)) zR_Post_may (va_Pc [.ref (ad 0), .int a1, .int a2] (zu_Pre D cA ad A X Y)) (zu_Qi D cA ad A res.1 res.2 Y) 0 0 A := by
  refine Met.ofW (cc := zb_Post_may) (maxL := 5) (ret := (some .int)) (by decide +kernel) rfl ?_
  intro p e s m args below meth c s₁ B0 hml hv
  obtain ⟨rfl, hP, hST⟩ := hv
  have B : zu_B p s m _ c zb_Post_may 5 "StonePost" D cA ad A := ⟨B0.exec, B0.bytes, hml, findClass_of_methodNamed B0.named, (fun w hw => atoms_spec (ws := zu_ws zm_Post_may zb_Post_may 5 (some .int)) B0.pre w (List.mem_cons_of_mem _ hw)), hST⟩
  have hl := lv_entry ([.ref (ad 0), .int a1, .int a2]) (n := 5) (Nat.le_of_ble_eq_true rfl)
  rw [lg_entry_eq]
  generalize (lg_sl ([.ref (ad 0), .int a1, .int a2]) ++ List.replicate (5 - (lg_sl ([.ref (ad 0), .int a1, .int a2])).length) Slot.unset).toArray = ls at hl ⊢
  exact zl_Post_may B B0.returns B0.notSynchronized s.heap [] ls hP va_S.rf hl  hf
theorem zw_Post_may {p : Program} {l : Launch} {e : Env} {R : Room} {s : State} {m : MethodId} {args : Array Value} {below : List Frame} {meth : Method} {c : Code} {H : Heap} {locs : List Loc} {cells slots : Nat} {Q : State → Prop} {cc : ByteArray} {pc nL : Nat} {ls : Array Slot} {rest st0 : List Value} {D : va_G} {cA : Nat → ClassId} {ad : Nat → Nat} {A : Nat → Prop} {X : IX} {Y : LX} {own : String} {index : Nat} {a1 : Int32} {a2 : Int32} {v1 : Int32} {X1 : IX} (B : zu_B p s m args c cc nL own D cA ad A) (hP : va_P D zu_cl (zu_pic cA ad X Y) H) (hS : va_S A s.heap H locs) (hq : fn_Post_may a1 a2 X = some (v1, X1)) (m1 : Cond.methodLink own index zm_Post_may ∈ zu_TB) (hR1 : 6 + 1 ≤ R.frames) (hR2 : 8 + (5 + 11) + 138 ≤ R.locals) (hsz : ls.size = nL) (hst : st0 = .int a2 :: .int a1 :: .ref (ad 0) :: rest) (hw : (rest.map fun v => v.category).sum ≤ 8) (hdg : decode cc pc = .ok (.invokevirtual index, 3)) (h00 : cells ≤ R.cells ∧ slots ≤ R.slots) (kk : ∀ (H1 : Heap) (locs1 : List Loc), va_P D zu_cl (zu_pic cA ad X1 Y) H1 → va_S A s.heap H1 locs1 → W p l e R s m args below meth c H1 locs1 cells slots Q (F0 m (pc + 3) ls (.int v1 :: rest))) : W p l e R s m args below meth c H locs cells slots Q (F0 m pc ls st0) := by
  subst hst
  exact zr_cVi (As := [.int a1, .int a2]) (rest := rest) (n := 2) (C := "StonePost") (T := zt_Post) (N := 8) B hP hS (zC_Post_may l  hq) (K := 1) rfl (by decide) (by decide) rfl rfl m1 zq_492 zq_493 zq_1 zq_494 (by decide +kernel) ⟨hR1, hR2⟩ rfl rfl rfl hsz rfl hw hdg h00 kk
abbrev zR_Chart_worth : Room := { frames := 0, cells := 0, slots := 0, locals := 0 }
theorem zd_Chart_worth_0 : decode zb_Chart_worth 0 = .ok (.aload_n 0, 1) := by decide +kernel
theorem zd_Chart_worth_1 : decode zb_Chart_worth 1 = .ok (.getfield 24, 3) := by decide +kernel
theorem zd_Chart_worth_4 : decode zb_Chart_worth 4 = .ok (.aload_n 0, 1) := by decide +kernel
theorem zd_Chart_worth_5 : decode zb_Chart_worth 5 = .ok (.getfield 11, 3) := by decide +kernel
theorem zd_Chart_worth_8 : decode zb_Chart_worth 8 = .ok (.iload_n 1, 1) := by decide +kernel
theorem zd_Chart_worth_9 : decode zb_Chart_worth 9 = .ok (.iaload, 1) := by decide +kernel
theorem zd_Chart_worth_10 : decode zb_Chart_worth 10 = .ok (.laload, 1) := by decide +kernel
theorem zd_Chart_worth_11 : decode zb_Chart_worth 11 = .ok (.aload_n 0, 1) := by decide +kernel
theorem zd_Chart_worth_12 : decode zb_Chart_worth 12 = .ok (.getfield 18, 3) := by decide +kernel
theorem zd_Chart_worth_15 : decode zb_Chart_worth 15 = .ok (.iload_n 1, 1) := by decide +kernel
theorem zd_Chart_worth_16 : decode zb_Chart_worth 16 = .ok (.iaload, 1) := by decide +kernel
theorem zd_Chart_worth_17 : decode zb_Chart_worth 17 = .ok (.i2l, 1) := by decide +kernel
theorem zd_Chart_worth_18 : decode zb_Chart_worth 18 = .ok (.lmul, 1) := by decide +kernel
theorem zd_Chart_worth_19 : decode zb_Chart_worth 19 = .ok (.aload_n 0, 1) := by decide +kernel
theorem zd_Chart_worth_20 : decode zb_Chart_worth 20 = .ok (.getfield 24, 3) := by decide +kernel
theorem zd_Chart_worth_23 : decode zb_Chart_worth 23 = .ok (.aload_n 0, 1) := by decide +kernel
theorem zd_Chart_worth_24 : decode zb_Chart_worth 24 = .ok (.getfield 15, 3) := by decide +kernel
theorem zd_Chart_worth_27 : decode zb_Chart_worth 27 = .ok (.iload_n 1, 1) := by decide +kernel
theorem zd_Chart_worth_28 : decode zb_Chart_worth 28 = .ok (.iaload, 1) := by decide +kernel
theorem zd_Chart_worth_29 : decode zb_Chart_worth 29 = .ok (.laload, 1) := by decide +kernel
theorem zd_Chart_worth_30 : decode zb_Chart_worth 30 = .ok (.bipush 12, 2) := by decide +kernel
theorem zd_Chart_worth_32 : decode zb_Chart_worth 32 = .ok (.aload_n 0, 1) := by decide +kernel
theorem zd_Chart_worth_33 : decode zb_Chart_worth 33 = .ok (.getfield 18, 3) := by decide +kernel
theorem zd_Chart_worth_36 : decode zb_Chart_worth 36 = .ok (.iload_n 1, 1) := by decide +kernel
theorem zd_Chart_worth_37 : decode zb_Chart_worth 37 = .ok (.iaload, 1) := by decide +kernel
theorem zd_Chart_worth_38 : decode zb_Chart_worth 38 = .ok (.isub, 1) := by decide +kernel
theorem zd_Chart_worth_39 : decode zb_Chart_worth 39 = .ok (.i2l, 1) := by decide +kernel
theorem zd_Chart_worth_40 : decode zb_Chart_worth 40 = .ok (.lmul, 1) := by decide +kernel
theorem zd_Chart_worth_41 : decode zb_Chart_worth 41 = .ok (.ladd, 1) := by decide +kernel
theorem zd_Chart_worth_42 : decode zb_Chart_worth 42 = .ok (.lreturn, 1) := by decide +kernel
set_option maxHeartbeats 4000000 in
theorem zl_Chart_worth {p : Program} {l : Launch} {e : Env} {s : State} {m : MethodId} {args : Array Value} {below : List Frame} {meth : Method} {c : Code} {D : va_G} {cA : Nat → ClassId} {ad : Nat → Nat} {A : Nat → Prop} (B : zu_B p s m args c zb_Chart_worth 2 "StonePost$Chart" D cA ad A) (hret : meth.sig.returnType = (some .long)) (hlk : meth.locks = false) {X : IX} {Y : LX} {res : Int64} {a1 : Int32} (H : Heap) (locs : List Loc) (ls : Array Slot) (hP : va_P D zu_cl (zu_pic cA ad X Y) H) (hS : va_S A s.heap H locs) (hl : lv_has ls 2 [(0, .ref (ad 1)), (1, .int a1)]) (hf : fn_Chart_worth X Y a1 = some res) : W p l e zR_Chart_worth s m args below meth c H locs 0 0 (MQ below (zu_Ql D cA ad A res X Y) args s 0 0 A) (F0 m 0 ls []) := by
  obtain ⟨hx, hb, hml, hown, hts, hST⟩ := id B
  unfold fn_Chart_worth at hf
  refine lv_aload_n hx hb zd_Chart_worth_0 rfl (lv_at hl 0 rfl) ?_
  refine zg_Chart_parts B hP rfl zq_114 zd_Chart_worth_1 ?_
  refine lv_aload_n hx hb zd_Chart_worth_4 rfl (lv_at hl 0 rfl) ?_
  refine zg_Chart_first B hP rfl zq_106 zd_Chart_worth_5 ?_
  refine lv_iload_n hx hb zd_Chart_worth_8 rfl (lv_at hl 1 rfl) ?_
  obtain ⟨hg1, hf⟩ := zu_gd_e hf
  refine zr_iald rfl B hP rfl (by decide) rfl hg1 zd_Chart_worth_9 ?_
  obtain ⟨hg2, hf⟩ := zu_gd_e hf
  refine zr_lald rfl B hP rfl (by decide) rfl hg2 zd_Chart_worth_10 ?_
  refine lv_aload_n hx hb zd_Chart_worth_11 rfl (lv_at hl 0 rfl) ?_
  refine zg_Chart_twelfths B hP rfl zq_110 zd_Chart_worth_12 ?_
  refine lv_iload_n hx hb zd_Chart_worth_15 rfl (lv_at hl 1 rfl) ?_
  obtain ⟨hg3, hf⟩ := zu_gd_e hf
  refine zr_iald rfl B hP rfl (by decide) rfl hg3 zd_Chart_worth_16 ?_
  refine lv_i2l hx hb zd_Chart_worth_17 rfl ?_
  refine lv_lmul hx hb zd_Chart_worth_18 ?_
  refine lv_aload_n hx hb zd_Chart_worth_19 rfl (lv_at hl 0 rfl) ?_
  refine zg_Chart_parts B hP rfl zq_114 zd_Chart_worth_20 ?_
  refine lv_aload_n hx hb zd_Chart_worth_23 rfl (lv_at hl 0 rfl) ?_
  refine zg_Chart_second B hP rfl zq_108 zd_Chart_worth_24 ?_
  refine lv_iload_n hx hb zd_Chart_worth_27 rfl (lv_at hl 1 rfl) ?_
  obtain ⟨hg4, hf⟩ := zu_gd_e hf
  refine zr_iald rfl B hP rfl (by decide) rfl hg4 zd_Chart_worth_28 ?_
  obtain ⟨hg5, hf⟩ := zu_gd_e hf
  refine zr_lald rfl B hP rfl (by decide) rfl hg5 zd_Chart_worth_29 ?_
  refine lv_bipush (v := 12) hx hb zd_Chart_worth_30 (by decide) ?_
  refine lv_aload_n hx hb zd_Chart_worth_32 rfl (lv_at hl 0 rfl) ?_
  refine zg_Chart_twelfths B hP rfl zq_110 zd_Chart_worth_33 ?_
  refine lv_iload_n hx hb zd_Chart_worth_36 rfl (lv_at hl 1 rfl) ?_
  obtain ⟨hg6, hf⟩ := zu_gd_e hf
  refine zr_iald rfl B hP rfl (by decide) rfl hg6 zd_Chart_worth_37 ?_
  refine lv_isub hx hb zd_Chart_worth_38 ?_
  refine lv_i2l hx hb zd_Chart_worth_39 rfl ?_
  refine lv_lmul hx hb zd_Chart_worth_40 ?_
  refine lv_ladd hx hb zd_Chart_worth_41 ?_
  obtain rfl := Option.some.inj hf
  exact zr_lret hx hb hret hlk hP hS zd_Chart_worth_42
theorem zC_Chart_worth (l : Launch) {D : va_G} {cA : Nat → ClassId} {ad : Nat → Nat} {A : Nat → Prop} {a1 : Int32} {X : IX} {Y : LX} {res : Int64} (hf : fn_Chart_worth X Y a1 = some res) : Met l zm_Chart_worth (zu_ws zm_Chart_worth zb_Chart_worth 2 (some .long)) zR_Chart_worth (va_Pc [.ref (ad 1), .int a1] (zu_Pre D cA ad A X Y)) (zu_Ql D cA ad A res X Y) 0 0 A := by
  refine Met.ofW (cc := zb_Chart_worth) (maxL := 2) (ret := (some .long)) (by decide +kernel) rfl ?_
  intro p e s m args below meth c s₁ B0 hml hv
  obtain ⟨rfl, hP, hST⟩ := hv
  have B : zu_B p s m _ c zb_Chart_worth 2 "StonePost$Chart" D cA ad A := ⟨B0.exec, B0.bytes, hml, findClass_of_methodNamed B0.named, (fun w hw => atoms_spec (ws := zu_ws zm_Chart_worth zb_Chart_worth 2 (some .long)) B0.pre w (List.mem_cons_of_mem _ hw)), hST⟩
  have hl := lv_entry ([.ref (ad 1), .int a1]) (n := 2) (Nat.le_of_ble_eq_true rfl)
  rw [lg_entry_eq]
  generalize (lg_sl ([.ref (ad 1), .int a1]) ++ List.replicate (2 - (lg_sl ([.ref (ad 1), .int a1])).length) Slot.unset).toArray = ls at hl ⊢
  exact zl_Chart_worth B B0.returns B0.notSynchronized s.heap [] ls hP va_S.rf hl  hf
theorem zw_Chart_worth {p : Program} {l : Launch} {e : Env} {R : Room} {s : State} {m : MethodId} {args : Array Value} {below : List Frame} {meth : Method} {c : Code} {H : Heap} {locs : List Loc} {cells slots : Nat} {Q : State → Prop} {cc : ByteArray} {pc nL : Nat} {ls : Array Slot} {rest st0 : List Value} {D : va_G} {cA : Nat → ClassId} {ad : Nat → Nat} {A : Nat → Prop} {X : IX} {Y : LX} {own : String} {index : Nat} {a1 : Int32} {v1 : Int64} (B : zu_B p s m args c cc nL own D cA ad A) (hP : va_P D zu_cl (zu_pic cA ad X Y) H) (hS : va_S A s.heap H locs) (hq : fn_Chart_worth X Y a1 = some v1) (m1 : Cond.methodLink own index zm_Chart_worth ∈ zu_TB) (hR1 : 0 + 1 ≤ R.frames) (hR2 : 8 + (2 + 11) + 0 ≤ R.locals) (hsz : ls.size = nL) (hst : st0 = .int a1 :: .ref (ad 1) :: rest) (hw : (rest.map fun v => v.category).sum ≤ 8) (hdg : decode cc pc = .ok (.invokevirtual index, 3)) (h00 : cells ≤ R.cells ∧ slots ≤ R.slots) (kk : ∀ (H1 : Heap) (locs1 : List Loc), va_P D zu_cl (zu_pic cA ad X Y) H1 → va_S A s.heap H1 locs1 → W p l e R s m args below meth c H1 locs1 cells slots Q (F0 m (pc + 3) ls (.long v1 :: rest))) : W p l e R s m args below meth c H locs cells slots Q (F0 m pc ls st0) := by
  subst hst
  exact zr_cVl (As := [.int a1]) (rest := rest) (n := 1) (C := "StonePost$Chart") (T := zt_Chart) (N := 9) B hP hS (zC_Chart_worth l  hq) (K := 2) rfl (by decide) (by decide) rfl rfl m1 zq_504 zq_505 zq_5 zq_506 (by decide +kernel) ⟨hR1, hR2⟩ rfl rfl rfl hsz rfl hw hdg h00 kk
abbrev zR_Chart_weigh : Room := { frames := 2, cells := 0, slots := 0, locals := 44 }
theorem zd_Chart_weigh_0 : decode zb_Chart_weigh 0 = .ok (.aload_n 0, 1) := by decide +kernel
theorem zd_Chart_weigh_1 : decode zb_Chart_weigh 1 = .ok (.getfield 24, 3) := by decide +kernel
theorem zd_Chart_weigh_4 : decode zb_Chart_weigh 4 = .ok (.lconst 0, 1) := by decide +kernel
theorem zd_Chart_weigh_5 : decode zb_Chart_weigh 5 = .ok (.invokestatic 111, 3) := by decide +kernel
theorem zd_Chart_weigh_8 : decode zb_Chart_weigh 8 = .ok (.aload_n 0, 1) := by decide +kernel
theorem zd_Chart_weigh_9 : decode zb_Chart_weigh 9 = .ok (.getfield 24, 3) := by decide +kernel
theorem zd_Chart_weigh_12 : decode zb_Chart_weigh 12 = .ok (.aload_n 0, 1) := by decide +kernel
theorem zd_Chart_weigh_13 : decode zb_Chart_weigh 13 = .ok (.getfield 48, 3) := by decide +kernel
theorem zd_Chart_weigh_16 : decode zb_Chart_weigh 16 = .ok (.lconst 1, 1) := by decide +kernel
theorem zd_Chart_weigh_17 : decode zb_Chart_weigh 17 = .ok (.lastore, 1) := by decide +kernel
theorem zd_Chart_weigh_18 : decode zb_Chart_weigh 18 = .ok (.iload_n 2, 1) := by decide +kernel
theorem zd_Chart_weigh_19 : decode zb_Chart_weigh 19 = .ok (.iconst 1, 1) := by decide +kernel
theorem zd_Chart_weigh_20 : decode zb_Chart_weigh 20 = .ok (.isub, 1) := by decide +kernel
theorem zd_Chart_weigh_21 : decode zb_Chart_weigh 21 = .ok (.istore_n 3, 1) := by decide +kernel
theorem zd_Chart_weigh_22 : decode zb_Chart_weigh 22 = .ok (.iload_n 3, 1) := by decide +kernel
theorem zd_Chart_weigh_23 : decode zb_Chart_weigh 23 = .ok (.iload_n 1, 1) := by decide +kernel
theorem zd_Chart_weigh_24 : decode zb_Chart_weigh 24 = .ok (.if_icmp .lt 74, 3) := by decide +kernel
theorem zd_Chart_weigh_27 : decode zb_Chart_weigh 27 = .ok (.iconst 0, 1) := by decide +kernel
theorem zd_Chart_weigh_28 : decode zb_Chart_weigh 28 = .ok (.istore 4, 2) := by decide +kernel
theorem zd_Chart_weigh_30 : decode zb_Chart_weigh 30 = .ok (.iload 4, 2) := by decide +kernel
theorem zd_Chart_weigh_32 : decode zb_Chart_weigh 32 = .ok (.bipush 24, 2) := by decide +kernel
theorem zd_Chart_weigh_34 : decode zb_Chart_weigh 34 = .ok (.if_icmp .ge 43, 3) := by decide +kernel
theorem zd_Chart_weigh_37 : decode zb_Chart_weigh 37 = .ok (.aload_n 0, 1) := by decide +kernel
theorem zd_Chart_weigh_38 : decode zb_Chart_weigh 38 = .ok (.getfield 28, 3) := by decide +kernel
theorem zd_Chart_weigh_41 : decode zb_Chart_weigh 41 = .ok (.iload 4, 2) := by decide +kernel
theorem zd_Chart_weigh_43 : decode zb_Chart_weigh 43 = .ok (.aload_n 0, 1) := by decide +kernel
theorem zd_Chart_weigh_44 : decode zb_Chart_weigh 44 = .ok (.aload_n 0, 1) := by decide +kernel
theorem zd_Chart_weigh_45 : decode zb_Chart_weigh 45 = .ok (.iload 4, 2) := by decide +kernel
theorem zd_Chart_weigh_47 : decode zb_Chart_weigh 47 = .ok (.iload_n 3, 1) := by decide +kernel
theorem zd_Chart_weigh_48 : decode zb_Chart_weigh 48 = .ok (.iconst 0, 1) := by decide +kernel
theorem zd_Chart_weigh_49 : decode zb_Chart_weigh 49 = .ok (.invokevirtual 101, 3) := by decide +kernel
theorem zd_Chart_weigh_52 : decode zb_Chart_weigh 52 = .ok (.invokevirtual 123, 3) := by decide +kernel
theorem zd_Chart_weigh_55 : decode zb_Chart_weigh 55 = .ok (.aload_n 0, 1) := by decide +kernel
theorem zd_Chart_weigh_56 : decode zb_Chart_weigh 56 = .ok (.aload_n 0, 1) := by decide +kernel
theorem zd_Chart_weigh_57 : decode zb_Chart_weigh 57 = .ok (.iload 4, 2) := by decide +kernel
theorem zd_Chart_weigh_59 : decode zb_Chart_weigh 59 = .ok (.iload_n 3, 1) := by decide +kernel
theorem zd_Chart_weigh_60 : decode zb_Chart_weigh 60 = .ok (.iconst 1, 1) := by decide +kernel
theorem zd_Chart_weigh_61 : decode zb_Chart_weigh 61 = .ok (.invokevirtual 101, 3) := by decide +kernel
theorem zd_Chart_weigh_64 : decode zb_Chart_weigh 64 = .ok (.invokevirtual 123, 3) := by decide +kernel
theorem zd_Chart_weigh_67 : decode zb_Chart_weigh 67 = .ok (.invokestatic 127, 3) := by decide +kernel
theorem zd_Chart_weigh_70 : decode zb_Chart_weigh 70 = .ok (.lastore, 1) := by decide +kernel
theorem zd_Chart_weigh_71 : decode zb_Chart_weigh 71 = .ok (.iinc 4 1, 3) := by decide +kernel
theorem zd_Chart_weigh_74 : decode zb_Chart_weigh 74 = .ok (.goto (-44), 3) := by decide +kernel
theorem zd_Chart_weigh_77 : decode zb_Chart_weigh 77 = .ok (.aload_n 0, 1) := by decide +kernel
theorem zd_Chart_weigh_78 : decode zb_Chart_weigh 78 = .ok (.getfield 28, 3) := by decide +kernel
theorem zd_Chart_weigh_81 : decode zb_Chart_weigh 81 = .ok (.iconst 0, 1) := by decide +kernel
theorem zd_Chart_weigh_82 : decode zb_Chart_weigh 82 = .ok (.aload_n 0, 1) := by decide +kernel
theorem zd_Chart_weigh_83 : decode zb_Chart_weigh 83 = .ok (.getfield 24, 3) := by decide +kernel
theorem zd_Chart_weigh_86 : decode zb_Chart_weigh 86 = .ok (.iconst 0, 1) := by decide +kernel
theorem zd_Chart_weigh_87 : decode zb_Chart_weigh 87 = .ok (.bipush 24, 2) := by decide +kernel
theorem zd_Chart_weigh_89 : decode zb_Chart_weigh 89 = .ok (.invokestatic 117, 3) := by decide +kernel
theorem zd_Chart_weigh_92 : decode zb_Chart_weigh 92 = .ok (.iinc 3 (-1), 3) := by decide +kernel
theorem zd_Chart_weigh_95 : decode zb_Chart_weigh 95 = .ok (.goto (-73), 3) := by decide +kernel
theorem zd_Chart_weigh_98 : decode zb_Chart_weigh 98 = .ok (.return_, 1) := by decide +kernel
set_option maxHeartbeats 4000000 in
theorem zl_Chart_weigh_B30 {p : Program} {l : Launch} {e : Env} {s : State} {m : MethodId} {args : Array Value} {below : List Frame} {meth : Method} {c : Code} {D : va_G} {cA : Nat → ClassId} {ad : Nat → Nat} {A : Nat → Prop} (B : zu_B p s m args c zb_Chart_weigh 5 "StonePost$Chart" D cA ad A) (hret : meth.sig.returnType = none) (hlk : meth.locks = false) {X : IX} {res : LX} {k22 : Int32 → Int32 → LX → Option LX} (hk22 : ∀ (x1 : Int32) (x3 : Int32) (Y : LX) (H : Heap) (locs : List Loc) (ls : Array Slot), va_P D zu_cl (zu_pic cA ad X Y) H → va_S A s.heap H locs → lv_has ls 5 [(0, .ref (ad 1)), (1, .int x1), (3, .int x3)] → k22 x1 x3 Y = some res → W p l e zR_Chart_weigh s m args below meth c H locs 0 0 (MQ below (zu_Qv D cA ad A X res) args s 0 0 A) (F0 m 22 ls [])) {k30 : Int32 → Int32 → Int32 → LX → Option LX} (hk30 : ∀ (x1 : Int32) (x3 : Int32) (x4 : Int32) (Y : LX) (H : Heap) (locs : List Loc) (ls : Array Slot), va_P D zu_cl (zu_pic cA ad X Y) H → va_S A s.heap H locs → lv_has ls 5 [(0, .ref (ad 1)), (1, .int x1), (3, .int x3), (4, .int x4)] → k30 x1 x3 x4 Y = some res → W p l e zR_Chart_weigh s m args below meth c H locs 0 0 (MQ below (zu_Qv D cA ad A X res) args s 0 0 A) (F0 m 30 ls [])) (x1 : Int32) (x3 : Int32) (x4 : Int32) (Y : LX) (H : Heap) (locs : List Loc) (ls : Array Slot) (hP : va_P D zu_cl (zu_pic cA ad X Y) H) (hS : va_S A s.heap H locs) (hl : lv_has ls 5 [(0, .ref (ad 1)), (1, .int x1), (3, .int x3), (4, .int x4)]) (hf : fn_Chart_weigh_B30 X k22 k30 x1 x3 x4 Y = some res) : W p l e zR_Chart_weigh s m args below meth c H locs 0 0 (MQ below (zu_Qv D cA ad A X res) args s 0 0 A) (F0 m 30 ls []) := by
  obtain ⟨hx, hb, hml, hown, hts, hST⟩ := id B
  unfold fn_Chart_weigh_B30 at hf
  refine lv_iload hx hb zd_Chart_weigh_30 (lv_at hl 3 rfl) ?_
  refine lv_bipush (v := 24) hx hb zd_Chart_weigh_32 (by decide) ?_
  refine lv_icmp_ge (tgt := 77) hx hb zd_Chart_weigh_34 (by decide) (fun c7 => ?_) (fun c7 => ?_)
  · have hf := zu_t c7 hf
    refine lv_aload_n hx hb zd_Chart_weigh_77 rfl (lv_at hl 0 rfl) ?_
    refine zg_Chart_nextParts B hP rfl zq_116 zd_Chart_weigh_78 ?_
    refine lv_iconst (v := 0) hx hb zd_Chart_weigh_81 (by decide) ?_
    refine lv_aload_n hx hb zd_Chart_weigh_82 rfl (lv_at hl 0 rfl) ?_
    refine zg_Chart_parts B hP rfl zq_114 zd_Chart_weigh_83 ?_
    refine lv_iconst (v := 0) hx hb zd_Chart_weigh_86 (by decide) ?_
    refine lv_bipush (v := 24) hx hb zd_Chart_weigh_87 (by decide) ?_
    refine zr_cpl (j0 := 0) (j1 := 0) (jn := 24) B hP hS (by decide) (by decide) (by decide) hf rfl (by decide) rfl rfl (by decide) rfl (by decide) zq_458 zq_259 zq_258 zq_9 hl.1 (by decide) (Nat.le_of_ble_eq_true rfl) zd_Chart_weigh_89 (fun Y8 H locs hf hP hS => ?_)
    obtain ⟨v9, ev9, hf⟩ := zu_nx_e hf
    refine lv_iinc (v := v9) (lv' := [(3, .int v9), (0, .ref (ad 1)), (1, .int x1), (4, .int x4)]) hx hb zd_Chart_weigh_92 hl (k := 2) rfl (by rw [ev9]; rfl) (by decide) rfl (fun ls hl => ?_)
    clear ev9
    refine lv_goto (tgt := 22) hx hb zd_Chart_weigh_95 (by decide) ?_
    exact hk22 x1 v9 Y8 _ _ _ hP hS (lv_sub hl [1, 2, 0] rfl) hf
  · have hf := zu_f c7 hf
    refine lv_aload_n hx hb zd_Chart_weigh_37 rfl (lv_at hl 0 rfl) ?_
    refine zg_Chart_nextParts B hP rfl zq_116 zd_Chart_weigh_38 ?_
    refine lv_iload hx hb zd_Chart_weigh_41 (lv_at hl 3 rfl) ?_
    refine lv_aload_n hx hb zd_Chart_weigh_43 rfl (lv_at hl 0 rfl) ?_
    refine lv_aload_n hx hb zd_Chart_weigh_44 rfl (lv_at hl 0 rfl) ?_
    refine lv_iload hx hb zd_Chart_weigh_45 (lv_at hl 3 rfl) ?_
    refine lv_iload_n hx hb zd_Chart_weigh_47 rfl (lv_at hl 2 rfl) ?_
    refine lv_iconst (v := 0) hx hb zd_Chart_weigh_48 (by decide) ?_
    obtain ⟨v10, hq11, hf⟩ := zu_b1_e hf
    refine zw_Chart_row (rest := [.ref (ad 1), .int x4, .ref (ad 7)]) B hP hS hq11 zq_427 (Nat.le_of_ble_eq_true rfl) (Nat.le_of_ble_eq_true rfl) hl.1 rfl (Nat.le_of_ble_eq_true rfl) zd_Chart_weigh_49 (by decide) (fun H locs hP hS => ?_)
    clear hq11
    obtain ⟨v12, hq13, hf⟩ := zu_b1_e hf
    refine zw_Chart_worth (rest := [.int x4, .ref (ad 7)]) B hP hS hq13 zq_503 (Nat.le_of_ble_eq_true rfl) (Nat.le_of_ble_eq_true rfl) hl.1 rfl (Nat.le_of_ble_eq_true rfl) zd_Chart_weigh_52 (by decide) (fun H locs hP hS => ?_)
    clear hq13
    refine lv_aload_n hx hb zd_Chart_weigh_55 rfl (lv_at hl 0 rfl) ?_
    refine lv_aload_n hx hb zd_Chart_weigh_56 rfl (lv_at hl 0 rfl) ?_
    refine lv_iload hx hb zd_Chart_weigh_57 (lv_at hl 3 rfl) ?_
    refine lv_iload_n hx hb zd_Chart_weigh_59 rfl (lv_at hl 2 rfl) ?_
    refine lv_iconst (v := 1) hx hb zd_Chart_weigh_60 (by decide) ?_
    obtain ⟨v14, hq15, hf⟩ := zu_b1_e hf
    refine zw_Chart_row (rest := [.ref (ad 1), .long v12, .int x4, .ref (ad 7)]) B hP hS hq15 zq_427 (Nat.le_of_ble_eq_true rfl) (Nat.le_of_ble_eq_true rfl) hl.1 rfl (Nat.le_of_ble_eq_true rfl) zd_Chart_weigh_61 (by decide) (fun H locs hP hS => ?_)
    clear hq15
    obtain ⟨v16, hq17, hf⟩ := zu_b1_e hf
    refine zw_Chart_worth (rest := [.long v12, .int x4, .ref (ad 7)]) B hP hS hq17 zq_503 (Nat.le_of_ble_eq_true rfl) (Nat.le_of_ble_eq_true rfl) hl.1 rfl (Nat.le_of_ble_eq_true rfl) zd_Chart_weigh_64 (by decide) (fun H locs hP hS => ?_)
    clear hq17
    refine va_mmax_long hx hb (hml.trans hl.1.symm) hown (hts _ zq_507) (hts _ zq_508) (hts _ zq_10) (hts _ zq_509) (by decide) (Nat.le_of_ble_eq_true rfl) (by decide) (by decide) zd_Chart_weigh_67 ?_
    refine zr_nxl hf (fun v18 hf => ?_)
    obtain ⟨hg19, hf⟩ := zu_gd_e hf
    refine zr_last rfl B hP hS hf rfl (by decide) rfl hg19 zd_Chart_weigh_70 (fun Y20 H locs hf hP hS => ?_)
    obtain ⟨v21, ev21, hf⟩ := zu_nx_e hf
    refine lv_iinc (v := v21) (lv' := [(4, .int v21), (0, .ref (ad 1)), (1, .int x1), (3, .int x3)]) hx hb zd_Chart_weigh_71 hl (k := 3) rfl (by rw [ev21]; rfl) (by decide) rfl (fun ls hl => ?_)
    clear ev21
    refine lv_goto (tgt := 30) hx hb zd_Chart_weigh_74 (by decide) ?_
    exact hk30 x1 x3 v21 Y20 _ _ _ hP hS (lv_sub hl [1, 2, 3, 0] rfl) hf
theorem zl_Chart_weigh_L30 {p : Program} {l : Launch} {e : Env} {s : State} {m : MethodId} {args : Array Value} {below : List Frame} {meth : Method} {c : Code} {D : va_G} {cA : Nat → ClassId} {ad : Nat → Nat} {A : Nat → Prop} (B : zu_B p s m args c zb_Chart_weigh 5 "StonePost$Chart" D cA ad A) (hret : meth.sig.returnType = none) (hlk : meth.locks = false) {X : IX} {res : LX} {k22 : Int32 → Int32 → LX → Option LX} (hk22 : ∀ (x1 : Int32) (x3 : Int32) (Y : LX) (H : Heap) (locs : List Loc) (ls : Array Slot), va_P D zu_cl (zu_pic cA ad X Y) H → va_S A s.heap H locs → lv_has ls 5 [(0, .ref (ad 1)), (1, .int x1), (3, .int x3)] → k22 x1 x3 Y = some res → W p l e zR_Chart_weigh s m args below meth c H locs 0 0 (MQ below (zu_Qv D cA ad A X res) args s 0 0 A) (F0 m 22 ls [])) : ∀ (n : Nat) (x1 : Int32) (x3 : Int32) (x4 : Int32) (Y : LX) (H : Heap) (locs : List Loc) (ls : Array Slot), va_P D zu_cl (zu_pic cA ad X Y) H → va_S A s.heap H locs → lv_has ls 5 [(0, .ref (ad 1)), (1, .int x1), (3, .int x3), (4, .int x4)] → fn_Chart_weigh_L30 X k22 n x1 x3 x4 Y = some res → W p l e zR_Chart_weigh s m args below meth c H locs 0 0 (MQ below (zu_Qv D cA ad A X res) args s 0 0 A) (F0 m 30 ls []) := by
  intro n
  induction n with
  | zero =>
    intro x1 x3 x4 Y H locs ls hP hS hl hf
    exact (Option.some_ne_none _ hf.symm).elim
  | succ n ih =>
    intro x1 x3 x4 Y H locs ls hP hS hl hf
    exact zl_Chart_weigh_B30 B hret hlk hk22 ih x1 x3 x4 Y H locs ls hP hS hl  hf
set_option maxHeartbeats 4000000 in
theorem zl_Chart_weigh_B22 {p : Program} {l : Launch} {e : Env} {s : State} {m : MethodId} {args : Array Value} {below : List Frame} {meth : Method} {c : Code} {D : va_G} {cA : Nat → ClassId} {ad : Nat → Nat} {A : Nat → Prop} (B : zu_B p s m args c zb_Chart_weigh 5 "StonePost$Chart" D cA ad A) (hret : meth.sig.returnType = none) (hlk : meth.locks = false) {X : IX} {res : LX} {k22 : Int32 → Int32 → LX → Option LX} (hk22 : ∀ (x1 : Int32) (x3 : Int32) (Y : LX) (H : Heap) (locs : List Loc) (ls : Array Slot), va_P D zu_cl (zu_pic cA ad X Y) H → va_S A s.heap H locs → lv_has ls 5 [(0, .ref (ad 1)), (1, .int x1), (3, .int x3)] → k22 x1 x3 Y = some res → W p l e zR_Chart_weigh s m args below meth c H locs 0 0 (MQ below (zu_Qv D cA ad A X res) args s 0 0 A) (F0 m 22 ls [])) (x1 : Int32) (x3 : Int32) (Y : LX) (H : Heap) (locs : List Loc) (ls : Array Slot) (hP : va_P D zu_cl (zu_pic cA ad X Y) H) (hS : va_S A s.heap H locs) (hl : lv_has ls 5 [(0, .ref (ad 1)), (1, .int x1), (3, .int x3)]) (hf : fn_Chart_weigh_B22 X k22 x1 x3 Y = some res) : W p l e zR_Chart_weigh s m args below meth c H locs 0 0 (MQ below (zu_Qv D cA ad A X res) args s 0 0 A) (F0 m 22 ls []) := by
  obtain ⟨hx, hb, hml, hown, hts, hST⟩ := id B
  unfold fn_Chart_weigh_B22 at hf
  refine lv_iload_n hx hb zd_Chart_weigh_22 rfl (lv_at hl 2 rfl) ?_
  refine lv_iload_n hx hb zd_Chart_weigh_23 rfl (lv_at hl 1 rfl) ?_
  refine lv_icmp_lt (tgt := 98) hx hb zd_Chart_weigh_24 (by decide) (fun c6 => ?_) (fun c6 => ?_)
  · have hf := zu_t c6 hf
    obtain rfl := Option.some.inj hf
    exact zr_vret hx hb hret hlk hP hS zd_Chart_weigh_98
  · have hf := zu_f c6 hf
    refine lv_iconst (v := 0) hx hb zd_Chart_weigh_27 (by decide) ?_
    refine lv_istore (lv' := [(4, .int (0 : Int32)), (0, .ref (ad 1)), (1, .int x1), (3, .int x3)]) hx hb zd_Chart_weigh_28 hl (by decide) rfl (fun ls hl => ?_)
    exact zl_Chart_weigh_L30 B hret hlk hk22 400 x1 x3 (0 : Int32) Y _ _ _ hP hS (lv_sub hl [1, 2, 3, 0] rfl) hf
theorem zl_Chart_weigh_L22 {p : Program} {l : Launch} {e : Env} {s : State} {m : MethodId} {args : Array Value} {below : List Frame} {meth : Method} {c : Code} {D : va_G} {cA : Nat → ClassId} {ad : Nat → Nat} {A : Nat → Prop} (B : zu_B p s m args c zb_Chart_weigh 5 "StonePost$Chart" D cA ad A) (hret : meth.sig.returnType = none) (hlk : meth.locks = false) {X : IX} {res : LX} : ∀ (n : Nat) (x1 : Int32) (x3 : Int32) (Y : LX) (H : Heap) (locs : List Loc) (ls : Array Slot), va_P D zu_cl (zu_pic cA ad X Y) H → va_S A s.heap H locs → lv_has ls 5 [(0, .ref (ad 1)), (1, .int x1), (3, .int x3)] → fn_Chart_weigh_L22 X n x1 x3 Y = some res → W p l e zR_Chart_weigh s m args below meth c H locs 0 0 (MQ below (zu_Qv D cA ad A X res) args s 0 0 A) (F0 m 22 ls []) := by
  intro n
  induction n with
  | zero =>
    intro x1 x3 Y H locs ls hP hS hl hf
    exact (Option.some_ne_none _ hf.symm).elim
  | succ n ih =>
    intro x1 x3 Y H locs ls hP hS hl hf
    exact zl_Chart_weigh_B22 B hret hlk ih x1 x3 Y H locs ls hP hS hl  hf
set_option maxHeartbeats 4000000 in
theorem zl_Chart_weigh {p : Program} {l : Launch} {e : Env} {s : State} {m : MethodId} {args : Array Value} {below : List Frame} {meth : Method} {c : Code} {D : va_G} {cA : Nat → ClassId} {ad : Nat → Nat} {A : Nat → Prop} (B : zu_B p s m args c zb_Chart_weigh 5 "StonePost$Chart" D cA ad A) (hret : meth.sig.returnType = none) (hlk : meth.locks = false) {X : IX} {res : LX} {a1 : Int32} {a2 : Int32} {Y : LX} (H : Heap) (locs : List Loc) (ls : Array Slot) (hP : va_P D zu_cl (zu_pic cA ad X Y) H) (hS : va_S A s.heap H locs) (hl : lv_has ls 5 [(0, .ref (ad 1)), (1, .int a1), (2, .int a2)]) (hf : fn_Chart_weigh X a1 a2 Y = some res) : W p l e zR_Chart_weigh s m args below meth c H locs 0 0 (MQ below (zu_Qv D cA ad A X res) args s 0 0 A) (F0 m 0 ls []) := by
  obtain ⟨hx, hb, hml, hown, hts, hST⟩ := id B
  unfold fn_Chart_weigh at hf
  refine lv_aload_n hx hb zd_Chart_weigh_0 rfl (lv_at hl 0 rfl) ?_
  refine zg_Chart_parts B hP rfl zq_114 zd_Chart_weigh_1 ?_
  refine lv_lconst (v := 0) hx hb zd_Chart_weigh_4 (by decide) ?_
  obtain ⟨Y1, hq2, hf⟩ := zu_b1_e hf
  refine zw_Arr_fillJ_12 (rest := []) B hP hS rfl hq2 zq_454 (Nat.le_of_ble_eq_true rfl) (Nat.le_of_ble_eq_true rfl) hl.1 rfl (Nat.le_of_ble_eq_true rfl) zd_Chart_weigh_5 (by decide) (fun H locs hP hS => ?_)
  clear hq2
  refine lv_aload_n hx hb zd_Chart_weigh_8 rfl (lv_at hl 0 rfl) ?_
  refine zg_Chart_parts B hP rfl zq_114 zd_Chart_weigh_9 ?_
  refine lv_aload_n hx hb zd_Chart_weigh_12 rfl (lv_at hl 0 rfl) ?_
  refine zg_Chart_home B hP rfl zq_120 zd_Chart_weigh_13 ?_
  refine lv_lconst (v := 1) hx hb zd_Chart_weigh_16 (by decide) ?_
  obtain ⟨hg3, hf⟩ := zu_gd_e hf
  refine zr_last rfl B hP hS hf rfl (by decide) rfl hg3 zd_Chart_weigh_17 (fun Y4 H locs hf hP hS => ?_)
  refine lv_iload_n hx hb zd_Chart_weigh_18 rfl (lv_at hl 2 rfl) ?_
  refine lv_iconst (v := 1) hx hb zd_Chart_weigh_19 (by decide) ?_
  refine lv_isub hx hb zd_Chart_weigh_20 ?_
  refine zr_nxi hf (fun v5 hf => ?_)
  refine lv_istore_n (lv' := [(3, .int v5), (0, .ref (ad 1)), (1, .int a1), (2, .int a2)]) hx hb zd_Chart_weigh_21 rfl hl (by decide) rfl (fun ls hl => ?_)
  exact zl_Chart_weigh_L22 B hret hlk 400 a1 v5 Y4 _ _ _ hP hS (lv_sub hl [1, 2, 0] rfl) hf
theorem zC_Chart_weigh (l : Launch) {D : va_G} {cA : Nat → ClassId} {ad : Nat → Nat} {A : Nat → Prop} {a1 : Int32} {a2 : Int32} {X : IX} {Y : LX} {res : LX} (hf : fn_Chart_weigh X a1 a2 Y = some res) : Met l zm_Chart_weigh (zu_ws zm_Chart_weigh zb_Chart_weigh 5 none) zR_Chart_weigh (va_Pc [.ref (ad 1), .int a1, .int a2] (zu_Pre D cA ad A X Y)) (zu_Qv D cA ad A X res) 0 0 A := by
  refine Met.ofW (cc := zb_Chart_weigh) (maxL := 5) (ret := none) (by decide +kernel) rfl ?_
  intro p e s m args below meth c s₁ B0 hml hv
  obtain ⟨rfl, hP, hST⟩ := hv
  have B : zu_B p s m _ c zb_Chart_weigh 5 "StonePost$Chart" D cA ad A := ⟨B0.exec, B0.bytes, hml, findClass_of_methodNamed B0.named, (fun w hw => atoms_spec (ws := zu_ws zm_Chart_weigh zb_Chart_weigh 5 none) B0.pre w (List.mem_cons_of_mem _ hw)), hST⟩
  have hl := lv_entry ([.ref (ad 1), .int a1, .int a2]) (n := 5) (Nat.le_of_ble_eq_true rfl)
  rw [lg_entry_eq]
  generalize (lg_sl ([.ref (ad 1), .int a1, .int a2]) ++ List.replicate (5 - (lg_sl ([.ref (ad 1), .int a1, .int a2])).length) Slot.unset).toArray = ls at hl ⊢
  exact zl_Chart_weigh B B0.returns B0.notSynchronized s.heap [] ls hP va_S.rf hl  hf
theorem zw_Chart_weigh {p : Program} {l : Launch} {e : Env} {R : Room} {s : State} {m : MethodId} {args : Array Value} {below : List Frame} {meth : Method} {c : Code} {H : Heap} {locs : List Loc} {cells slots : Nat} {Q : State → Prop} {cc : ByteArray} {pc nL : Nat} {ls : Array Slot} {rest st0 : List Value} {D : va_G} {cA : Nat → ClassId} {ad : Nat → Nat} {A : Nat → Prop} {X : IX} {Y : LX} {own : String} {index : Nat} {a1 : Int32} {a2 : Int32} {Y1 : LX} (B : zu_B p s m args c cc nL own D cA ad A) (hP : va_P D zu_cl (zu_pic cA ad X Y) H) (hS : va_S A s.heap H locs) (hq : fn_Chart_weigh X a1 a2 Y = some Y1) (m1 : Cond.methodLink own index zm_Chart_weigh ∈ zu_TB) (hR1 : 2 + 1 ≤ R.frames) (hR2 : 8 + (5 + 11) + 44 ≤ R.locals) (hsz : ls.size = nL) (hst : st0 = .int a2 :: .int a1 :: .ref (ad 1) :: rest) (hw : (rest.map fun v => v.category).sum ≤ 8) (hdg : decode cc pc = .ok (.invokevirtual index, 3)) (h00 : cells ≤ R.cells ∧ slots ≤ R.slots) (kk : ∀ (H1 : Heap) (locs1 : List Loc), va_P D zu_cl (zu_pic cA ad X Y1) H1 → va_S A s.heap H1 locs1 → W p l e R s m args below meth c H1 locs1 cells slots Q (F0 m (pc + 3) ls (rest))) : W p l e R s m args below meth c H locs cells slots Q (F0 m pc ls st0) := by
  subst hst
  exact zr_cVv (As := [.int a1, .int a2]) (rest := rest) (n := 2) (C := "StonePost$Chart") (T := zt_Chart) (N := 9) B hP hS (zC_Chart_weigh l  hq) (K := 2) rfl (by decide) (by decide) rfl rfl m1 zq_500 zq_501 zq_5 zq_502 (by decide +kernel) ⟨hR1, hR2⟩ rfl rfl rfl hsz rfl hw hdg h00 kk
abbrev zR_Post_best : Room := { frames := 6, cells := 0, slots := 0, locals := 138 }
theorem zd_Post_best_0 : decode zb_Post_best 0 = .ok (.iload_n 1, 1) := by decide +kernel
theorem zd_Post_best_1 : decode zb_Post_best 1 = .ok (.invokestatic 47, 3) := by decide +kernel
theorem zd_Post_best_4 : decode zb_Post_best 4 = .ok (.ifCond .eq 13, 3) := by decide +kernel
theorem zd_Post_best_7 : decode zb_Post_best 7 = .ok (.iload_n 2, 1) := by decide +kernel
theorem zd_Post_best_8 : decode zb_Post_best 8 = .ok (.iconst 0, 1) := by decide +kernel
theorem zd_Post_best_9 : decode zb_Post_best 9 = .ok (.bipush 15, 2) := by decide +kernel
theorem zd_Post_best_11 : decode zb_Post_best 11 = .ok (.invokestatic 51, 3) := by decide +kernel
theorem zd_Post_best_14 : decode zb_Post_best 14 = .ok (.ifCond .ne 11, 3) := by decide +kernel
theorem zd_Post_best_17 : decode zb_Post_best 17 = .ok (.aload_n 0, 1) := by decide +kernel
theorem zd_Post_best_18 : decode zb_Post_best 18 = .ok (.ldc 55, 2) := by decide +kernel
theorem zd_Post_best_20 : decode zb_Post_best 20 = .ok (.invokevirtual 56, 3) := by decide +kernel
theorem zd_Post_best_23 : decode zb_Post_best 23 = .ok (.i2l, 1) := by decide +kernel
theorem zd_Post_best_24 : decode zb_Post_best 24 = .ok (.lreturn, 1) := by decide +kernel
theorem zd_Post_best_25 : decode zb_Post_best 25 = .ok (.aload_n 0, 1) := by decide +kernel
theorem zd_Post_best_26 : decode zb_Post_best 26 = .ok (.getfield 25, 3) := by decide +kernel
theorem zd_Post_best_29 : decode zb_Post_best 29 = .ok (.aload_n 0, 1) := by decide +kernel
theorem zd_Post_best_30 : decode zb_Post_best 30 = .ok (.getfield 10, 3) := by decide +kernel
theorem zd_Post_best_33 : decode zb_Post_best 33 = .ok (.invokevirtual 136, 3) := by decide +kernel
theorem zd_Post_best_36 : decode zb_Post_best 36 = .ok (.aload_n 0, 1) := by decide +kernel
theorem zd_Post_best_37 : decode zb_Post_best 37 = .ok (.getfield 25, 3) := by decide +kernel
theorem zd_Post_best_40 : decode zb_Post_best 40 = .ok (.iconst 0, 1) := by decide +kernel
theorem zd_Post_best_41 : decode zb_Post_best 41 = .ok (.iload_n 2, 1) := by decide +kernel
theorem zd_Post_best_42 : decode zb_Post_best 42 = .ok (.invokevirtual 163, 3) := by decide +kernel
theorem zd_Post_best_45 : decode zb_Post_best 45 = .ok (.aload_n 0, 1) := by decide +kernel
theorem zd_Post_best_46 : decode zb_Post_best 46 = .ok (.getfield 25, 3) := by decide +kernel
theorem zd_Post_best_49 : decode zb_Post_best 49 = .ok (.getfield 153, 3) := by decide +kernel
theorem zd_Post_best_52 : decode zb_Post_best 52 = .ok (.iload_n 1, 1) := by decide +kernel
theorem zd_Post_best_53 : decode zb_Post_best 53 = .ok (.laload, 1) := by decide +kernel
theorem zd_Post_best_54 : decode zb_Post_best 54 = .ok (.lreturn, 1) := by decide +kernel
set_option maxHeartbeats 4000000 in
theorem zl_Post_best_L17 {p : Program} {l : Launch} {e : Env} {s : State} {m : MethodId} {args : Array Value} {below : List Frame} {meth : Method} {c : Code} {D : va_G} {cA : Nat → ClassId} {ad : Nat → Nat} {A : Nat → Prop} (B : zu_B p s m args c zb_Post_best 3 "StonePost" D cA ad A) (hret : meth.sig.returnType = (some .long)) (hlk : meth.locks = false) {res : Int64 × IX × LX} (X : IX) (Y : LX) (H : Heap) (locs : List Loc) (ls : Array Slot) (hP : va_P D zu_cl (zu_pic cA ad X Y) H) (hS : va_S A s.heap H locs) (hl : lv_has ls 3 [(0, .ref (ad 0))]) (hf : fn_Post_best_L17 X Y = some res) : W p l e zR_Post_best s m args below meth c H locs 0 0 (MQ below (zu_Ql D cA ad A res.1 res.2.1 res.2.2) args s 0 0 A) (F0 m 17 ls []) := by
  obtain ⟨hx, hb, hml, hown, hts, hST⟩ := id B
  unfold fn_Post_best_L17 at hf
  refine lv_aload_n hx hb zd_Post_best_17 rfl (lv_at hl 0 rfl) ?_
  refine lv_ldc (v := -1000001) hx hb hown (hts _ zq_226) zd_Post_best_18 ?_
  obtain ⟨v12, X13, hq14, hf⟩ := zu_b2_e hf
  refine zw_Post_finding (rest := []) B hP hS hq14 zq_227 (Nat.le_of_ble_eq_true rfl) (Nat.le_of_ble_eq_true rfl) hl.1 rfl (Nat.le_of_ble_eq_true rfl) zd_Post_best_20 (by decide) (fun H locs hP hS => ?_)
  clear hq14
  refine lv_i2l hx hb zd_Post_best_23 rfl ?_
  obtain rfl := Option.some.inj hf
  exact zr_lret hx hb hret hlk hP hS zd_Post_best_24
set_option maxHeartbeats 4000000 in
theorem zl_Post_best {p : Program} {l : Launch} {e : Env} {s : State} {m : MethodId} {args : Array Value} {below : List Frame} {meth : Method} {c : Code} {D : va_G} {cA : Nat → ClassId} {ad : Nat → Nat} {A : Nat → Prop} (B : zu_B p s m args c zb_Post_best 3 "StonePost" D cA ad A) (hret : meth.sig.returnType = (some .long)) (hlk : meth.locks = false) {res : Int64 × IX × LX} {a1 : Int32} {a2 : Int32} {X : IX} {Y : LX} (H : Heap) (locs : List Loc) (ls : Array Slot) (hP : va_P D zu_cl (zu_pic cA ad X Y) H) (hS : va_S A s.heap H locs) (hl : lv_has ls 3 [(0, .ref (ad 0)), (1, .int a1), (2, .int a2)]) (hf : fn_Post_best a1 a2 X Y = some res) : W p l e zR_Post_best s m args below meth c H locs 0 0 (MQ below (zu_Ql D cA ad A res.1 res.2.1 res.2.2) args s 0 0 A) (F0 m 0 ls []) := by
  obtain ⟨hx, hb, hml, hown, hts, hST⟩ := id B
  unfold fn_Post_best at hf
  refine lv_iload_n hx hb zd_Post_best_0 rfl (lv_at hl 1 rfl) ?_
  obtain ⟨v1, hq2, hf⟩ := zu_b1_e hf
  refine zw_Post_isCell (rest := []) B hP hS hq2 zq_220 (Nat.le_of_ble_eq_true rfl) (Nat.le_of_ble_eq_true rfl) hl.1 rfl (Nat.le_of_ble_eq_true rfl) zd_Post_best_1 (by decide) (fun H locs hP hS => ?_)
  clear hq2
  refine lv_if_eq (tgt := 17) hx hb zd_Post_best_4 (by decide) (fun c3 => ?_) (fun c3 => ?_)
  · have hf := zu_t c3 hf
    exact zl_Post_best_L17 B hret hlk X Y _ _ _ hP hS (lv_sub hl [0] rfl) hf
  · have hf := zu_f c3 hf
    refine lv_iload_n hx hb zd_Post_best_7 rfl (lv_at hl 2 rfl) ?_
    refine lv_iconst (v := 0) hx hb zd_Post_best_8 (by decide) ?_
    refine lv_bipush (v := 15) hx hb zd_Post_best_9 (by decide) ?_
    obtain ⟨v4, hq5, hf⟩ := zu_b1_e hf
    refine zw_Post_isWithin (rest := []) B hP hS hq5 zq_223 (Nat.le_of_ble_eq_true rfl) (Nat.le_of_ble_eq_true rfl) hl.1 rfl (Nat.le_of_ble_eq_true rfl) zd_Post_best_11 (by decide) (fun H locs hP hS => ?_)
    clear hq5
    refine lv_if_ne (tgt := 25) hx hb zd_Post_best_14 (by decide) (fun c6 => ?_) (fun c6 => ?_)
    · have hf := zu_f c6 hf
      refine lv_aload_n hx hb zd_Post_best_25 rfl (lv_at hl 0 rfl) ?_
      refine zg_Post_chart B hP rfl zq_194 zd_Post_best_26 ?_
      refine lv_aload_n hx hb zd_Post_best_29 rfl (lv_at hl 0 rfl) ?_
      refine zg_Post_land B hP rfl zq_191 zd_Post_best_30 ?_
      obtain ⟨X7, hq8, hf⟩ := zu_b1_e hf
      refine zw_Chart_lay (rest := []) B hP hS rfl hq8 zq_382 (Nat.le_of_ble_eq_true rfl) (Nat.le_of_ble_eq_true rfl) hl.1 rfl (Nat.le_of_ble_eq_true rfl) zd_Post_best_33 (by decide) (fun H locs hP hS => ?_)
      clear hq8
      refine lv_aload_n hx hb zd_Post_best_36 rfl (lv_at hl 0 rfl) ?_
      refine zg_Post_chart B hP rfl zq_194 zd_Post_best_37 ?_
      refine lv_iconst (v := 0) hx hb zd_Post_best_40 (by decide) ?_
      refine lv_iload_n hx hb zd_Post_best_41 rfl (lv_at hl 2 rfl) ?_
      obtain ⟨Y9, hq10, hf⟩ := zu_b1_e hf
      refine zw_Chart_weigh (rest := []) B hP hS hq10 zq_499 (Nat.le_of_ble_eq_true rfl) (Nat.le_of_ble_eq_true rfl) hl.1 rfl (Nat.le_of_ble_eq_true rfl) zd_Post_best_42 (by decide) (fun H locs hP hS => ?_)
      clear hq10
      refine lv_aload_n hx hb zd_Post_best_45 rfl (lv_at hl 0 rfl) ?_
      refine zg_Post_chart B hP rfl zq_194 zd_Post_best_46 ?_
      refine zg_Chart_parts B hP rfl zq_115 zd_Post_best_49 ?_
      refine lv_iload_n hx hb zd_Post_best_52 rfl (lv_at hl 1 rfl) ?_
      obtain ⟨hg11, hf⟩ := zu_gd_e hf
      refine zr_lald rfl B hP rfl (by decide) rfl hg11 zd_Post_best_53 ?_
      obtain rfl := Option.some.inj hf
      exact zr_lret hx hb hret hlk hP hS zd_Post_best_54
    · have hf := zu_t c6 hf
      exact zl_Post_best_L17 B hret hlk X Y _ _ _ hP hS (lv_sub hl [0] rfl) hf
theorem zC_Post_best (l : Launch) {D : va_G} {cA : Nat → ClassId} {ad : Nat → Nat} {A : Nat → Prop} {a1 : Int32} {a2 : Int32} {X : IX} {Y : LX} {res : Int64 × IX × LX} (hf : fn_Post_best a1 a2 X Y = some res) : Met l zm_Post_best (zu_ws zm_Post_best zb_Post_best 3 (some .long)) zR_Post_best (va_Pc [.ref (ad 0), .int a1, .int a2] (zu_Pre D cA ad A X Y)) (zu_Ql D cA ad A res.1 res.2.1 res.2.2) 0 0 A := by
  refine Met.ofW (cc := zb_Post_best) (maxL := 3) (ret := (some .long)) (by decide +kernel) rfl ?_
  intro p e s m args below meth c s₁ B0 hml hv
  obtain ⟨rfl, hP, hST⟩ := hv
  have B : zu_B p s m _ c zb_Post_best 3 "StonePost" D cA ad A := ⟨B0.exec, B0.bytes, hml, findClass_of_methodNamed B0.named, (fun w hw => atoms_spec (ws := zu_ws zm_Post_best zb_Post_best 3 (some .long)) B0.pre w (List.mem_cons_of_mem _ hw)), hST⟩
  have hl := lv_entry ([.ref (ad 0), .int a1, .int a2]) (n := 3) (Nat.le_of_ble_eq_true rfl)
  rw [lg_entry_eq]
  generalize (lg_sl ([.ref (ad 0), .int a1, .int a2]) ++ List.replicate (3 - (lg_sl ([.ref (ad 0), .int a1, .int a2])).length) Slot.unset).toArray = ls at hl ⊢
  exact zl_Post_best B B0.returns B0.notSynchronized s.heap [] ls hP va_S.rf hl  hf
theorem zw_Post_best {p : Program} {l : Launch} {e : Env} {R : Room} {s : State} {m : MethodId} {args : Array Value} {below : List Frame} {meth : Method} {c : Code} {H : Heap} {locs : List Loc} {cells slots : Nat} {Q : State → Prop} {cc : ByteArray} {pc nL : Nat} {ls : Array Slot} {rest st0 : List Value} {D : va_G} {cA : Nat → ClassId} {ad : Nat → Nat} {A : Nat → Prop} {X : IX} {Y : LX} {own : String} {index : Nat} {a1 : Int32} {a2 : Int32} {v1 : Int64} {X1 : IX} {Y1 : LX} (B : zu_B p s m args c cc nL own D cA ad A) (hP : va_P D zu_cl (zu_pic cA ad X Y) H) (hS : va_S A s.heap H locs) (hq : fn_Post_best a1 a2 X Y = some (v1, X1, Y1)) (m1 : Cond.methodLink own index zm_Post_best ∈ zu_TB) (hR1 : 6 + 1 ≤ R.frames) (hR2 : 8 + (3 + 11) + 138 ≤ R.locals) (hsz : ls.size = nL) (hst : st0 = .int a2 :: .int a1 :: .ref (ad 0) :: rest) (hw : (rest.map fun v => v.category).sum ≤ 8) (hdg : decode cc pc = .ok (.invokevirtual index, 3)) (h00 : cells ≤ R.cells ∧ slots ≤ R.slots) (kk : ∀ (H1 : Heap) (locs1 : List Loc), va_P D zu_cl (zu_pic cA ad X1 Y1) H1 → va_S A s.heap H1 locs1 → W p l e R s m args below meth c H1 locs1 cells slots Q (F0 m (pc + 3) ls (.long v1 :: rest))) : W p l e R s m args below meth c H locs cells slots Q (F0 m pc ls st0) := by
  subst hst
  exact zr_cVl (As := [.int a1, .int a2]) (rest := rest) (n := 2) (C := "StonePost") (T := zt_Post) (N := 8) B hP hS (zC_Post_best l  hq) (K := 1) rfl (by decide) (by decide) rfl rfl m1 zq_496 zq_497 zq_1 zq_498 (by decide +kernel) ⟨hR1, hR2⟩ rfl rfl rfl hsz rfl hw hdg h00 kk
