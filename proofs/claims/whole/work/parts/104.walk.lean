abbrev zR_Post_choose : Room := { frames := 6, cells := 0, slots := 0, locals := 138 }
theorem zd_Post_choose_0 : decode zb_Post_choose 0 = .ok (.aload_n 0, 1) := by decide +kernel
theorem zd_Post_choose_1 : decode zb_Post_choose 1 = .ok (.iload_n 1, 1) := by decide +kernel
theorem zd_Post_choose_2 : decode zb_Post_choose 2 = .ok (.invokevirtual 82, 3) := by decide +kernel
theorem zd_Post_choose_5 : decode zb_Post_choose 5 = .ok (.ifCond .eq 13, 3) := by decide +kernel
theorem zd_Post_choose_8 : decode zb_Post_choose 8 = .ok (.iload_n 2, 1) := by decide +kernel
theorem zd_Post_choose_9 : decode zb_Post_choose 9 = .ok (.iconst 1, 1) := by decide +kernel
theorem zd_Post_choose_10 : decode zb_Post_choose 10 = .ok (.bipush 15, 2) := by decide +kernel
theorem zd_Post_choose_12 : decode zb_Post_choose 12 = .ok (.invokestatic 51, 3) := by decide +kernel
theorem zd_Post_choose_15 : decode zb_Post_choose 15 = .ok (.ifCond .ne 10, 3) := by decide +kernel
theorem zd_Post_choose_18 : decode zb_Post_choose 18 = .ok (.aload_n 0, 1) := by decide +kernel
theorem zd_Post_choose_19 : decode zb_Post_choose 19 = .ok (.ldc 55, 2) := by decide +kernel
theorem zd_Post_choose_21 : decode zb_Post_choose 21 = .ok (.invokevirtual 56, 3) := by decide +kernel
theorem zd_Post_choose_24 : decode zb_Post_choose 24 = .ok (.ireturn, 1) := by decide +kernel
theorem zd_Post_choose_25 : decode zb_Post_choose 25 = .ok (.aload_n 0, 1) := by decide +kernel
theorem zd_Post_choose_26 : decode zb_Post_choose 26 = .ok (.getfield 10, 3) := by decide +kernel
theorem zd_Post_choose_29 : decode zb_Post_choose 29 = .ok (.getfield 87, 3) := by decide +kernel
theorem zd_Post_choose_32 : decode zb_Post_choose 32 = .ok (.iload_n 1, 1) := by decide +kernel
theorem zd_Post_choose_33 : decode zb_Post_choose 33 = .ok (.aaload, 1) := by decide +kernel
theorem zd_Post_choose_34 : decode zb_Post_choose 34 = .ok (.astore_n 3, 1) := by decide +kernel
theorem zd_Post_choose_35 : decode zb_Post_choose 35 = .ok (.aload_n 3, 1) := by decide +kernel
theorem zd_Post_choose_36 : decode zb_Post_choose 36 = .ok (.getfield 91, 3) := by decide +kernel
theorem zd_Post_choose_39 : decode zb_Post_choose 39 = .ok (.iconst 1, 1) := by decide +kernel
theorem zd_Post_choose_40 : decode zb_Post_choose 40 = .ok (.iaload, 1) := by decide +kernel
theorem zd_Post_choose_41 : decode zb_Post_choose 41 = .ok (.istore 4, 2) := by decide +kernel
theorem zd_Post_choose_43 : decode zb_Post_choose 43 = .ok (.aload_n 3, 1) := by decide +kernel
theorem zd_Post_choose_44 : decode zb_Post_choose 44 = .ok (.invokevirtual 167, 3) := by decide +kernel
theorem zd_Post_choose_47 : decode zb_Post_choose 47 = .ok (.ifCond .ne 15, 3) := by decide +kernel
theorem zd_Post_choose_50 : decode zb_Post_choose 50 = .ok (.aload_n 0, 1) := by decide +kernel
theorem zd_Post_choose_51 : decode zb_Post_choose 51 = .ok (.getfield 10, 3) := by decide +kernel
theorem zd_Post_choose_54 : decode zb_Post_choose 54 = .ok (.iload 4, 2) := by decide +kernel
theorem zd_Post_choose_56 : decode zb_Post_choose 56 = .ok (.invokevirtual 171, 3) := by decide +kernel
theorem zd_Post_choose_59 : decode zb_Post_choose 59 = .ok (.ifCond .eq 10, 3) := by decide +kernel
theorem zd_Post_choose_62 : decode zb_Post_choose 62 = .ok (.aload_n 0, 1) := by decide +kernel
theorem zd_Post_choose_63 : decode zb_Post_choose 63 = .ok (.ldc 76, 2) := by decide +kernel
theorem zd_Post_choose_65 : decode zb_Post_choose 65 = .ok (.invokevirtual 56, 3) := by decide +kernel
theorem zd_Post_choose_68 : decode zb_Post_choose 68 = .ok (.ireturn, 1) := by decide +kernel
theorem zd_Post_choose_69 : decode zb_Post_choose 69 = .ok (.aload_n 0, 1) := by decide +kernel
theorem zd_Post_choose_70 : decode zb_Post_choose 70 = .ok (.getfield 25, 3) := by decide +kernel
theorem zd_Post_choose_73 : decode zb_Post_choose 73 = .ok (.aload_n 0, 1) := by decide +kernel
theorem zd_Post_choose_74 : decode zb_Post_choose 74 = .ok (.getfield 10, 3) := by decide +kernel
theorem zd_Post_choose_77 : decode zb_Post_choose 77 = .ok (.invokevirtual 136, 3) := by decide +kernel
theorem zd_Post_choose_80 : decode zb_Post_choose 80 = .ok (.aload_n 0, 1) := by decide +kernel
theorem zd_Post_choose_81 : decode zb_Post_choose 81 = .ok (.getfield 25, 3) := by decide +kernel
theorem zd_Post_choose_84 : decode zb_Post_choose 84 = .ok (.iconst 1, 1) := by decide +kernel
theorem zd_Post_choose_85 : decode zb_Post_choose 85 = .ok (.iload_n 2, 1) := by decide +kernel
theorem zd_Post_choose_86 : decode zb_Post_choose 86 = .ok (.invokevirtual 163, 3) := by decide +kernel
theorem zd_Post_choose_89 : decode zb_Post_choose 89 = .ok (.aload_n 0, 1) := by decide +kernel
theorem zd_Post_choose_90 : decode zb_Post_choose 90 = .ok (.getfield 25, 3) := by decide +kernel
theorem zd_Post_choose_93 : decode zb_Post_choose 93 = .ok (.aload_n 0, 1) := by decide +kernel
theorem zd_Post_choose_94 : decode zb_Post_choose 94 = .ok (.getfield 25, 3) := by decide +kernel
theorem zd_Post_choose_97 : decode zb_Post_choose 97 = .ok (.iload 4, 2) := by decide +kernel
theorem zd_Post_choose_99 : decode zb_Post_choose 99 = .ok (.iconst 0, 1) := by decide +kernel
theorem zd_Post_choose_100 : decode zb_Post_choose 100 = .ok (.iconst 1, 1) := by decide +kernel
theorem zd_Post_choose_101 : decode zb_Post_choose 101 = .ok (.invokevirtual 174, 3) := by decide +kernel
theorem zd_Post_choose_104 : decode zb_Post_choose 104 = .ok (.invokevirtual 178, 3) := by decide +kernel
theorem zd_Post_choose_107 : decode zb_Post_choose 107 = .ok (.aload_n 0, 1) := by decide +kernel
theorem zd_Post_choose_108 : decode zb_Post_choose 108 = .ok (.getfield 25, 3) := by decide +kernel
theorem zd_Post_choose_111 : decode zb_Post_choose 111 = .ok (.aload_n 0, 1) := by decide +kernel
theorem zd_Post_choose_112 : decode zb_Post_choose 112 = .ok (.getfield 25, 3) := by decide +kernel
theorem zd_Post_choose_115 : decode zb_Post_choose 115 = .ok (.iload 4, 2) := by decide +kernel
theorem zd_Post_choose_117 : decode zb_Post_choose 117 = .ok (.iconst 0, 1) := by decide +kernel
theorem zd_Post_choose_118 : decode zb_Post_choose 118 = .ok (.iconst 0, 1) := by decide +kernel
theorem zd_Post_choose_119 : decode zb_Post_choose 119 = .ok (.invokevirtual 174, 3) := by decide +kernel
theorem zd_Post_choose_122 : decode zb_Post_choose 122 = .ok (.invokevirtual 178, 3) := by decide +kernel
theorem zd_Post_choose_125 : decode zb_Post_choose 125 = .ok (.lcmp, 1) := by decide +kernel
theorem zd_Post_choose_126 : decode zb_Post_choose 126 = .ok (.ifCond .le 7, 3) := by decide +kernel
theorem zd_Post_choose_129 : decode zb_Post_choose 129 = .ok (.iconst 1, 1) := by decide +kernel
theorem zd_Post_choose_130 : decode zb_Post_choose 130 = .ok (.goto 4, 3) := by decide +kernel
theorem zd_Post_choose_133 : decode zb_Post_choose 133 = .ok (.iconst 0, 1) := by decide +kernel
theorem zd_Post_choose_134 : decode zb_Post_choose 134 = .ok (.ireturn, 1) := by decide +kernel
set_option maxHeartbeats 4000000 in
theorem zl_Post_choose_L134 {p : Program} {l : Launch} {e : Env} {s : State} {m : MethodId} {args : Array Value} {below : List Frame} {meth : Method} {c : Code} {D : va_G} {cA : Nat → ClassId} {ad : Nat → Nat} {A : Nat → Prop} (B : zu_B p s m args c zb_Post_choose 5 "StonePost" D cA ad A) (hret : meth.sig.returnType = (some .int)) (hlk : meth.locks = false) {res : Int32 × IX × LX} (y0 : Int32) (X : IX) (Y : LX) (H : Heap) (locs : List Loc) (ls : Array Slot) (hP : va_P D zu_cl (zu_pic cA ad X Y) H) (hS : va_S A s.heap H locs) (hl : lv_has ls 5 []) (hf : fn_Post_choose_L134 y0 X Y = some res) : W p l e zR_Post_choose s m args below meth c H locs 0 0 (MQ below (zu_Qi D cA ad A res.1 res.2.1 res.2.2) args s 0 0 A) (F0 m 134 ls [.int y0]) := by
  obtain ⟨hx, hb, hml, hown, hts, hST⟩ := id B
  unfold fn_Post_choose_L134 at hf
  obtain rfl := Option.some.inj hf
  exact zr_iret hx hb hret hlk hP hS zd_Post_choose_134
set_option maxHeartbeats 4000000 in
theorem zl_Post_choose_L62 {p : Program} {l : Launch} {e : Env} {s : State} {m : MethodId} {args : Array Value} {below : List Frame} {meth : Method} {c : Code} {D : va_G} {cA : Nat → ClassId} {ad : Nat → Nat} {A : Nat → Prop} (B : zu_B p s m args c zb_Post_choose 5 "StonePost" D cA ad A) (hret : meth.sig.returnType = (some .int)) (hlk : meth.locks = false) {res : Int32 × IX × LX} (X : IX) (Y : LX) (H : Heap) (locs : List Loc) (ls : Array Slot) (hP : va_P D zu_cl (zu_pic cA ad X Y) H) (hS : va_S A s.heap H locs) (hl : lv_has ls 5 [(0, .ref (ad 0))]) (hf : fn_Post_choose_L62 X Y = some res) : W p l e zR_Post_choose s m args below meth c H locs 0 0 (MQ below (zu_Qi D cA ad A res.1 res.2.1 res.2.2) args s 0 0 A) (F0 m 62 ls []) := by
  obtain ⟨hx, hb, hml, hown, hts, hST⟩ := id B
  unfold fn_Post_choose_L62 at hf
  refine lv_aload_n hx hb zd_Post_choose_62 rfl (lv_at hl 0 rfl) ?_
  refine lv_ldc (v := -1000005) hx hb hown (hts _ zq_246) zd_Post_choose_63 ?_
  obtain ⟨v31, X32, hq33, hf⟩ := zu_b2_e hf
  refine zw_Post_finding (rest := []) B hP hS hq33 zq_227 (Nat.le_of_ble_eq_true rfl) (Nat.le_of_ble_eq_true rfl) hl.1 rfl (Nat.le_of_ble_eq_true rfl) zd_Post_choose_65 (by decide) (fun H locs hP hS => ?_)
  clear hq33
  obtain rfl := Option.some.inj hf
  exact zr_iret hx hb hret hlk hP hS zd_Post_choose_68
set_option maxHeartbeats 4000000 in
theorem zl_Post_choose_L18 {p : Program} {l : Launch} {e : Env} {s : State} {m : MethodId} {args : Array Value} {below : List Frame} {meth : Method} {c : Code} {D : va_G} {cA : Nat → ClassId} {ad : Nat → Nat} {A : Nat → Prop} (B : zu_B p s m args c zb_Post_choose 5 "StonePost" D cA ad A) (hret : meth.sig.returnType = (some .int)) (hlk : meth.locks = false) {res : Int32 × IX × LX} (X : IX) (Y : LX) (H : Heap) (locs : List Loc) (ls : Array Slot) (hP : va_P D zu_cl (zu_pic cA ad X Y) H) (hS : va_S A s.heap H locs) (hl : lv_has ls 5 [(0, .ref (ad 0))]) (hf : fn_Post_choose_L18 X Y = some res) : W p l e zR_Post_choose s m args below meth c H locs 0 0 (MQ below (zu_Qi D cA ad A res.1 res.2.1 res.2.2) args s 0 0 A) (F0 m 18 ls []) := by
  obtain ⟨hx, hb, hml, hown, hts, hST⟩ := id B
  unfold fn_Post_choose_L18 at hf
  refine lv_aload_n hx hb zd_Post_choose_18 rfl (lv_at hl 0 rfl) ?_
  refine lv_ldc (v := -1000001) hx hb hown (hts _ zq_226) zd_Post_choose_19 ?_
  obtain ⟨v28, X29, hq30, hf⟩ := zu_b2_e hf
  refine zw_Post_finding (rest := []) B hP hS hq30 zq_227 (Nat.le_of_ble_eq_true rfl) (Nat.le_of_ble_eq_true rfl) hl.1 rfl (Nat.le_of_ble_eq_true rfl) zd_Post_choose_21 (by decide) (fun H locs hP hS => ?_)
  clear hq30
  obtain rfl := Option.some.inj hf
  exact zr_iret hx hb hret hlk hP hS zd_Post_choose_24
set_option maxHeartbeats 4000000 in
theorem zl_Post_choose {p : Program} {l : Launch} {e : Env} {s : State} {m : MethodId} {args : Array Value} {below : List Frame} {meth : Method} {c : Code} {D : va_G} {cA : Nat → ClassId} {ad : Nat → Nat} {A : Nat → Prop} (B : zu_B p s m args c zb_Post_choose 5 "StonePost" D cA ad A) (hret : meth.sig.returnType = (some .int)) (hlk : meth.locks = false) {res : Int32 × IX × LX} {a1 : Int32} {a2 : Int32} {X : IX} {Y : LX} (H : Heap) (locs : List Loc) (ls : Array Slot) (hP : va_P D zu_cl (zu_pic cA ad X Y) H) (hS : va_S A s.heap H locs) (hl : lv_has ls 5 [(0, .ref (ad 0)), (1, .int a1), (2, .int a2)]) (hf : fn_Post_choose a1 a2 X Y = some res) : W p l e zR_Post_choose s m args below meth c H locs 0 0 (MQ below (zu_Qi D cA ad A res.1 res.2.1 res.2.2) args s 0 0 A) (F0 m 0 ls []) := by
  obtain ⟨hx, hb, hml, hown, hts, hST⟩ := id B
  unfold fn_Post_choose at hf
  refine lv_aload_n hx hb zd_Post_choose_0 rfl (lv_at hl 0 rfl) ?_
  refine lv_iload_n hx hb zd_Post_choose_1 rfl (lv_at hl 1 rfl) ?_
  obtain ⟨v1, hq2, hf⟩ := zu_b1_e hf
  refine zw_Post_isThrower (rest := []) B hP hS hq2 zq_265 (Nat.le_of_ble_eq_true rfl) (Nat.le_of_ble_eq_true rfl) hl.1 rfl (Nat.le_of_ble_eq_true rfl) zd_Post_choose_2 (by decide) (fun H locs hP hS => ?_)
  clear hq2
  refine lv_if_eq (tgt := 18) hx hb zd_Post_choose_5 (by decide) (fun c3 => ?_) (fun c3 => ?_)
  · have hf := zu_t c3 hf
    exact zl_Post_choose_L18 B hret hlk X Y _ _ _ hP hS (lv_sub hl [0] rfl) hf
  · have hf := zu_f c3 hf
    refine lv_iload_n hx hb zd_Post_choose_8 rfl (lv_at hl 2 rfl) ?_
    refine lv_iconst (v := 1) hx hb zd_Post_choose_9 (by decide) ?_
    refine lv_bipush (v := 15) hx hb zd_Post_choose_10 (by decide) ?_
    obtain ⟨v4, hq5, hf⟩ := zu_b1_e hf
    refine zw_Post_isWithin (rest := []) B hP hS hq5 zq_223 (Nat.le_of_ble_eq_true rfl) (Nat.le_of_ble_eq_true rfl) hl.1 rfl (Nat.le_of_ble_eq_true rfl) zd_Post_choose_12 (by decide) (fun H locs hP hS => ?_)
    clear hq5
    refine lv_if_ne (tgt := 25) hx hb zd_Post_choose_15 (by decide) (fun c6 => ?_) (fun c6 => ?_)
    · have hf := zu_f c6 hf
      refine lv_aload_n hx hb zd_Post_choose_25 rfl (lv_at hl 0 rfl) ?_
      refine zg_Post_land B hP rfl zq_191 zd_Post_choose_26 ?_
      refine zg_Land_throwers B hP rfl zq_55 zd_Post_choose_29 ?_
      refine lv_iload_n hx hb zd_Post_choose_32 rfl (lv_at hl 1 rfl) ?_
      obtain ⟨hg7, hf⟩ := zu_gd_e hf
      refine zr_thr rfl B hP (zk_Land_throwers rfl) hg7 zd_Post_choose_33 ?_
      refine lv_astore_n (lv' := [(3, .ref (ad (zu_th (20 + 6) (a1.toNatClampNeg)))), (0, .ref (ad 0)), (1, .int a1), (2, .int a2)]) hx hb zd_Post_choose_34 rfl hl (by decide) rfl (fun ls hl => ?_)
      refine lv_aload_n hx hb zd_Post_choose_35 rfl (lv_at hl 0 rfl) ?_
      refine zg_Thr_facts B hP (zk_thr (zk_Land_throwers rfl) (zu_ib_lt hg7)) zq_41 zd_Post_choose_36 ?_
      refine lv_iconst (v := 1) hx hb zd_Post_choose_39 (by decide) ?_
      refine zr_iald (j := 1) (by decide) B hP (zk_Thr_facts (zk_thr (zk_Land_throwers rfl) (zu_ib_lt hg7))) (by decide) rfl (by decide) zd_Post_choose_40 ?_
      refine zr_nxi hf (fun v8 hf => ?_)
      refine lv_istore (lv' := [(4, .int v8), (3, .ref (ad (zu_th (20 + 6) (a1.toNatClampNeg)))), (0, .ref (ad 0)), (1, .int a1), (2, .int a2)]) hx hb zd_Post_choose_41 hl (by decide) rfl (fun ls hl => ?_)
      refine lv_aload_n hx hb zd_Post_choose_43 rfl (lv_at hl 1 rfl) ?_
      obtain ⟨v9, hq10, hf⟩ := zu_b1_e hf
      refine zw_Thr_isIll (rest := []) B hP hS (zk_thr (zk_Land_throwers rfl) (zu_ib_lt hg7)) hq10 zq_514 (Nat.le_of_ble_eq_true rfl) (Nat.le_of_ble_eq_true rfl) hl.1 rfl (Nat.le_of_ble_eq_true rfl) zd_Post_choose_44 (by decide) (fun H locs hP hS => ?_)
      clear hq10
      refine lv_if_ne (tgt := 62) hx hb zd_Post_choose_47 (by decide) (fun c11 => ?_) (fun c11 => ?_)
      · have hf := zu_f c11 hf
        exact zl_Post_choose_L62 B hret hlk X Y _ _ _ hP hS (lv_sub hl [2] rfl) hf
      · have hf := zu_t c11 hf
        refine lv_aload_n hx hb zd_Post_choose_50 rfl (lv_at hl 2 rfl) ?_
        refine zg_Post_land B hP rfl zq_191 zd_Post_choose_51 ?_
        refine lv_iload hx hb zd_Post_choose_54 (lv_at hl 0 rfl) ?_
        obtain ⟨v12, hq13, hf⟩ := zu_b1_e hf
        refine zw_Land_staysOn (rest := []) B hP hS rfl hq13 zq_515 (Nat.le_of_ble_eq_true rfl) (Nat.le_of_ble_eq_true rfl) hl.1 rfl (Nat.le_of_ble_eq_true rfl) zd_Post_choose_56 (by decide) (fun H locs hP hS => ?_)
        clear hq13
        refine lv_if_eq (tgt := 69) hx hb zd_Post_choose_59 (by decide) (fun c14 => ?_) (fun c14 => ?_)
        · have hf := zu_t c14 hf
          refine lv_aload_n hx hb zd_Post_choose_69 rfl (lv_at hl 2 rfl) ?_
          refine zg_Post_chart B hP rfl zq_194 zd_Post_choose_70 ?_
          refine lv_aload_n hx hb zd_Post_choose_73 rfl (lv_at hl 2 rfl) ?_
          refine zg_Post_land B hP rfl zq_191 zd_Post_choose_74 ?_
          obtain ⟨X15, hq16, hf⟩ := zu_b1_e hf
          refine zw_Chart_lay (rest := []) B hP hS rfl hq16 zq_382 (Nat.le_of_ble_eq_true rfl) (Nat.le_of_ble_eq_true rfl) hl.1 rfl (Nat.le_of_ble_eq_true rfl) zd_Post_choose_77 (by decide) (fun H locs hP hS => ?_)
          clear hq16
          refine lv_aload_n hx hb zd_Post_choose_80 rfl (lv_at hl 2 rfl) ?_
          refine zg_Post_chart B hP rfl zq_194 zd_Post_choose_81 ?_
          refine lv_iconst (v := 1) hx hb zd_Post_choose_84 (by decide) ?_
          refine lv_iload_n hx hb zd_Post_choose_85 rfl (lv_at hl 4 rfl) ?_
          obtain ⟨Y17, hq18, hf⟩ := zu_b1_e hf
          refine zw_Chart_weigh (rest := []) B hP hS hq18 zq_499 (Nat.le_of_ble_eq_true rfl) (Nat.le_of_ble_eq_true rfl) hl.1 rfl (Nat.le_of_ble_eq_true rfl) zd_Post_choose_86 (by decide) (fun H locs hP hS => ?_)
          clear hq18
          refine lv_aload_n hx hb zd_Post_choose_89 rfl (lv_at hl 2 rfl) ?_
          refine zg_Post_chart B hP rfl zq_194 zd_Post_choose_90 ?_
          refine lv_aload_n hx hb zd_Post_choose_93 rfl (lv_at hl 2 rfl) ?_
          refine zg_Post_chart B hP rfl zq_194 zd_Post_choose_94 ?_
          refine lv_iload hx hb zd_Post_choose_97 (lv_at hl 0 rfl) ?_
          refine lv_iconst (v := 0) hx hb zd_Post_choose_99 (by decide) ?_
          refine lv_iconst (v := 1) hx hb zd_Post_choose_100 (by decide) ?_
          obtain ⟨v19, hq20, hf⟩ := zu_b1_e hf
          refine zw_Chart_row (rest := [.ref (ad 1)]) B hP hS hq20 zq_516 (Nat.le_of_ble_eq_true rfl) (Nat.le_of_ble_eq_true rfl) hl.1 rfl (Nat.le_of_ble_eq_true rfl) zd_Post_choose_101 (by decide) (fun H locs hP hS => ?_)
          clear hq20
          obtain ⟨v21, hq22, hf⟩ := zu_b1_e hf
          refine zw_Chart_worth (rest := []) B hP hS hq22 zq_517 (Nat.le_of_ble_eq_true rfl) (Nat.le_of_ble_eq_true rfl) hl.1 rfl (Nat.le_of_ble_eq_true rfl) zd_Post_choose_104 (by decide) (fun H locs hP hS => ?_)
          clear hq22
          refine lv_aload_n hx hb zd_Post_choose_107 rfl (lv_at hl 2 rfl) ?_
          refine zg_Post_chart B hP rfl zq_194 zd_Post_choose_108 ?_
          refine lv_aload_n hx hb zd_Post_choose_111 rfl (lv_at hl 2 rfl) ?_
          refine zg_Post_chart B hP rfl zq_194 zd_Post_choose_112 ?_
          refine lv_iload hx hb zd_Post_choose_115 (lv_at hl 0 rfl) ?_
          refine lv_iconst (v := 0) hx hb zd_Post_choose_117 (by decide) ?_
          refine lv_iconst (v := 0) hx hb zd_Post_choose_118 (by decide) ?_
          obtain ⟨v23, hq24, hf⟩ := zu_b1_e hf
          refine zw_Chart_row (rest := [.ref (ad 1), .long v21]) B hP hS hq24 zq_516 (Nat.le_of_ble_eq_true rfl) (Nat.le_of_ble_eq_true rfl) hl.1 rfl (Nat.le_of_ble_eq_true rfl) zd_Post_choose_119 (by decide) (fun H locs hP hS => ?_)
          clear hq24
          obtain ⟨v25, hq26, hf⟩ := zu_b1_e hf
          refine zw_Chart_worth (rest := [.long v21]) B hP hS hq26 zq_517 (Nat.le_of_ble_eq_true rfl) (Nat.le_of_ble_eq_true rfl) hl.1 rfl (Nat.le_of_ble_eq_true rfl) zd_Post_choose_122 (by decide) (fun H locs hP hS => ?_)
          clear hq26
          refine W.lcmp hx hb zd_Post_choose_125 ?_
          refine lv_if_le (tgt := 133) hx hb zd_Post_choose_126 (by decide) (fun c27 => ?_) (fun c27 => ?_)
          · have hf := zu_t c27 hf
            refine lv_iconst (v := 0) hx hb zd_Post_choose_133 (by decide) ?_
            exact zl_Post_choose_L134 B hret hlk (0 : Int32) X15 Y17 _ _ _ hP hS (lv_sub hl [] rfl) hf
          · have hf := zu_f c27 hf
            refine lv_iconst (v := 1) hx hb zd_Post_choose_129 (by decide) ?_
            refine lv_goto (tgt := 134) hx hb zd_Post_choose_130 (by decide) ?_
            exact zl_Post_choose_L134 B hret hlk (1 : Int32) X15 Y17 _ _ _ hP hS (lv_sub hl [] rfl) hf
        · have hf := zu_f c14 hf
          exact zl_Post_choose_L62 B hret hlk X Y _ _ _ hP hS (lv_sub hl [2] rfl) hf
    · have hf := zu_t c6 hf
      exact zl_Post_choose_L18 B hret hlk X Y _ _ _ hP hS (lv_sub hl [0] rfl) hf
theorem zC_Post_choose (l : Launch) {D : va_G} {cA : Nat → ClassId} {ad : Nat → Nat} {A : Nat → Prop} {a1 : Int32} {a2 : Int32} {X : IX} {Y : LX} {res : Int32 × IX × LX} (hf : fn_Post_choose a1 a2 X Y = some res) : Met l zm_Post_choose (zu_ws zm_Post_choose zb_Post_choose 5 (some .int)) zR_Post_choose (va_Pc [.ref (ad 0), .int a1, .int a2] (zu_Pre D cA ad A X Y)) (zu_Qi D cA ad A res.1 res.2.1 res.2.2) 0 0 A := by
  refine Met.ofW (cc := zb_Post_choose) (maxL := 5) (ret := (some .int)) (by decide +kernel) rfl ?_
  intro p e s m args below meth c s₁ B0 hml hv
  obtain ⟨rfl, hP, hST⟩ := hv
  have B : zu_B p s m _ c zb_Post_choose 5 "StonePost" D cA ad A := ⟨B0.exec, B0.bytes, hml, findClass_of_methodNamed B0.named, (fun w hw => atoms_spec (ws := zu_ws zm_Post_choose zb_Post_choose 5 (some .int)) B0.pre w (List.mem_cons_of_mem _ hw)), hST⟩
  have hl := lv_entry ([.ref (ad 0), .int a1, .int a2]) (n := 5) (Nat.le_of_ble_eq_true rfl)
  rw [lg_entry_eq]
  generalize (lg_sl ([.ref (ad 0), .int a1, .int a2]) ++ List.replicate (5 - (lg_sl ([.ref (ad 0), .int a1, .int a2])).length) Slot.unset).toArray = ls at hl ⊢
  exact zl_Post_choose B B0.returns B0.notSynchronized s.heap [] ls hP va_S.rf hl  hf
theorem zw_Post_choose {p : Program} {l : Launch} {e : Env} {R : Room} {s : State} {m : MethodId} {args : Array Value} {below : List Frame} {meth : Method} {c : Code} {H : Heap} {locs : List Loc} {cells slots : Nat} {Q : State → Prop} {cc : ByteArray} {pc nL : Nat} {ls : Array Slot} {rest st0 : List Value} {D : va_G} {cA : Nat → ClassId} {ad : Nat → Nat} {A : Nat → Prop} {X : IX} {Y : LX} {own : String} {index : Nat} {a1 : Int32} {a2 : Int32} {v1 : Int32} {X1 : IX} {Y1 : LX} (B : zu_B p s m args c cc nL own D cA ad A) (hP : va_P D zu_cl (zu_pic cA ad X Y) H) (hS : va_S A s.heap H locs) (hq : fn_Post_choose a1 a2 X Y = some (v1, X1, Y1)) (m1 : Cond.methodLink own index zm_Post_choose ∈ zu_TB) (hR1 : 6 + 1 ≤ R.frames) (hR2 : 8 + (5 + 11) + 138 ≤ R.locals) (hsz : ls.size = nL) (hst : st0 = .int a2 :: .int a1 :: .ref (ad 0) :: rest) (hw : (rest.map fun v => v.category).sum ≤ 8) (hdg : decode cc pc = .ok (.invokevirtual index, 3)) (h00 : cells ≤ R.cells ∧ slots ≤ R.slots) (kk : ∀ (H1 : Heap) (locs1 : List Loc), va_P D zu_cl (zu_pic cA ad X1 Y1) H1 → va_S A s.heap H1 locs1 → W p l e R s m args below meth c H1 locs1 cells slots Q (F0 m (pc + 3) ls (.int v1 :: rest))) : W p l e R s m args below meth c H locs cells slots Q (F0 m pc ls st0) := by
  subst hst
  exact zr_cVi (As := [.int a1, .int a2]) (rest := rest) (n := 2) (C := "StonePost") (T := zt_Post) (N := 8) B hP hS (zC_Post_choose l  hq) (K := 1) rfl (by decide) (by decide) rfl rfl m1 zq_511 zq_512 zq_1 zq_513 (by decide +kernel) ⟨hR1, hR2⟩ rfl rfl rfl hsz rfl hw hdg h00 kk
abbrev zR_Post_plan : Room := { frames := 6, cells := 0, slots := 0, locals := 138 }
theorem zd_Post_plan_0 : decode zb_Post_plan 0 = .ok (.iload_n 1, 1) := by decide +kernel
theorem zd_Post_plan_1 : decode zb_Post_plan 1 = .ok (.invokestatic 47, 3) := by decide +kernel
theorem zd_Post_plan_4 : decode zb_Post_plan 4 = .ok (.ifCond .eq 13, 3) := by decide +kernel
theorem zd_Post_plan_7 : decode zb_Post_plan 7 = .ok (.iload_n 2, 1) := by decide +kernel
theorem zd_Post_plan_8 : decode zb_Post_plan 8 = .ok (.iconst 1, 1) := by decide +kernel
theorem zd_Post_plan_9 : decode zb_Post_plan 9 = .ok (.bipush 8, 2) := by decide +kernel
theorem zd_Post_plan_11 : decode zb_Post_plan 11 = .ok (.invokestatic 51, 3) := by decide +kernel
theorem zd_Post_plan_14 : decode zb_Post_plan 14 = .ok (.ifCond .ne 10, 3) := by decide +kernel
theorem zd_Post_plan_17 : decode zb_Post_plan 17 = .ok (.aload_n 0, 1) := by decide +kernel
theorem zd_Post_plan_18 : decode zb_Post_plan 18 = .ok (.ldc 55, 2) := by decide +kernel
theorem zd_Post_plan_20 : decode zb_Post_plan 20 = .ok (.invokevirtual 56, 3) := by decide +kernel
theorem zd_Post_plan_23 : decode zb_Post_plan 23 = .ok (.ireturn, 1) := by decide +kernel
theorem zd_Post_plan_24 : decode zb_Post_plan 24 = .ok (.aload_n 0, 1) := by decide +kernel
theorem zd_Post_plan_25 : decode zb_Post_plan 25 = .ok (.getfield 10, 3) := by decide +kernel
theorem zd_Post_plan_28 : decode zb_Post_plan 28 = .ok (.getfield 182, 3) := by decide +kernel
theorem zd_Post_plan_31 : decode zb_Post_plan 31 = .ok (.bipush 8, 2) := by decide +kernel
theorem zd_Post_plan_33 : decode zb_Post_plan 33 = .ok (.if_icmp .le 10, 3) := by decide +kernel
theorem zd_Post_plan_36 : decode zb_Post_plan 36 = .ok (.aload_n 0, 1) := by decide +kernel
theorem zd_Post_plan_37 : decode zb_Post_plan 37 = .ok (.ldc 185, 2) := by decide +kernel
theorem zd_Post_plan_39 : decode zb_Post_plan 39 = .ok (.invokevirtual 56, 3) := by decide +kernel
theorem zd_Post_plan_42 : decode zb_Post_plan 42 = .ok (.ireturn, 1) := by decide +kernel
theorem zd_Post_plan_43 : decode zb_Post_plan 43 = .ok (.aload_n 0, 1) := by decide +kernel
theorem zd_Post_plan_44 : decode zb_Post_plan 44 = .ok (.getfield 25, 3) := by decide +kernel
theorem zd_Post_plan_47 : decode zb_Post_plan 47 = .ok (.aload_n 0, 1) := by decide +kernel
theorem zd_Post_plan_48 : decode zb_Post_plan 48 = .ok (.getfield 10, 3) := by decide +kernel
theorem zd_Post_plan_51 : decode zb_Post_plan 51 = .ok (.invokevirtual 136, 3) := by decide +kernel
theorem zd_Post_plan_54 : decode zb_Post_plan 54 = .ok (.iconst 0, 1) := by decide +kernel
theorem zd_Post_plan_55 : decode zb_Post_plan 55 = .ok (.istore_n 3, 1) := by decide +kernel
theorem zd_Post_plan_56 : decode zb_Post_plan 56 = .ok (.ldc2_w 186, 3) := by decide +kernel
theorem zd_Post_plan_59 : decode zb_Post_plan 59 = .ok (.lstore 4, 2) := by decide +kernel
theorem zd_Post_plan_61 : decode zb_Post_plan 61 = .ok (.iconst 0, 1) := by decide +kernel
theorem zd_Post_plan_62 : decode zb_Post_plan 62 = .ok (.istore 6, 2) := by decide +kernel
theorem zd_Post_plan_64 : decode zb_Post_plan 64 = .ok (.iload 6, 2) := by decide +kernel
theorem zd_Post_plan_66 : decode zb_Post_plan 66 = .ok (.iconst 1, 1) := by decide +kernel
theorem zd_Post_plan_67 : decode zb_Post_plan 67 = .ok (.aload_n 0, 1) := by decide +kernel
theorem zd_Post_plan_68 : decode zb_Post_plan 68 = .ok (.getfield 10, 3) := by decide +kernel
theorem zd_Post_plan_71 : decode zb_Post_plan 71 = .ok (.getfield 182, 3) := by decide +kernel
theorem zd_Post_plan_74 : decode zb_Post_plan 74 = .ok (.ishl, 1) := by decide +kernel
theorem zd_Post_plan_75 : decode zb_Post_plan 75 = .ok (.if_icmp .ge 61, 3) := by decide +kernel
theorem zd_Post_plan_78 : decode zb_Post_plan 78 = .ok (.aload_n 0, 1) := by decide +kernel
theorem zd_Post_plan_79 : decode zb_Post_plan 79 = .ok (.getfield 25, 3) := by decide +kernel
theorem zd_Post_plan_82 : decode zb_Post_plan 82 = .ok (.iload_n 1, 1) := by decide +kernel
theorem zd_Post_plan_83 : decode zb_Post_plan 83 = .ok (.iload_n 2, 1) := by decide +kernel
theorem zd_Post_plan_84 : decode zb_Post_plan 84 = .ok (.iload 6, 2) := by decide +kernel
theorem zd_Post_plan_86 : decode zb_Post_plan 86 = .ok (.invokevirtual 149, 3) := by decide +kernel
theorem zd_Post_plan_89 : decode zb_Post_plan 89 = .ok (.aload_n 0, 1) := by decide +kernel
theorem zd_Post_plan_90 : decode zb_Post_plan 90 = .ok (.getfield 25, 3) := by decide +kernel
theorem zd_Post_plan_93 : decode zb_Post_plan 93 = .ok (.getfield 153, 3) := by decide +kernel
theorem zd_Post_plan_96 : decode zb_Post_plan 96 = .ok (.aload_n 0, 1) := by decide +kernel
theorem zd_Post_plan_97 : decode zb_Post_plan 97 = .ok (.getfield 10, 3) := by decide +kernel
theorem zd_Post_plan_100 : decode zb_Post_plan 100 = .ok (.getfield 63, 3) := by decide +kernel
theorem zd_Post_plan_103 : decode zb_Post_plan 103 = .ok (.laload, 1) := by decide +kernel
theorem zd_Post_plan_104 : decode zb_Post_plan 104 = .ok (.lload 4, 2) := by decide +kernel
theorem zd_Post_plan_106 : decode zb_Post_plan 106 = .ok (.lcmp, 1) := by decide +kernel
theorem zd_Post_plan_107 : decode zb_Post_plan 107 = .ok (.ifCond .le 23, 3) := by decide +kernel
theorem zd_Post_plan_110 : decode zb_Post_plan 110 = .ok (.aload_n 0, 1) := by decide +kernel
theorem zd_Post_plan_111 : decode zb_Post_plan 111 = .ok (.getfield 25, 3) := by decide +kernel
theorem zd_Post_plan_114 : decode zb_Post_plan 114 = .ok (.getfield 153, 3) := by decide +kernel
theorem zd_Post_plan_117 : decode zb_Post_plan 117 = .ok (.aload_n 0, 1) := by decide +kernel
theorem zd_Post_plan_118 : decode zb_Post_plan 118 = .ok (.getfield 10, 3) := by decide +kernel
theorem zd_Post_plan_121 : decode zb_Post_plan 121 = .ok (.getfield 63, 3) := by decide +kernel
theorem zd_Post_plan_124 : decode zb_Post_plan 124 = .ok (.laload, 1) := by decide +kernel
theorem zd_Post_plan_125 : decode zb_Post_plan 125 = .ok (.lstore 4, 2) := by decide +kernel
theorem zd_Post_plan_127 : decode zb_Post_plan 127 = .ok (.iload 6, 2) := by decide +kernel
theorem zd_Post_plan_129 : decode zb_Post_plan 129 = .ok (.istore_n 3, 1) := by decide +kernel
theorem zd_Post_plan_130 : decode zb_Post_plan 130 = .ok (.iinc 6 1, 3) := by decide +kernel
theorem zd_Post_plan_133 : decode zb_Post_plan 133 = .ok (.goto (-69), 3) := by decide +kernel
theorem zd_Post_plan_136 : decode zb_Post_plan 136 = .ok (.iload_n 3, 1) := by decide +kernel
theorem zd_Post_plan_137 : decode zb_Post_plan 137 = .ok (.ireturn, 1) := by decide +kernel
set_option maxHeartbeats 4000000 in
theorem zl_Post_plan_L130 {p : Program} {l : Launch} {e : Env} {s : State} {m : MethodId} {args : Array Value} {below : List Frame} {meth : Method} {c : Code} {D : va_G} {cA : Nat → ClassId} {ad : Nat → Nat} {A : Nat → Prop} (B : zu_B p s m args c zb_Post_plan 7 "StonePost" D cA ad A) (hret : meth.sig.returnType = (some .int)) (hlk : meth.locks = false) {res : Int32 × IX × LX} {k64 : Int32 → Int32 → Int32 → Int64 → Int32 → IX → LX → Option (Int32 × IX × LX)} (hk64 : ∀ (x1 : Int32) (x2 : Int32) (x3 : Int32) (x4 : Int64) (x6 : Int32) (X : IX) (Y : LX) (H : Heap) (locs : List Loc) (ls : Array Slot), va_P D zu_cl (zu_pic cA ad X Y) H → va_S A s.heap H locs → lv_has ls 7 [(0, .ref (ad 0)), (1, .int x1), (2, .int x2), (3, .int x3), (4, .long x4), (6, .int x6)] → k64 x1 x2 x3 x4 x6 X Y = some res → W p l e zR_Post_plan s m args below meth c H locs 0 0 (MQ below (zu_Qi D cA ad A res.1 res.2.1 res.2.2) args s 0 0 A) (F0 m 64 ls [])) (x1 : Int32) (x2 : Int32) (x3 : Int32) (x4 : Int64) (x6 : Int32) (X : IX) (Y : LX) (H : Heap) (locs : List Loc) (ls : Array Slot) (hP : va_P D zu_cl (zu_pic cA ad X Y) H) (hS : va_S A s.heap H locs) (hl : lv_has ls 7 [(0, .ref (ad 0)), (1, .int x1), (2, .int x2), (3, .int x3), (4, .long x4), (6, .int x6)]) (hf : fn_Post_plan_L130 k64 x1 x2 x3 x4 x6 X Y = some res) : W p l e zR_Post_plan s m args below meth c H locs 0 0 (MQ below (zu_Qi D cA ad A res.1 res.2.1 res.2.2) args s 0 0 A) (F0 m 130 ls []) := by
  obtain ⟨hx, hb, hml, hown, hts, hST⟩ := id B
  unfold fn_Post_plan_L130 at hf
  obtain ⟨v23, ev23, hf⟩ := zu_nx_e hf
  refine lv_iinc (v := v23) (lv' := [(6, .int v23), (0, .ref (ad 0)), (1, .int x1), (2, .int x2), (3, .int x3), (4, .long x4)]) hx hb zd_Post_plan_130 hl (k := 5) rfl (by rw [ev23]; rfl) (by decide) rfl (fun ls hl => ?_)
  clear ev23
  refine lv_goto (tgt := 64) hx hb zd_Post_plan_133 (by decide) ?_
  exact hk64 x1 x2 x3 x4 v23 X Y _ _ _ hP hS (lv_sub hl [1, 2, 3, 4, 5, 0] rfl) hf
set_option maxHeartbeats 4000000 in
theorem zl_Post_plan_B64 {p : Program} {l : Launch} {e : Env} {s : State} {m : MethodId} {args : Array Value} {below : List Frame} {meth : Method} {c : Code} {D : va_G} {cA : Nat → ClassId} {ad : Nat → Nat} {A : Nat → Prop} (B : zu_B p s m args c zb_Post_plan 7 "StonePost" D cA ad A) (hret : meth.sig.returnType = (some .int)) (hlk : meth.locks = false) {res : Int32 × IX × LX} {k64 : Int32 → Int32 → Int32 → Int64 → Int32 → IX → LX → Option (Int32 × IX × LX)} (hk64 : ∀ (x1 : Int32) (x2 : Int32) (x3 : Int32) (x4 : Int64) (x6 : Int32) (X : IX) (Y : LX) (H : Heap) (locs : List Loc) (ls : Array Slot), va_P D zu_cl (zu_pic cA ad X Y) H → va_S A s.heap H locs → lv_has ls 7 [(0, .ref (ad 0)), (1, .int x1), (2, .int x2), (3, .int x3), (4, .long x4), (6, .int x6)] → k64 x1 x2 x3 x4 x6 X Y = some res → W p l e zR_Post_plan s m args below meth c H locs 0 0 (MQ below (zu_Qi D cA ad A res.1 res.2.1 res.2.2) args s 0 0 A) (F0 m 64 ls [])) (x1 : Int32) (x2 : Int32) (x3 : Int32) (x4 : Int64) (x6 : Int32) (X : IX) (Y : LX) (H : Heap) (locs : List Loc) (ls : Array Slot) (hP : va_P D zu_cl (zu_pic cA ad X Y) H) (hS : va_S A s.heap H locs) (hl : lv_has ls 7 [(0, .ref (ad 0)), (1, .int x1), (2, .int x2), (3, .int x3), (4, .long x4), (6, .int x6)]) (hf : fn_Post_plan_B64 k64 x1 x2 x3 x4 x6 X Y = some res) : W p l e zR_Post_plan s m args below meth c H locs 0 0 (MQ below (zu_Qi D cA ad A res.1 res.2.1 res.2.2) args s 0 0 A) (F0 m 64 ls []) := by
  obtain ⟨hx, hb, hml, hown, hts, hST⟩ := id B
  unfold fn_Post_plan_B64 at hf
  refine lv_iload hx hb zd_Post_plan_64 (lv_at hl 5 rfl) ?_
  refine lv_iconst (v := 1) hx hb zd_Post_plan_66 (by decide) ?_
  refine lv_aload_n hx hb zd_Post_plan_67 rfl (lv_at hl 0 rfl) ?_
  refine zg_Post_land B hP rfl zq_191 zd_Post_plan_68 ?_
  refine zg_Land_throwerCount B hP rfl zq_63 zd_Post_plan_71 ?_
  refine lv_ishl hx hb zd_Post_plan_74 ?_
  refine lv_icmp_ge (tgt := 136) hx hb zd_Post_plan_75 (by decide) (fun c16 => ?_) (fun c16 => ?_)
  · have hf := zu_t c16 hf
    refine lv_iload_n hx hb zd_Post_plan_136 rfl (lv_at hl 3 rfl) ?_
    obtain rfl := Option.some.inj hf
    exact zr_iret hx hb hret hlk hP hS zd_Post_plan_137
  · have hf := zu_f c16 hf
    refine lv_aload_n hx hb zd_Post_plan_78 rfl (lv_at hl 0 rfl) ?_
    refine zg_Post_chart B hP rfl zq_194 zd_Post_plan_79 ?_
    refine lv_iload_n hx hb zd_Post_plan_82 rfl (lv_at hl 1 rfl) ?_
    refine lv_iload_n hx hb zd_Post_plan_83 rfl (lv_at hl 2 rfl) ?_
    refine lv_iload hx hb zd_Post_plan_84 (lv_at hl 5 rfl) ?_
    obtain ⟨Y17, hq18, hf⟩ := zu_b1_e hf
    refine zw_Chart_spread (rest := []) B hP hS hq18 zq_450 (Nat.le_of_ble_eq_true rfl) (Nat.le_of_ble_eq_true rfl) hl.1 rfl (Nat.le_of_ble_eq_true rfl) zd_Post_plan_86 (by decide) (fun H locs hP hS => ?_)
    clear hq18
    refine lv_aload_n hx hb zd_Post_plan_89 rfl (lv_at hl 0 rfl) ?_
    refine zg_Post_chart B hP rfl zq_194 zd_Post_plan_90 ?_
    refine zg_Chart_parts B hP rfl zq_115 zd_Post_plan_93 ?_
    refine lv_aload_n hx hb zd_Post_plan_96 rfl (lv_at hl 0 rfl) ?_
    refine zg_Post_land B hP rfl zq_191 zd_Post_plan_97 ?_
    refine zg_Land_home B hP rfl zq_69 zd_Post_plan_100 ?_
    obtain ⟨hg19, hf⟩ := zu_gd_e hf
    refine zr_lald rfl B hP rfl (by decide) rfl hg19 zd_Post_plan_103 ?_
    refine lv_lload hx hb zd_Post_plan_104 (lv_at hl 4 rfl) ?_
    refine W.lcmp hx hb zd_Post_plan_106 ?_
    refine lv_if_le (tgt := 130) hx hb zd_Post_plan_107 (by decide) (fun c20 => ?_) (fun c20 => ?_)
    · have hf := zu_t c20 hf
      exact zl_Post_plan_L130 B hret hlk hk64 x1 x2 x3 x4 x6 X Y17 _ _ _ hP hS (lv_sub hl [0, 1, 2, 3, 4, 5] rfl) hf
    · have hf := zu_f c20 hf
      refine lv_aload_n hx hb zd_Post_plan_110 rfl (lv_at hl 0 rfl) ?_
      refine zg_Post_chart B hP rfl zq_194 zd_Post_plan_111 ?_
      refine zg_Chart_parts B hP rfl zq_115 zd_Post_plan_114 ?_
      refine lv_aload_n hx hb zd_Post_plan_117 rfl (lv_at hl 0 rfl) ?_
      refine zg_Post_land B hP rfl zq_191 zd_Post_plan_118 ?_
      refine zg_Land_home B hP rfl zq_69 zd_Post_plan_121 ?_
      obtain ⟨hg21, hf⟩ := zu_gd_e hf
      refine zr_lald rfl B hP rfl (by decide) rfl hg21 zd_Post_plan_124 ?_
      refine zr_nxl hf (fun v22 hf => ?_)
      refine lv_lstore (lv' := [(4, .long v22), (0, .ref (ad 0)), (1, .int x1), (2, .int x2), (3, .int x3), (6, .int x6)]) hx hb zd_Post_plan_125 hl (by decide) rfl (fun ls hl => ?_)
      refine lv_iload hx hb zd_Post_plan_127 (lv_at hl 5 rfl) ?_
      refine lv_istore_n (lv' := [(3, .int x6), (4, .long v22), (0, .ref (ad 0)), (1, .int x1), (2, .int x2), (6, .int x6)]) hx hb zd_Post_plan_129 rfl hl (by decide) rfl (fun ls hl => ?_)
      exact zl_Post_plan_L130 B hret hlk hk64 x1 x2 x6 v22 x6 X Y17 _ _ _ hP hS (lv_sub hl [2, 3, 4, 0, 1, 5] rfl) hf
theorem zl_Post_plan_L64 {p : Program} {l : Launch} {e : Env} {s : State} {m : MethodId} {args : Array Value} {below : List Frame} {meth : Method} {c : Code} {D : va_G} {cA : Nat → ClassId} {ad : Nat → Nat} {A : Nat → Prop} (B : zu_B p s m args c zb_Post_plan 7 "StonePost" D cA ad A) (hret : meth.sig.returnType = (some .int)) (hlk : meth.locks = false) {res : Int32 × IX × LX} : ∀ (n : Nat) (x1 : Int32) (x2 : Int32) (x3 : Int32) (x4 : Int64) (x6 : Int32) (X : IX) (Y : LX) (H : Heap) (locs : List Loc) (ls : Array Slot), va_P D zu_cl (zu_pic cA ad X Y) H → va_S A s.heap H locs → lv_has ls 7 [(0, .ref (ad 0)), (1, .int x1), (2, .int x2), (3, .int x3), (4, .long x4), (6, .int x6)] → fn_Post_plan_L64 n x1 x2 x3 x4 x6 X Y = some res → W p l e zR_Post_plan s m args below meth c H locs 0 0 (MQ below (zu_Qi D cA ad A res.1 res.2.1 res.2.2) args s 0 0 A) (F0 m 64 ls []) := by
  intro n
  induction n with
  | zero =>
    intro x1 x2 x3 x4 x6 X Y H locs ls hP hS hl hf
    exact (Option.some_ne_none _ hf.symm).elim
  | succ n ih =>
    intro x1 x2 x3 x4 x6 X Y H locs ls hP hS hl hf
    exact zl_Post_plan_B64 B hret hlk ih x1 x2 x3 x4 x6 X Y H locs ls hP hS hl  hf
set_option maxHeartbeats 4000000 in
theorem zl_Post_plan_L17 {p : Program} {l : Launch} {e : Env} {s : State} {m : MethodId} {args : Array Value} {below : List Frame} {meth : Method} {c : Code} {D : va_G} {cA : Nat → ClassId} {ad : Nat → Nat} {A : Nat → Prop} (B : zu_B p s m args c zb_Post_plan 7 "StonePost" D cA ad A) (hret : meth.sig.returnType = (some .int)) (hlk : meth.locks = false) {res : Int32 × IX × LX} (X : IX) (Y : LX) (H : Heap) (locs : List Loc) (ls : Array Slot) (hP : va_P D zu_cl (zu_pic cA ad X Y) H) (hS : va_S A s.heap H locs) (hl : lv_has ls 7 [(0, .ref (ad 0))]) (hf : fn_Post_plan_L17 X Y = some res) : W p l e zR_Post_plan s m args below meth c H locs 0 0 (MQ below (zu_Qi D cA ad A res.1 res.2.1 res.2.2) args s 0 0 A) (F0 m 17 ls []) := by
  obtain ⟨hx, hb, hml, hown, hts, hST⟩ := id B
  unfold fn_Post_plan_L17 at hf
  refine lv_aload_n hx hb zd_Post_plan_17 rfl (lv_at hl 0 rfl) ?_
  refine lv_ldc (v := -1000001) hx hb hown (hts _ zq_226) zd_Post_plan_18 ?_
  obtain ⟨v13, X14, hq15, hf⟩ := zu_b2_e hf
  refine zw_Post_finding (rest := []) B hP hS hq15 zq_227 (Nat.le_of_ble_eq_true rfl) (Nat.le_of_ble_eq_true rfl) hl.1 rfl (Nat.le_of_ble_eq_true rfl) zd_Post_plan_20 (by decide) (fun H locs hP hS => ?_)
  clear hq15
  obtain rfl := Option.some.inj hf
  exact zr_iret hx hb hret hlk hP hS zd_Post_plan_23
set_option maxHeartbeats 4000000 in
theorem zl_Post_plan {p : Program} {l : Launch} {e : Env} {s : State} {m : MethodId} {args : Array Value} {below : List Frame} {meth : Method} {c : Code} {D : va_G} {cA : Nat → ClassId} {ad : Nat → Nat} {A : Nat → Prop} (B : zu_B p s m args c zb_Post_plan 7 "StonePost" D cA ad A) (hret : meth.sig.returnType = (some .int)) (hlk : meth.locks = false) {res : Int32 × IX × LX} {a1 : Int32} {a2 : Int32} {X : IX} {Y : LX} (H : Heap) (locs : List Loc) (ls : Array Slot) (hP : va_P D zu_cl (zu_pic cA ad X Y) H) (hS : va_S A s.heap H locs) (hl : lv_has ls 7 [(0, .ref (ad 0)), (1, .int a1), (2, .int a2)]) (hf : fn_Post_plan a1 a2 X Y = some res) : W p l e zR_Post_plan s m args below meth c H locs 0 0 (MQ below (zu_Qi D cA ad A res.1 res.2.1 res.2.2) args s 0 0 A) (F0 m 0 ls []) := by
  obtain ⟨hx, hb, hml, hown, hts, hST⟩ := id B
  unfold fn_Post_plan at hf
  refine lv_iload_n hx hb zd_Post_plan_0 rfl (lv_at hl 1 rfl) ?_
  obtain ⟨v1, hq2, hf⟩ := zu_b1_e hf
  refine zw_Post_isCell (rest := []) B hP hS hq2 zq_220 (Nat.le_of_ble_eq_true rfl) (Nat.le_of_ble_eq_true rfl) hl.1 rfl (Nat.le_of_ble_eq_true rfl) zd_Post_plan_1 (by decide) (fun H locs hP hS => ?_)
  clear hq2
  refine lv_if_eq (tgt := 17) hx hb zd_Post_plan_4 (by decide) (fun c3 => ?_) (fun c3 => ?_)
  · have hf := zu_t c3 hf
    exact zl_Post_plan_L17 B hret hlk X Y _ _ _ hP hS (lv_sub hl [0] rfl) hf
  · have hf := zu_f c3 hf
    refine lv_iload_n hx hb zd_Post_plan_7 rfl (lv_at hl 2 rfl) ?_
    refine lv_iconst (v := 1) hx hb zd_Post_plan_8 (by decide) ?_
    refine lv_bipush (v := 8) hx hb zd_Post_plan_9 (by decide) ?_
    obtain ⟨v4, hq5, hf⟩ := zu_b1_e hf
    refine zw_Post_isWithin (rest := []) B hP hS hq5 zq_223 (Nat.le_of_ble_eq_true rfl) (Nat.le_of_ble_eq_true rfl) hl.1 rfl (Nat.le_of_ble_eq_true rfl) zd_Post_plan_11 (by decide) (fun H locs hP hS => ?_)
    clear hq5
    refine lv_if_ne (tgt := 24) hx hb zd_Post_plan_14 (by decide) (fun c6 => ?_) (fun c6 => ?_)
    · have hf := zu_f c6 hf
      refine lv_aload_n hx hb zd_Post_plan_24 rfl (lv_at hl 0 rfl) ?_
      refine zg_Post_land B hP rfl zq_191 zd_Post_plan_25 ?_
      refine zg_Land_throwerCount B hP rfl zq_63 zd_Post_plan_28 ?_
      refine lv_bipush (v := 8) hx hb zd_Post_plan_31 (by decide) ?_
      refine lv_icmp_le (tgt := 43) hx hb zd_Post_plan_33 (by decide) (fun c7 => ?_) (fun c7 => ?_)
      · have hf := zu_t c7 hf
        refine lv_aload_n hx hb zd_Post_plan_43 rfl (lv_at hl 0 rfl) ?_
        refine zg_Post_chart B hP rfl zq_194 zd_Post_plan_44 ?_
        refine lv_aload_n hx hb zd_Post_plan_47 rfl (lv_at hl 0 rfl) ?_
        refine zg_Post_land B hP rfl zq_191 zd_Post_plan_48 ?_
        obtain ⟨X8, hq9, hf⟩ := zu_b1_e hf
        refine zw_Chart_lay (rest := []) B hP hS rfl hq9 zq_382 (Nat.le_of_ble_eq_true rfl) (Nat.le_of_ble_eq_true rfl) hl.1 rfl (Nat.le_of_ble_eq_true rfl) zd_Post_plan_51 (by decide) (fun H locs hP hS => ?_)
        clear hq9
        refine lv_iconst (v := 0) hx hb zd_Post_plan_54 (by decide) ?_
        refine lv_istore_n (lv' := [(3, .int (0 : Int32)), (0, .ref (ad 0)), (1, .int a1), (2, .int a2)]) hx hb zd_Post_plan_55 rfl hl (by decide) rfl (fun ls hl => ?_)
        refine lv_ldc2 (v := -1) hx hb hown (hts _ zq_523) zd_Post_plan_56 ?_
        refine lv_lstore (lv' := [(4, .long (-1 : Int64)), (3, .int (0 : Int32)), (0, .ref (ad 0)), (1, .int a1), (2, .int a2)]) hx hb zd_Post_plan_59 hl (by decide) rfl (fun ls hl => ?_)
        refine lv_iconst (v := 0) hx hb zd_Post_plan_61 (by decide) ?_
        refine lv_istore (lv' := [(6, .int (0 : Int32)), (4, .long (-1 : Int64)), (3, .int (0 : Int32)), (0, .ref (ad 0)), (1, .int a1), (2, .int a2)]) hx hb zd_Post_plan_62 hl (by decide) rfl (fun ls hl => ?_)
        exact zl_Post_plan_L64 B hret hlk 400 a1 a2 (0 : Int32) (-1 : Int64) (0 : Int32) X8 Y _ _ _ hP hS (lv_sub hl [3, 4, 5, 2, 1, 0] rfl) hf
      · have hf := zu_f c7 hf
        refine lv_aload_n hx hb zd_Post_plan_36 rfl (lv_at hl 0 rfl) ?_
        refine lv_ldc (v := -1000007) hx hb hown (hts _ zq_522) zd_Post_plan_37 ?_
        obtain ⟨v10, X11, hq12, hf⟩ := zu_b2_e hf
        refine zw_Post_finding (rest := []) B hP hS hq12 zq_227 (Nat.le_of_ble_eq_true rfl) (Nat.le_of_ble_eq_true rfl) hl.1 rfl (Nat.le_of_ble_eq_true rfl) zd_Post_plan_39 (by decide) (fun H locs hP hS => ?_)
        clear hq12
        obtain rfl := Option.some.inj hf
        exact zr_iret hx hb hret hlk hP hS zd_Post_plan_42
    · have hf := zu_t c6 hf
      exact zl_Post_plan_L17 B hret hlk X Y _ _ _ hP hS (lv_sub hl [0] rfl) hf
theorem zC_Post_plan (l : Launch) {D : va_G} {cA : Nat → ClassId} {ad : Nat → Nat} {A : Nat → Prop} {a1 : Int32} {a2 : Int32} {X : IX} {Y : LX} {res : Int32 × IX × LX} (hf : fn_Post_plan a1 a2 X Y = some res) : Met l zm_Post_plan (zu_ws zm_Post_plan zb_Post_plan 7 (some .int)) zR_Post_plan (va_Pc [.ref (ad 0), .int a1, .int a2] (zu_Pre D cA ad A X Y)) (zu_Qi D cA ad A res.1 res.2.1 res.2.2) 0 0 A := by
  refine Met.ofW (cc := zb_Post_plan) (maxL := 7) (ret := (some .int)) (by decide +kernel) rfl ?_
  intro p e s m args below meth c s₁ B0 hml hv
  obtain ⟨rfl, hP, hST⟩ := hv
  have B : zu_B p s m _ c zb_Post_plan 7 "StonePost" D cA ad A := ⟨B0.exec, B0.bytes, hml, findClass_of_methodNamed B0.named, (fun w hw => atoms_spec (ws := zu_ws zm_Post_plan zb_Post_plan 7 (some .int)) B0.pre w (List.mem_cons_of_mem _ hw)), hST⟩
  have hl := lv_entry ([.ref (ad 0), .int a1, .int a2]) (n := 7) (Nat.le_of_ble_eq_true rfl)
  rw [lg_entry_eq]
  generalize (lg_sl ([.ref (ad 0), .int a1, .int a2]) ++ List.replicate (7 - (lg_sl ([.ref (ad 0), .int a1, .int a2])).length) Slot.unset).toArray = ls at hl ⊢
  exact zl_Post_plan B B0.returns B0.notSynchronized s.heap [] ls hP va_S.rf hl  hf
theorem zw_Post_plan {p : Program} {l : Launch} {e : Env} {R : Room} {s : State} {m : MethodId} {args : Array Value} {below : List Frame} {meth : Method} {c : Code} {H : Heap} {locs : List Loc} {cells slots : Nat} {Q : State → Prop} {cc : ByteArray} {pc nL : Nat} {ls : Array Slot} {rest st0 : List Value} {D : va_G} {cA : Nat → ClassId} {ad : Nat → Nat} {A : Nat → Prop} {X : IX} {Y : LX} {own : String} {index : Nat} {a1 : Int32} {a2 : Int32} {v1 : Int32} {X1 : IX} {Y1 : LX} (B : zu_B p s m args c cc nL own D cA ad A) (hP : va_P D zu_cl (zu_pic cA ad X Y) H) (hS : va_S A s.heap H locs) (hq : fn_Post_plan a1 a2 X Y = some (v1, X1, Y1)) (m1 : Cond.methodLink own index zm_Post_plan ∈ zu_TB) (hR1 : 6 + 1 ≤ R.frames) (hR2 : 8 + (7 + 11) + 138 ≤ R.locals) (hsz : ls.size = nL) (hst : st0 = .int a2 :: .int a1 :: .ref (ad 0) :: rest) (hw : (rest.map fun v => v.category).sum ≤ 8) (hdg : decode cc pc = .ok (.invokevirtual index, 3)) (h00 : cells ≤ R.cells ∧ slots ≤ R.slots) (kk : ∀ (H1 : Heap) (locs1 : List Loc), va_P D zu_cl (zu_pic cA ad X1 Y1) H1 → va_S A s.heap H1 locs1 → W p l e R s m args below meth c H1 locs1 cells slots Q (F0 m (pc + 3) ls (.int v1 :: rest))) : W p l e R s m args below meth c H locs cells slots Q (F0 m pc ls st0) := by
  subst hst
  exact zr_cVi (As := [.int a1, .int a2]) (rest := rest) (n := 2) (C := "StonePost") (T := zt_Post) (N := 8) B hP hS (zC_Post_plan l  hq) (K := 1) rfl (by decide) (by decide) rfl rfl m1 zq_519 zq_520 zq_1 zq_521 (by decide +kernel) ⟨hR1, hR2⟩ rfl rfl rfl hsz rfl hw hdg h00 kk
abbrev zR_Itg_bitCount : Room := { frames := 0, cells := 0, slots := 0, locals := 0 }
theorem zd_Itg_bitCount_0 : decode zb_Itg_bitCount 0 = .ok (.iload_n 0, 1) := by decide +kernel
theorem zd_Itg_bitCount_1 : decode zb_Itg_bitCount 1 = .ok (.iload_n 0, 1) := by decide +kernel
theorem zd_Itg_bitCount_2 : decode zb_Itg_bitCount 2 = .ok (.iconst 1, 1) := by decide +kernel
theorem zd_Itg_bitCount_3 : decode zb_Itg_bitCount 3 = .ok (.iushr, 1) := by decide +kernel
theorem zd_Itg_bitCount_4 : decode zb_Itg_bitCount 4 = .ok (.ldc_w 265, 3) := by decide +kernel
theorem zd_Itg_bitCount_7 : decode zb_Itg_bitCount 7 = .ok (.iand, 1) := by decide +kernel
theorem zd_Itg_bitCount_8 : decode zb_Itg_bitCount 8 = .ok (.isub, 1) := by decide +kernel
theorem zd_Itg_bitCount_9 : decode zb_Itg_bitCount 9 = .ok (.istore_n 0, 1) := by decide +kernel
theorem zd_Itg_bitCount_10 : decode zb_Itg_bitCount 10 = .ok (.iload_n 0, 1) := by decide +kernel
theorem zd_Itg_bitCount_11 : decode zb_Itg_bitCount 11 = .ok (.ldc_w 266, 3) := by decide +kernel
theorem zd_Itg_bitCount_14 : decode zb_Itg_bitCount 14 = .ok (.iand, 1) := by decide +kernel
theorem zd_Itg_bitCount_15 : decode zb_Itg_bitCount 15 = .ok (.iload_n 0, 1) := by decide +kernel
theorem zd_Itg_bitCount_16 : decode zb_Itg_bitCount 16 = .ok (.iconst 2, 1) := by decide +kernel
theorem zd_Itg_bitCount_17 : decode zb_Itg_bitCount 17 = .ok (.iushr, 1) := by decide +kernel
theorem zd_Itg_bitCount_18 : decode zb_Itg_bitCount 18 = .ok (.ldc_w 266, 3) := by decide +kernel
theorem zd_Itg_bitCount_21 : decode zb_Itg_bitCount 21 = .ok (.iand, 1) := by decide +kernel
theorem zd_Itg_bitCount_22 : decode zb_Itg_bitCount 22 = .ok (.iadd, 1) := by decide +kernel
theorem zd_Itg_bitCount_23 : decode zb_Itg_bitCount 23 = .ok (.istore_n 0, 1) := by decide +kernel
theorem zd_Itg_bitCount_24 : decode zb_Itg_bitCount 24 = .ok (.iload_n 0, 1) := by decide +kernel
theorem zd_Itg_bitCount_25 : decode zb_Itg_bitCount 25 = .ok (.iload_n 0, 1) := by decide +kernel
theorem zd_Itg_bitCount_26 : decode zb_Itg_bitCount 26 = .ok (.iconst 4, 1) := by decide +kernel
theorem zd_Itg_bitCount_27 : decode zb_Itg_bitCount 27 = .ok (.iushr, 1) := by decide +kernel
theorem zd_Itg_bitCount_28 : decode zb_Itg_bitCount 28 = .ok (.iadd, 1) := by decide +kernel
theorem zd_Itg_bitCount_29 : decode zb_Itg_bitCount 29 = .ok (.ldc_w 267, 3) := by decide +kernel
theorem zd_Itg_bitCount_32 : decode zb_Itg_bitCount 32 = .ok (.iand, 1) := by decide +kernel
theorem zd_Itg_bitCount_33 : decode zb_Itg_bitCount 33 = .ok (.istore_n 0, 1) := by decide +kernel
theorem zd_Itg_bitCount_34 : decode zb_Itg_bitCount 34 = .ok (.iload_n 0, 1) := by decide +kernel
theorem zd_Itg_bitCount_35 : decode zb_Itg_bitCount 35 = .ok (.iload_n 0, 1) := by decide +kernel
theorem zd_Itg_bitCount_36 : decode zb_Itg_bitCount 36 = .ok (.bipush 8, 2) := by decide +kernel
theorem zd_Itg_bitCount_38 : decode zb_Itg_bitCount 38 = .ok (.iushr, 1) := by decide +kernel
theorem zd_Itg_bitCount_39 : decode zb_Itg_bitCount 39 = .ok (.iadd, 1) := by decide +kernel
theorem zd_Itg_bitCount_40 : decode zb_Itg_bitCount 40 = .ok (.istore_n 0, 1) := by decide +kernel
theorem zd_Itg_bitCount_41 : decode zb_Itg_bitCount 41 = .ok (.iload_n 0, 1) := by decide +kernel
theorem zd_Itg_bitCount_42 : decode zb_Itg_bitCount 42 = .ok (.iload_n 0, 1) := by decide +kernel
theorem zd_Itg_bitCount_43 : decode zb_Itg_bitCount 43 = .ok (.bipush 16, 2) := by decide +kernel
theorem zd_Itg_bitCount_45 : decode zb_Itg_bitCount 45 = .ok (.iushr, 1) := by decide +kernel
theorem zd_Itg_bitCount_46 : decode zb_Itg_bitCount 46 = .ok (.iadd, 1) := by decide +kernel
theorem zd_Itg_bitCount_47 : decode zb_Itg_bitCount 47 = .ok (.istore_n 0, 1) := by decide +kernel
theorem zd_Itg_bitCount_48 : decode zb_Itg_bitCount 48 = .ok (.iload_n 0, 1) := by decide +kernel
theorem zd_Itg_bitCount_49 : decode zb_Itg_bitCount 49 = .ok (.bipush 63, 2) := by decide +kernel
theorem zd_Itg_bitCount_51 : decode zb_Itg_bitCount 51 = .ok (.iand, 1) := by decide +kernel
theorem zd_Itg_bitCount_52 : decode zb_Itg_bitCount 52 = .ok (.ireturn, 1) := by decide +kernel
set_option maxHeartbeats 4000000 in
theorem zl_Itg_bitCount {p : Program} {l : Launch} {e : Env} {s : State} {m : MethodId} {args : Array Value} {below : List Frame} {meth : Method} {c : Code} {D : va_G} {cA : Nat → ClassId} {ad : Nat → Nat} {A : Nat → Prop} (B : zu_B p s m args c zb_Itg_bitCount 1 "java/lang/Integer" D cA ad A) (hret : meth.sig.returnType = (some .int)) (hlk : meth.locks = false) {X : IX} {Y : LX} {res : Int32} {a0 : Int32} (H : Heap) (locs : List Loc) (ls : Array Slot) (hP : va_P D zu_cl (zu_pic cA ad X Y) H) (hS : va_S A s.heap H locs) (hl : lv_has ls 1 [(0, .int a0)]) (hf : fn_Itg_bitCount a0 = res) : W p l e zR_Itg_bitCount s m args below meth c H locs 0 0 (MQ below (zu_Qi D cA ad A res X Y) args s 0 0 A) (F0 m 0 ls []) := by
  obtain ⟨hx, hb, hml, hown, hts, hST⟩ := id B
  unfold fn_Itg_bitCount at hf
  refine lv_iload_n hx hb zd_Itg_bitCount_0 rfl (lv_at hl 0 rfl) ?_
  refine lv_iload_n hx hb zd_Itg_bitCount_1 rfl (lv_at hl 0 rfl) ?_
  refine lv_iconst (v := 1) hx hb zd_Itg_bitCount_2 (by decide) ?_
  refine lv_iushr hx hb zd_Itg_bitCount_3 rfl ?_
  refine lv_ldcw (v := 1431655765) hx hb hown (hts _ zq_532) zd_Itg_bitCount_4 ?_
  refine lv_iand hx hb zd_Itg_bitCount_7 ?_
  refine lv_isub hx hb zd_Itg_bitCount_8 ?_
  refine zr_nxi hf (fun v1 hf => ?_)
  refine lv_istore_n (lv' := [(0, .int v1)]) hx hb zd_Itg_bitCount_9 rfl hl (by decide) rfl (fun ls hl => ?_)
  refine lv_iload_n hx hb zd_Itg_bitCount_10 rfl (lv_at hl 0 rfl) ?_
  refine lv_ldcw (v := 858993459) hx hb hown (hts _ zq_533) zd_Itg_bitCount_11 ?_
  refine lv_iand hx hb zd_Itg_bitCount_14 ?_
  refine lv_iload_n hx hb zd_Itg_bitCount_15 rfl (lv_at hl 0 rfl) ?_
  refine lv_iconst (v := 2) hx hb zd_Itg_bitCount_16 (by decide) ?_
  refine lv_iushr hx hb zd_Itg_bitCount_17 rfl ?_
  refine lv_ldcw (v := 858993459) hx hb hown (hts _ zq_533) zd_Itg_bitCount_18 ?_
  refine lv_iand hx hb zd_Itg_bitCount_21 ?_
  refine lv_iadd hx hb zd_Itg_bitCount_22 ?_
  refine zr_nxi hf (fun v2 hf => ?_)
  refine lv_istore_n (lv' := [(0, .int v2)]) hx hb zd_Itg_bitCount_23 rfl hl (by decide) rfl (fun ls hl => ?_)
  refine lv_iload_n hx hb zd_Itg_bitCount_24 rfl (lv_at hl 0 rfl) ?_
  refine lv_iload_n hx hb zd_Itg_bitCount_25 rfl (lv_at hl 0 rfl) ?_
  refine lv_iconst (v := 4) hx hb zd_Itg_bitCount_26 (by decide) ?_
  refine lv_iushr hx hb zd_Itg_bitCount_27 rfl ?_
  refine lv_iadd hx hb zd_Itg_bitCount_28 ?_
  refine lv_ldcw (v := 252645135) hx hb hown (hts _ zq_534) zd_Itg_bitCount_29 ?_
  refine lv_iand hx hb zd_Itg_bitCount_32 ?_
  refine zr_nxi hf (fun v3 hf => ?_)
  refine lv_istore_n (lv' := [(0, .int v3)]) hx hb zd_Itg_bitCount_33 rfl hl (by decide) rfl (fun ls hl => ?_)
  refine lv_iload_n hx hb zd_Itg_bitCount_34 rfl (lv_at hl 0 rfl) ?_
  refine lv_iload_n hx hb zd_Itg_bitCount_35 rfl (lv_at hl 0 rfl) ?_
  refine lv_bipush (v := 8) hx hb zd_Itg_bitCount_36 (by decide) ?_
  refine lv_iushr hx hb zd_Itg_bitCount_38 rfl ?_
  refine lv_iadd hx hb zd_Itg_bitCount_39 ?_
  refine zr_nxi hf (fun v4 hf => ?_)
  refine lv_istore_n (lv' := [(0, .int v4)]) hx hb zd_Itg_bitCount_40 rfl hl (by decide) rfl (fun ls hl => ?_)
  refine lv_iload_n hx hb zd_Itg_bitCount_41 rfl (lv_at hl 0 rfl) ?_
  refine lv_iload_n hx hb zd_Itg_bitCount_42 rfl (lv_at hl 0 rfl) ?_
  refine lv_bipush (v := 16) hx hb zd_Itg_bitCount_43 (by decide) ?_
  refine lv_iushr hx hb zd_Itg_bitCount_45 rfl ?_
  refine lv_iadd hx hb zd_Itg_bitCount_46 ?_
  refine zr_nxi hf (fun v5 hf => ?_)
  refine lv_istore_n (lv' := [(0, .int v5)]) hx hb zd_Itg_bitCount_47 rfl hl (by decide) rfl (fun ls hl => ?_)
  refine lv_iload_n hx hb zd_Itg_bitCount_48 rfl (lv_at hl 0 rfl) ?_
  refine lv_bipush (v := 63) hx hb zd_Itg_bitCount_49 (by decide) ?_
  refine lv_iand hx hb zd_Itg_bitCount_51 ?_
  obtain rfl := hf
  exact zr_iret hx hb hret hlk hP hS zd_Itg_bitCount_52
theorem zC_Itg_bitCount (l : Launch) {D : va_G} {cA : Nat → ClassId} {ad : Nat → Nat} {A : Nat → Prop} {a0 : Int32} {X : IX} {Y : LX} {res : Int32} (hf : fn_Itg_bitCount a0 = res) : Met l zm_Itg_bitCount (zu_ws zm_Itg_bitCount zb_Itg_bitCount 1 (some .int)) zR_Itg_bitCount (va_Pc [.int a0] (zu_Pre D cA ad A X Y)) (zu_Qi D cA ad A res X Y) 0 0 A := by
  refine Met.ofW (cc := zb_Itg_bitCount) (maxL := 1) (ret := (some .int)) (by decide +kernel) rfl ?_
  intro p e s m args below meth c s₁ B0 hml hv
  obtain ⟨rfl, hP, hST⟩ := hv
  have B : zu_B p s m _ c zb_Itg_bitCount 1 "java/lang/Integer" D cA ad A := ⟨B0.exec, B0.bytes, hml, findClass_of_methodNamed B0.named, (fun w hw => atoms_spec (ws := zu_ws zm_Itg_bitCount zb_Itg_bitCount 1 (some .int)) B0.pre w (List.mem_cons_of_mem _ hw)), hST⟩
  have hl := lv_entry ([.int a0]) (n := 1) (Nat.le_of_ble_eq_true rfl)
  rw [lg_entry_eq]
  generalize (lg_sl ([.int a0]) ++ List.replicate (1 - (lg_sl ([.int a0])).length) Slot.unset).toArray = ls at hl ⊢
  exact zl_Itg_bitCount B B0.returns B0.notSynchronized s.heap [] ls hP va_S.rf hl  hf
theorem zw_Itg_bitCount {p : Program} {l : Launch} {e : Env} {R : Room} {s : State} {m : MethodId} {args : Array Value} {below : List Frame} {meth : Method} {c : Code} {H : Heap} {locs : List Loc} {cells slots : Nat} {Q : State → Prop} {cc : ByteArray} {pc nL : Nat} {ls : Array Slot} {rest st0 : List Value} {D : va_G} {cA : Nat → ClassId} {ad : Nat → Nat} {A : Nat → Prop} {X : IX} {Y : LX} {own : String} {index : Nat} {a0 : Int32} {v1 : Int32} (B : zu_B p s m args c cc nL own D cA ad A) (hP : va_P D zu_cl (zu_pic cA ad X Y) H) (hS : va_S A s.heap H locs) (hq : fn_Itg_bitCount a0 = v1) (m1 : Cond.methodLink own index zm_Itg_bitCount ∈ zu_TB) (hR1 : 0 + 1 ≤ R.frames) (hR2 : 8 + (1 + 11) + 0 ≤ R.locals) (hsz : ls.size = nL) (hst : st0 = .int a0 ::  rest) (hw : (rest.map fun v => v.category).sum ≤ 8) (hdg : decode cc pc = .ok (.invokestatic index, 3)) (h00 : cells ≤ R.cells ∧ slots ≤ R.slots) (kk : ∀ (H1 : Heap) (locs1 : List Loc), va_P D zu_cl (zu_pic cA ad X Y) H1 → va_S A s.heap H1 locs1 → W p l e R s m args below meth c H1 locs1 cells slots Q (F0 m (pc + 3) ls (.int v1 :: rest))) : W p l e R s m args below meth c H locs cells slots Q (F0 m pc ls st0) := by
  subst hst
  exact zr_cSi (As := [.int a0]) (rest := rest) (n := 1) B hP hS (zC_Itg_bitCount l  hq) m1 zq_530 zq_11 zq_531 (by decide +kernel) ⟨hR1, hR2⟩ rfl rfl rfl hsz rfl hw hdg h00 kk
abbrev zR_Post_set : Room := { frames := 2, cells := 0, slots := 0, locals := 44 }
theorem zd_Post_set_0 : decode zb_Post_set 0 = .ok (.iload_n 1, 1) := by decide +kernel
theorem zd_Post_set_1 : decode zb_Post_set 1 = .ok (.iconst 0, 1) := by decide +kernel
theorem zd_Post_set_2 : decode zb_Post_set 2 = .ok (.iconst 1, 1) := by decide +kernel
theorem zd_Post_set_3 : decode zb_Post_set 3 = .ok (.aload_n 0, 1) := by decide +kernel
theorem zd_Post_set_4 : decode zb_Post_set 4 = .ok (.getfield 10, 3) := by decide +kernel
theorem zd_Post_set_7 : decode zb_Post_set 7 = .ok (.getfield 182, 3) := by decide +kernel
theorem zd_Post_set_10 : decode zb_Post_set 10 = .ok (.ishl, 1) := by decide +kernel
theorem zd_Post_set_11 : decode zb_Post_set 11 = .ok (.iconst 1, 1) := by decide +kernel
theorem zd_Post_set_12 : decode zb_Post_set 12 = .ok (.isub, 1) := by decide +kernel
theorem zd_Post_set_13 : decode zb_Post_set 13 = .ok (.invokestatic 51, 3) := by decide +kernel
theorem zd_Post_set_16 : decode zb_Post_set 16 = .ok (.ifCond .ne 10, 3) := by decide +kernel
theorem zd_Post_set_19 : decode zb_Post_set 19 = .ok (.aload_n 0, 1) := by decide +kernel
theorem zd_Post_set_20 : decode zb_Post_set 20 = .ok (.ldc 55, 2) := by decide +kernel
theorem zd_Post_set_22 : decode zb_Post_set 22 = .ok (.invokevirtual 56, 3) := by decide +kernel
theorem zd_Post_set_25 : decode zb_Post_set 25 = .ok (.ireturn, 1) := by decide +kernel
theorem zd_Post_set_26 : decode zb_Post_set 26 = .ok (.iload_n 1, 1) := by decide +kernel
theorem zd_Post_set_27 : decode zb_Post_set 27 = .ok (.aload_n 0, 1) := by decide +kernel
theorem zd_Post_set_28 : decode zb_Post_set 28 = .ok (.getfield 10, 3) := by decide +kernel
theorem zd_Post_set_31 : decode zb_Post_set 31 = .ok (.invokevirtual 188, 3) := by decide +kernel
theorem zd_Post_set_34 : decode zb_Post_set 34 = .ok (.ixor, 1) := by decide +kernel
theorem zd_Post_set_35 : decode zb_Post_set 35 = .ok (.invokestatic 192, 3) := by decide +kernel
theorem zd_Post_set_38 : decode zb_Post_set 38 = .ok (.istore_n 2, 1) := by decide +kernel
theorem zd_Post_set_39 : decode zb_Post_set 39 = .ok (.iconst 0, 1) := by decide +kernel
theorem zd_Post_set_40 : decode zb_Post_set 40 = .ok (.istore_n 3, 1) := by decide +kernel
theorem zd_Post_set_41 : decode zb_Post_set 41 = .ok (.iload_n 3, 1) := by decide +kernel
theorem zd_Post_set_42 : decode zb_Post_set 42 = .ok (.aload_n 0, 1) := by decide +kernel
theorem zd_Post_set_43 : decode zb_Post_set 43 = .ok (.getfield 10, 3) := by decide +kernel
theorem zd_Post_set_46 : decode zb_Post_set 46 = .ok (.getfield 182, 3) := by decide +kernel
theorem zd_Post_set_49 : decode zb_Post_set 49 = .ok (.if_icmp .ge 29, 3) := by decide +kernel
theorem zd_Post_set_52 : decode zb_Post_set 52 = .ok (.aload_n 0, 1) := by decide +kernel
theorem zd_Post_set_53 : decode zb_Post_set 53 = .ok (.getfield 10, 3) := by decide +kernel
theorem zd_Post_set_56 : decode zb_Post_set 56 = .ok (.getfield 87, 3) := by decide +kernel
theorem zd_Post_set_59 : decode zb_Post_set 59 = .ok (.iload_n 3, 1) := by decide +kernel
theorem zd_Post_set_60 : decode zb_Post_set 60 = .ok (.aaload, 1) := by decide +kernel
theorem zd_Post_set_61 : decode zb_Post_set 61 = .ok (.getfield 91, 3) := by decide +kernel
theorem zd_Post_set_64 : decode zb_Post_set 64 = .ok (.bipush 6, 2) := by decide +kernel
theorem zd_Post_set_66 : decode zb_Post_set 66 = .ok (.iload_n 1, 1) := by decide +kernel
theorem zd_Post_set_67 : decode zb_Post_set 67 = .ok (.iload_n 3, 1) := by decide +kernel
theorem zd_Post_set_68 : decode zb_Post_set 68 = .ok (.ishr, 1) := by decide +kernel
theorem zd_Post_set_69 : decode zb_Post_set 69 = .ok (.iconst 1, 1) := by decide +kernel
theorem zd_Post_set_70 : decode zb_Post_set 70 = .ok (.iand, 1) := by decide +kernel
theorem zd_Post_set_71 : decode zb_Post_set 71 = .ok (.iastore, 1) := by decide +kernel
theorem zd_Post_set_72 : decode zb_Post_set 72 = .ok (.iinc 3 1, 3) := by decide +kernel
theorem zd_Post_set_75 : decode zb_Post_set 75 = .ok (.goto (-34), 3) := by decide +kernel
theorem zd_Post_set_78 : decode zb_Post_set 78 = .ok (.iload_n 2, 1) := by decide +kernel
theorem zd_Post_set_79 : decode zb_Post_set 79 = .ok (.ireturn, 1) := by decide +kernel
set_option maxHeartbeats 4000000 in
theorem zl_Post_set_B41 {p : Program} {l : Launch} {e : Env} {s : State} {m : MethodId} {args : Array Value} {below : List Frame} {meth : Method} {c : Code} {D : va_G} {cA : Nat → ClassId} {ad : Nat → Nat} {A : Nat → Prop} (B : zu_B p s m args c zb_Post_set 4 "StonePost" D cA ad A) (hret : meth.sig.returnType = (some .int)) (hlk : meth.locks = false) {Y : LX} {res : Int32 × IX} {k41 : Int32 → Int32 → Int32 → IX → Option (Int32 × IX)} (hk41 : ∀ (x1 : Int32) (x2 : Int32) (x3 : Int32) (X : IX) (H : Heap) (locs : List Loc) (ls : Array Slot), va_P D zu_cl (zu_pic cA ad X Y) H → va_S A s.heap H locs → lv_has ls 4 [(0, .ref (ad 0)), (1, .int x1), (2, .int x2), (3, .int x3)] → k41 x1 x2 x3 X = some res → W p l e zR_Post_set s m args below meth c H locs 0 0 (MQ below (zu_Qi D cA ad A res.1 res.2 Y) args s 0 0 A) (F0 m 41 ls [])) (x1 : Int32) (x2 : Int32) (x3 : Int32) (X : IX) (H : Heap) (locs : List Loc) (ls : Array Slot) (hP : va_P D zu_cl (zu_pic cA ad X Y) H) (hS : va_S A s.heap H locs) (hl : lv_has ls 4 [(0, .ref (ad 0)), (1, .int x1), (2, .int x2), (3, .int x3)]) (hf : fn_Post_set_B41 k41 x1 x2 x3 X = some res) : W p l e zR_Post_set s m args below meth c H locs 0 0 (MQ below (zu_Qi D cA ad A res.1 res.2 Y) args s 0 0 A) (F0 m 41 ls []) := by
  obtain ⟨hx, hb, hml, hown, hts, hST⟩ := id B
  unfold fn_Post_set_B41 at hf
  refine lv_iload_n hx hb zd_Post_set_41 rfl (lv_at hl 3 rfl) ?_
  refine lv_aload_n hx hb zd_Post_set_42 rfl (lv_at hl 0 rfl) ?_
  refine zg_Post_land B hP rfl zq_191 zd_Post_set_43 ?_
  refine zg_Land_throwerCount B hP rfl zq_63 zd_Post_set_46 ?_
  refine lv_icmp_ge (tgt := 78) hx hb zd_Post_set_49 (by decide) (fun c11 => ?_) (fun c11 => ?_)
  · have hf := zu_t c11 hf
    refine lv_iload_n hx hb zd_Post_set_78 rfl (lv_at hl 2 rfl) ?_
    obtain rfl := Option.some.inj hf
    exact zr_iret hx hb hret hlk hP hS zd_Post_set_79
  · have hf := zu_f c11 hf
    refine lv_aload_n hx hb zd_Post_set_52 rfl (lv_at hl 0 rfl) ?_
    refine zg_Post_land B hP rfl zq_191 zd_Post_set_53 ?_
    refine zg_Land_throwers B hP rfl zq_55 zd_Post_set_56 ?_
    refine lv_iload_n hx hb zd_Post_set_59 rfl (lv_at hl 3 rfl) ?_
    obtain ⟨hg12, hf⟩ := zu_gd_e hf
    refine zr_thr rfl B hP (zk_Land_throwers rfl) hg12 zd_Post_set_60 ?_
    refine zg_Thr_facts B hP (zk_thr (zk_Land_throwers rfl) (zu_ib_lt hg12)) zq_41 zd_Post_set_61 ?_
    refine lv_bipush (v := 6) hx hb zd_Post_set_64 (by decide) ?_
    refine lv_iload_n hx hb zd_Post_set_66 rfl (lv_at hl 1 rfl) ?_
    refine lv_iload_n hx hb zd_Post_set_67 rfl (lv_at hl 3 rfl) ?_
    refine lv_ishr hx hb zd_Post_set_68 ?_
    refine lv_iconst (v := 1) hx hb zd_Post_set_69 (by decide) ?_
    refine lv_iand hx hb zd_Post_set_70 ?_
    refine zr_iast (j := 6) (by decide) B hP hS hf (zk_Thr_facts (zk_thr (zk_Land_throwers rfl) (zu_ib_lt hg12))) (by decide) rfl (by decide) zd_Post_set_71 (fun X13 H locs hf hP hS => ?_)
    obtain ⟨v14, ev14, hf⟩ := zu_nx_e hf
    refine lv_iinc (v := v14) (lv' := [(3, .int v14), (0, .ref (ad 0)), (1, .int x1), (2, .int x2)]) hx hb zd_Post_set_72 hl (k := 3) rfl (by rw [ev14]; rfl) (by decide) rfl (fun ls hl => ?_)
    clear ev14
    refine lv_goto (tgt := 41) hx hb zd_Post_set_75 (by decide) ?_
    exact hk41 x1 x2 v14 X13 _ _ _ hP hS (lv_sub hl [1, 2, 3, 0] rfl) hf
theorem zl_Post_set_L41 {p : Program} {l : Launch} {e : Env} {s : State} {m : MethodId} {args : Array Value} {below : List Frame} {meth : Method} {c : Code} {D : va_G} {cA : Nat → ClassId} {ad : Nat → Nat} {A : Nat → Prop} (B : zu_B p s m args c zb_Post_set 4 "StonePost" D cA ad A) (hret : meth.sig.returnType = (some .int)) (hlk : meth.locks = false) {Y : LX} {res : Int32 × IX} : ∀ (n : Nat) (x1 : Int32) (x2 : Int32) (x3 : Int32) (X : IX) (H : Heap) (locs : List Loc) (ls : Array Slot), va_P D zu_cl (zu_pic cA ad X Y) H → va_S A s.heap H locs → lv_has ls 4 [(0, .ref (ad 0)), (1, .int x1), (2, .int x2), (3, .int x3)] → fn_Post_set_L41 n x1 x2 x3 X = some res → W p l e zR_Post_set s m args below meth c H locs 0 0 (MQ below (zu_Qi D cA ad A res.1 res.2 Y) args s 0 0 A) (F0 m 41 ls []) := by
  intro n
  induction n with
  | zero =>
    intro x1 x2 x3 X H locs ls hP hS hl hf
    exact (Option.some_ne_none _ hf.symm).elim
  | succ n ih =>
    intro x1 x2 x3 X H locs ls hP hS hl hf
    exact zl_Post_set_B41 B hret hlk ih x1 x2 x3 X H locs ls hP hS hl  hf
set_option maxHeartbeats 4000000 in
theorem zl_Post_set {p : Program} {l : Launch} {e : Env} {s : State} {m : MethodId} {args : Array Value} {below : List Frame} {meth : Method} {c : Code} {D : va_G} {cA : Nat → ClassId} {ad : Nat → Nat} {A : Nat → Prop} (B : zu_B p s m args c zb_Post_set 4 "StonePost" D cA ad A) (hret : meth.sig.returnType = (some .int)) (hlk : meth.locks = false) {Y : LX} {res : Int32 × IX} {a1 : Int32} {X : IX} (H : Heap) (locs : List Loc) (ls : Array Slot) (hP : va_P D zu_cl (zu_pic cA ad X Y) H) (hS : va_S A s.heap H locs) (hl : lv_has ls 4 [(0, .ref (ad 0)), (1, .int a1)]) (hf : fn_Post_set a1 X = some res) : W p l e zR_Post_set s m args below meth c H locs 0 0 (MQ below (zu_Qi D cA ad A res.1 res.2 Y) args s 0 0 A) (F0 m 0 ls []) := by
  obtain ⟨hx, hb, hml, hown, hts, hST⟩ := id B
  unfold fn_Post_set at hf
  refine lv_iload_n hx hb zd_Post_set_0 rfl (lv_at hl 1 rfl) ?_
  refine lv_iconst (v := 0) hx hb zd_Post_set_1 (by decide) ?_
  refine lv_iconst (v := 1) hx hb zd_Post_set_2 (by decide) ?_
  refine lv_aload_n hx hb zd_Post_set_3 rfl (lv_at hl 0 rfl) ?_
  refine zg_Post_land B hP rfl zq_191 zd_Post_set_4 ?_
  refine zg_Land_throwerCount B hP rfl zq_63 zd_Post_set_7 ?_
  refine lv_ishl hx hb zd_Post_set_10 ?_
  refine lv_iconst (v := 1) hx hb zd_Post_set_11 (by decide) ?_
  refine lv_isub hx hb zd_Post_set_12 ?_
  obtain ⟨v1, hq2, hf⟩ := zu_b1_e hf
  refine zw_Post_isWithin (rest := []) B hP hS hq2 zq_223 (Nat.le_of_ble_eq_true rfl) (Nat.le_of_ble_eq_true rfl) hl.1 rfl (Nat.le_of_ble_eq_true rfl) zd_Post_set_13 (by decide) (fun H locs hP hS => ?_)
  clear hq2
  refine lv_if_ne (tgt := 26) hx hb zd_Post_set_16 (by decide) (fun c3 => ?_) (fun c3 => ?_)
  · have hf := zu_f c3 hf
    refine lv_iload_n hx hb zd_Post_set_26 rfl (lv_at hl 1 rfl) ?_
    refine lv_aload_n hx hb zd_Post_set_27 rfl (lv_at hl 0 rfl) ?_
    refine zg_Post_land B hP rfl zq_191 zd_Post_set_28 ?_
    obtain ⟨v4, hq5, hf⟩ := zu_b1_e hf
    refine zw_Land_choiceSet (rest := [.int a1]) B hP hS rfl hq5 zq_528 (Nat.le_of_ble_eq_true rfl) (Nat.le_of_ble_eq_true rfl) hl.1 rfl (Nat.le_of_ble_eq_true rfl) zd_Post_set_31 (by decide) (fun H locs hP hS => ?_)
    clear hq5
    refine lv_ixor hx hb zd_Post_set_34 ?_
    obtain ⟨v6, ehq7, hf⟩ := zu_nx_e hf
    have hq7 := ehq7.symm
    refine zw_Itg_bitCount (rest := []) B hP hS hq7 zq_529 (Nat.le_of_ble_eq_true rfl) (Nat.le_of_ble_eq_true rfl) hl.1 rfl (Nat.le_of_ble_eq_true rfl) zd_Post_set_35 (by decide) (fun H locs hP hS => ?_)
    clear hq7 ehq7
    refine lv_istore_n (lv' := [(2, .int v6), (0, .ref (ad 0)), (1, .int a1)]) hx hb zd_Post_set_38 rfl hl (by decide) rfl (fun ls hl => ?_)
    refine lv_iconst (v := 0) hx hb zd_Post_set_39 (by decide) ?_
    refine lv_istore_n (lv' := [(3, .int (0 : Int32)), (2, .int v6), (0, .ref (ad 0)), (1, .int a1)]) hx hb zd_Post_set_40 rfl hl (by decide) rfl (fun ls hl => ?_)
    exact zl_Post_set_L41 B hret hlk 400 a1 v6 (0 : Int32) X _ _ _ hP hS (lv_sub hl [2, 3, 1, 0] rfl) hf
  · have hf := zu_t c3 hf
    refine lv_aload_n hx hb zd_Post_set_19 rfl (lv_at hl 0 rfl) ?_
    refine lv_ldc (v := -1000001) hx hb hown (hts _ zq_226) zd_Post_set_20 ?_
    obtain ⟨v8, X9, hq10, hf⟩ := zu_b2_e hf
    refine zw_Post_finding (rest := []) B hP hS hq10 zq_227 (Nat.le_of_ble_eq_true rfl) (Nat.le_of_ble_eq_true rfl) hl.1 rfl (Nat.le_of_ble_eq_true rfl) zd_Post_set_22 (by decide) (fun H locs hP hS => ?_)
    clear hq10
    obtain rfl := Option.some.inj hf
    exact zr_iret hx hb hret hlk hP hS zd_Post_set_25
theorem zC_Post_set (l : Launch) {D : va_G} {cA : Nat → ClassId} {ad : Nat → Nat} {A : Nat → Prop} {a1 : Int32} {X : IX} {Y : LX} {res : Int32 × IX} (hf : fn_Post_set a1 X = some res) : Met l zm_Post_set (zu_ws zm_Post_set zb_Post_set 4 (some .int)) zR_Post_set (va_Pc [.ref (ad 0), .int a1] (zu_Pre D cA ad A X Y)) (zu_Qi D cA ad A res.1 res.2 Y) 0 0 A := by
  refine Met.ofW (cc := zb_Post_set) (maxL := 4) (ret := (some .int)) (by decide +kernel) rfl ?_
  intro p e s m args below meth c s₁ B0 hml hv
  obtain ⟨rfl, hP, hST⟩ := hv
  have B : zu_B p s m _ c zb_Post_set 4 "StonePost" D cA ad A := ⟨B0.exec, B0.bytes, hml, findClass_of_methodNamed B0.named, (fun w hw => atoms_spec (ws := zu_ws zm_Post_set zb_Post_set 4 (some .int)) B0.pre w (List.mem_cons_of_mem _ hw)), hST⟩
  have hl := lv_entry ([.ref (ad 0), .int a1]) (n := 4) (Nat.le_of_ble_eq_true rfl)
  rw [lg_entry_eq]
  generalize (lg_sl ([.ref (ad 0), .int a1]) ++ List.replicate (4 - (lg_sl ([.ref (ad 0), .int a1])).length) Slot.unset).toArray = ls at hl ⊢
  exact zl_Post_set B B0.returns B0.notSynchronized s.heap [] ls hP va_S.rf hl  hf
theorem zw_Post_set {p : Program} {l : Launch} {e : Env} {R : Room} {s : State} {m : MethodId} {args : Array Value} {below : List Frame} {meth : Method} {c : Code} {H : Heap} {locs : List Loc} {cells slots : Nat} {Q : State → Prop} {cc : ByteArray} {pc nL : Nat} {ls : Array Slot} {rest st0 : List Value} {D : va_G} {cA : Nat → ClassId} {ad : Nat → Nat} {A : Nat → Prop} {X : IX} {Y : LX} {own : String} {index : Nat} {a1 : Int32} {v1 : Int32} {X1 : IX} (B : zu_B p s m args c cc nL own D cA ad A) (hP : va_P D zu_cl (zu_pic cA ad X Y) H) (hS : va_S A s.heap H locs) (hq : fn_Post_set a1 X = some (v1, X1)) (m1 : Cond.methodLink own index zm_Post_set ∈ zu_TB) (hR1 : 2 + 1 ≤ R.frames) (hR2 : 8 + (4 + 11) + 44 ≤ R.locals) (hsz : ls.size = nL) (hst : st0 = .int a1 :: .ref (ad 0) :: rest) (hw : (rest.map fun v => v.category).sum ≤ 8) (hdg : decode cc pc = .ok (.invokevirtual index, 3)) (h00 : cells ≤ R.cells ∧ slots ≤ R.slots) (kk : ∀ (H1 : Heap) (locs1 : List Loc), va_P D zu_cl (zu_pic cA ad X1 Y) H1 → va_S A s.heap H1 locs1 → W p l e R s m args below meth c H1 locs1 cells slots Q (F0 m (pc + 3) ls (.int v1 :: rest))) : W p l e R s m args below meth c H locs cells slots Q (F0 m pc ls st0) := by
  subst hst
  exact zr_cVi (As := [.int a1]) (rest := rest) (n := 1) (C := "StonePost") (T := zt_Post) (N := 8) B hP hS (zC_Post_set l  hq) (K := 1) rfl (by decide) (by decide) rfl rfl m1 zq_525 zq_526 zq_1 zq_527 (by decide +kernel) ⟨hR1, hR2⟩ rfl rfl rfl hsz rfl hw hdg h00 kk
abbrev zR_Land_become : Room := { frames := 1, cells := 0, slots := 0, locals := 26 }
theorem zd_Land_become_0 : decode zb_Land_become 0 = .ok (.aload_n 1, 1) := by decide +kernel
theorem zd_Land_become_1 : decode zb_Land_become 1 = .ok (.getfield 9, 3) := by decide +kernel
theorem zd_Land_become_4 : decode zb_Land_become 4 = .ok (.iconst 0, 1) := by decide +kernel
theorem zd_Land_become_5 : decode zb_Land_become 5 = .ok (.aload_n 0, 1) := by decide +kernel
theorem zd_Land_become_6 : decode zb_Land_become 6 = .ok (.getfield 9, 3) := by decide +kernel
theorem zd_Land_become_9 : decode zb_Land_become 9 = .ok (.iconst 0, 1) := by decide +kernel
theorem zd_Land_become_10 : decode zb_Land_become 10 = .ok (.bipush 24, 2) := by decide +kernel
theorem zd_Land_become_12 : decode zb_Land_become 12 = .ok (.invokestatic 44, 3) := by decide +kernel
theorem zd_Land_become_15 : decode zb_Land_become 15 = .ok (.aload_n 1, 1) := by decide +kernel
theorem zd_Land_become_16 : decode zb_Land_become 16 = .ok (.getfield 21, 3) := by decide +kernel
theorem zd_Land_become_19 : decode zb_Land_become 19 = .ok (.iconst 0, 1) := by decide +kernel
theorem zd_Land_become_20 : decode zb_Land_become 20 = .ok (.aload_n 0, 1) := by decide +kernel
theorem zd_Land_become_21 : decode zb_Land_become 21 = .ok (.getfield 21, 3) := by decide +kernel
theorem zd_Land_become_24 : decode zb_Land_become 24 = .ok (.iconst 0, 1) := by decide +kernel
theorem zd_Land_become_25 : decode zb_Land_become 25 = .ok (.bipush 12, 2) := by decide +kernel
theorem zd_Land_become_27 : decode zb_Land_become 27 = .ok (.invokestatic 44, 3) := by decide +kernel
theorem zd_Land_become_30 : decode zb_Land_become 30 = .ok (.aload_n 1, 1) := by decide +kernel
theorem zd_Land_become_31 : decode zb_Land_become 31 = .ok (.getfield 24, 3) := by decide +kernel
theorem zd_Land_become_34 : decode zb_Land_become 34 = .ok (.iconst 0, 1) := by decide +kernel
theorem zd_Land_become_35 : decode zb_Land_become 35 = .ok (.aload_n 0, 1) := by decide +kernel
theorem zd_Land_become_36 : decode zb_Land_become 36 = .ok (.getfield 24, 3) := by decide +kernel
theorem zd_Land_become_39 : decode zb_Land_become 39 = .ok (.iconst 0, 1) := by decide +kernel
theorem zd_Land_become_40 : decode zb_Land_become 40 = .ok (.bipush 10, 2) := by decide +kernel
theorem zd_Land_become_42 : decode zb_Land_become 42 = .ok (.invokestatic 44, 3) := by decide +kernel
theorem zd_Land_become_45 : decode zb_Land_become 45 = .ok (.iconst 0, 1) := by decide +kernel
theorem zd_Land_become_46 : decode zb_Land_become 46 = .ok (.istore_n 2, 1) := by decide +kernel
theorem zd_Land_become_47 : decode zb_Land_become 47 = .ok (.iload_n 2, 1) := by decide +kernel
theorem zd_Land_become_48 : decode zb_Land_become 48 = .ok (.bipush 10, 2) := by decide +kernel
theorem zd_Land_become_50 : decode zb_Land_become 50 = .ok (.if_icmp .ge 34, 3) := by decide +kernel
theorem zd_Land_become_53 : decode zb_Land_become 53 = .ok (.aload_n 1, 1) := by decide +kernel
theorem zd_Land_become_54 : decode zb_Land_become 54 = .ok (.getfield 17, 3) := by decide +kernel
theorem zd_Land_become_57 : decode zb_Land_become 57 = .ok (.iload_n 2, 1) := by decide +kernel
theorem zd_Land_become_58 : decode zb_Land_become 58 = .ok (.aaload, 1) := by decide +kernel
theorem zd_Land_become_59 : decode zb_Land_become 59 = .ok (.getfield 50, 3) := by decide +kernel
theorem zd_Land_become_62 : decode zb_Land_become 62 = .ok (.iconst 0, 1) := by decide +kernel
theorem zd_Land_become_63 : decode zb_Land_become 63 = .ok (.aload_n 0, 1) := by decide +kernel
theorem zd_Land_become_64 : decode zb_Land_become 64 = .ok (.getfield 17, 3) := by decide +kernel
theorem zd_Land_become_67 : decode zb_Land_become 67 = .ok (.iload_n 2, 1) := by decide +kernel
theorem zd_Land_become_68 : decode zb_Land_become 68 = .ok (.aaload, 1) := by decide +kernel
theorem zd_Land_become_69 : decode zb_Land_become 69 = .ok (.getfield 50, 3) := by decide +kernel
theorem zd_Land_become_72 : decode zb_Land_become 72 = .ok (.iconst 0, 1) := by decide +kernel
theorem zd_Land_become_73 : decode zb_Land_become 73 = .ok (.bipush 9, 2) := by decide +kernel
theorem zd_Land_become_75 : decode zb_Land_become 75 = .ok (.invokestatic 44, 3) := by decide +kernel
theorem zd_Land_become_78 : decode zb_Land_become 78 = .ok (.iinc 2 1, 3) := by decide +kernel
theorem zd_Land_become_81 : decode zb_Land_become 81 = .ok (.goto (-34), 3) := by decide +kernel
theorem zd_Land_become_84 : decode zb_Land_become 84 = .ok (.aload_n 0, 1) := by decide +kernel
theorem zd_Land_become_85 : decode zb_Land_become 85 = .ok (.aload_n 1, 1) := by decide +kernel
theorem zd_Land_become_86 : decode zb_Land_become 86 = .ok (.getfield 53, 3) := by decide +kernel
theorem zd_Land_become_89 : decode zb_Land_become 89 = .ok (.putfield 53, 3) := by decide +kernel
theorem zd_Land_become_92 : decode zb_Land_become 92 = .ok (.aload_n 0, 1) := by decide +kernel
theorem zd_Land_become_93 : decode zb_Land_become 93 = .ok (.aload_n 1, 1) := by decide +kernel
theorem zd_Land_become_94 : decode zb_Land_become 94 = .ok (.getfield 56, 3) := by decide +kernel
theorem zd_Land_become_97 : decode zb_Land_become 97 = .ok (.putfield 56, 3) := by decide +kernel
theorem zd_Land_become_100 : decode zb_Land_become 100 = .ok (.aload_n 0, 1) := by decide +kernel
theorem zd_Land_become_101 : decode zb_Land_become 101 = .ok (.aload_n 1, 1) := by decide +kernel
theorem zd_Land_become_102 : decode zb_Land_become 102 = .ok (.getfield 27, 3) := by decide +kernel
theorem zd_Land_become_105 : decode zb_Land_become 105 = .ok (.putfield 27, 3) := by decide +kernel
theorem zd_Land_become_108 : decode zb_Land_become 108 = .ok (.aload_n 0, 1) := by decide +kernel
theorem zd_Land_become_109 : decode zb_Land_become 109 = .ok (.aload_n 1, 1) := by decide +kernel
theorem zd_Land_become_110 : decode zb_Land_become 110 = .ok (.getfield 31, 3) := by decide +kernel
theorem zd_Land_become_113 : decode zb_Land_become 113 = .ok (.putfield 31, 3) := by decide +kernel
theorem zd_Land_become_116 : decode zb_Land_become 116 = .ok (.aload_n 0, 1) := by decide +kernel
theorem zd_Land_become_117 : decode zb_Land_become 117 = .ok (.aload_n 1, 1) := by decide +kernel
theorem zd_Land_become_118 : decode zb_Land_become 118 = .ok (.getfield 59, 3) := by decide +kernel
theorem zd_Land_become_121 : decode zb_Land_become 121 = .ok (.putfield 59, 3) := by decide +kernel
theorem zd_Land_become_124 : decode zb_Land_become 124 = .ok (.aload_n 0, 1) := by decide +kernel
theorem zd_Land_become_125 : decode zb_Land_become 125 = .ok (.aload_n 1, 1) := by decide +kernel
theorem zd_Land_become_126 : decode zb_Land_become 126 = .ok (.getfield 34, 3) := by decide +kernel
theorem zd_Land_become_129 : decode zb_Land_become 129 = .ok (.putfield 34, 3) := by decide +kernel
theorem zd_Land_become_132 : decode zb_Land_become 132 = .ok (.return_, 1) := by decide +kernel
set_option maxHeartbeats 4000000 in
theorem zl_Land_become_B47 {p : Program} {l : Launch} {e : Env} {s : State} {m : MethodId} {args : Array Value} {below : List Frame} {meth : Method} {c : Code} {D : va_G} {cA : Nat → ClassId} {ad : Nat → Nat} {A : Nat → Prop} (B : zu_B p s m args c zb_Land_become 3 "StonePost$Land" D cA ad A) (hret : meth.sig.returnType = none) (hlk : meth.locks = false) {Y : LX} {res : IX} {k47 : Nat → Nat → Int32 → IX → Option IX} (hk47 : ∀ (r0 : Nat) (r1 : Nat) (x2 : Int32) (X : IX) (H : Heap) (locs : List Loc) (ls : Array Slot), va_P D zu_cl (zu_pic cA ad X Y) H → va_S A s.heap H locs → lv_has ls 3 [(0, .ref (ad r0)), (1, .ref (ad r1)), (2, .int x2)] → zu_kd r0 = 5 → zu_kd r1 = 5 → k47 r0 r1 x2 X = some res → W p l e zR_Land_become s m args below meth c H locs 0 0 (MQ below (zu_Qv D cA ad A res Y) args s 0 0 A) (F0 m 47 ls [])) (r0 : Nat) (r1 : Nat) (x2 : Int32) (X : IX) (H : Heap) (locs : List Loc) (ls : Array Slot) (hP : va_P D zu_cl (zu_pic cA ad X Y) H) (hS : va_S A s.heap H locs) (hl : lv_has ls 3 [(0, .ref (ad r0)), (1, .ref (ad r1)), (2, .int x2)]) (hr0 : zu_kd r0 = 5) (hr1 : zu_kd r1 = 5) (hf : fn_Land_become_B47 k47 r0 r1 x2 X = some res) : W p l e zR_Land_become s m args below meth c H locs 0 0 (MQ below (zu_Qv D cA ad A res Y) args s 0 0 A) (F0 m 47 ls []) := by
  obtain ⟨hx, hb, hml, hown, hts, hST⟩ := id B
  unfold fn_Land_become_B47 at hf
  refine lv_iload_n hx hb zd_Land_become_47 rfl (lv_at hl 2 rfl) ?_
  refine lv_bipush (v := 10) hx hb zd_Land_become_48 (by decide) ?_
  refine lv_icmp_ge (tgt := 84) hx hb zd_Land_become_50 (by decide) (fun c4 => ?_) (fun c4 => ?_)
  · have hf := zu_t c4 hf
    refine lv_aload_n hx hb zd_Land_become_84 rfl (lv_at hl 0 rfl) ?_
    refine lv_aload_n hx hb zd_Land_become_85 rfl (lv_at hl 1 rfl) ?_
    refine zg_Land_throwerCount B hP hr1 zq_61 zd_Land_become_86 ?_
    refine zp_Land_throwerCount B hP hS hf hr0 zq_61 zd_Land_become_89 (fun X5 H locs hf hP hS => ?_)
    refine lv_aload_n hx hb zd_Land_become_92 rfl (lv_at hl 0 rfl) ?_
    refine lv_aload_n hx hb zd_Land_become_93 rfl (lv_at hl 1 rfl) ?_
    refine zg_Land_letterCount B hP hr1 zq_64 zd_Land_become_94 ?_
    refine zp_Land_letterCount B hP hS hf hr0 zq_64 zd_Land_become_97 (fun X6 H locs hf hP hS => ?_)
    refine lv_aload_n hx hb zd_Land_become_100 rfl (lv_at hl 0 rfl) ?_
    refine lv_aload_n hx hb zd_Land_become_101 rfl (lv_at hl 1 rfl) ?_
    refine zg_Land_home B hP hr1 zq_67 zd_Land_become_102 ?_
    refine zp_Land_home B hP hS hf hr0 zq_67 zd_Land_become_105 (fun X7 H locs hf hP hS => ?_)
    refine lv_aload_n hx hb zd_Land_become_108 rfl (lv_at hl 0 rfl) ?_
    refine lv_aload_n hx hb zd_Land_become_109 rfl (lv_at hl 1 rfl) ?_
    refine zg_Land_fetch B hP hr1 zq_71 zd_Land_become_110 ?_
    refine zp_Land_fetch B hP hS hf hr0 zq_71 zd_Land_become_113 (fun X8 H locs hf hP hS => ?_)
    refine lv_aload_n hx hb zd_Land_become_116 rfl (lv_at hl 0 rfl) ?_
    refine lv_aload_n hx hb zd_Land_become_117 rfl (lv_at hl 1 rfl) ?_
    refine zg_Land_hour B hP hr1 zq_75 zd_Land_become_118 ?_
    refine zp_Land_hour B hP hS hf hr0 zq_75 zd_Land_become_121 (fun X9 H locs hf hP hS => ?_)
    refine lv_aload_n hx hb zd_Land_become_124 rfl (lv_at hl 0 rfl) ?_
    refine lv_aload_n hx hb zd_Land_become_125 rfl (lv_at hl 1 rfl) ?_
    refine zg_Land_z B hP hr1 zq_77 zd_Land_become_126 ?_
    refine zp_Land_z B hP hS hf hr0 zq_77 zd_Land_become_129 (fun X10 H locs hf hP hS => ?_)
    obtain rfl := Option.some.inj hf
    exact zr_vret hx hb hret hlk hP hS zd_Land_become_132
  · have hf := zu_f c4 hf
    refine lv_aload_n hx hb zd_Land_become_53 rfl (lv_at hl 1 rfl) ?_
    refine zg_Land_throwers B hP hr1 zq_53 zd_Land_become_54 ?_
    refine lv_iload_n hx hb zd_Land_become_57 rfl (lv_at hl 2 rfl) ?_
    obtain ⟨hg11, hf⟩ := zu_gd_e hf
    refine zr_thr rfl B hP (zk_Land_throwers hr1) hg11 zd_Land_become_58 ?_
    refine zg_Thr_facts B hP (zk_thr (zk_Land_throwers hr1) (zu_ib_lt hg11)) zq_39 zd_Land_become_59 ?_
    refine lv_iconst (v := 0) hx hb zd_Land_become_62 (by decide) ?_
    refine lv_aload_n hx hb zd_Land_become_63 rfl (lv_at hl 0 rfl) ?_
    refine zg_Land_throwers B hP hr0 zq_53 zd_Land_become_64 ?_
    refine lv_iload_n hx hb zd_Land_become_67 rfl (lv_at hl 2 rfl) ?_
    obtain ⟨hg12, hf⟩ := zu_gd_e hf
    refine zr_thr rfl B hP (zk_Land_throwers hr0) hg12 zd_Land_become_68 ?_
    refine zg_Thr_facts B hP (zk_thr (zk_Land_throwers hr0) (zu_ib_lt hg12)) zq_39 zd_Land_become_69 ?_
    refine lv_iconst (v := 0) hx hb zd_Land_become_72 (by decide) ?_
    refine lv_bipush (v := 9) hx hb zd_Land_become_73 (by decide) ?_
    refine zr_cpi (j0 := 0) (j1 := 0) (jn := 9) B hP hS (by decide) (by decide) (by decide) hf (zk_Thr_facts (zk_thr (zk_Land_throwers hr1) (zu_ib_lt hg11))) (by decide) rfl (zk_Thr_facts (zk_thr (zk_Land_throwers hr0) (zu_ib_lt hg12))) (by decide) rfl (by decide) zq_543 zq_259 zq_258 zq_9 hl.1 (by decide) (Nat.le_of_ble_eq_true rfl) zd_Land_become_75 (fun X13 H locs hf hP hS => ?_)
    obtain ⟨v14, ev14, hf⟩ := zu_nx_e hf
    refine lv_iinc (v := v14) (lv' := [(2, .int v14), (0, .ref (ad r0)), (1, .ref (ad r1))]) hx hb zd_Land_become_78 hl (k := 2) rfl (by rw [ev14]; rfl) (by decide) rfl (fun ls hl => ?_)
    clear ev14
    refine lv_goto (tgt := 47) hx hb zd_Land_become_81 (by decide) ?_
    exact hk47 r0 r1 v14 X13 _ _ _ hP hS (lv_sub hl [1, 2, 0] rfl) hr0 hr1 hf
theorem zl_Land_become_L47 {p : Program} {l : Launch} {e : Env} {s : State} {m : MethodId} {args : Array Value} {below : List Frame} {meth : Method} {c : Code} {D : va_G} {cA : Nat → ClassId} {ad : Nat → Nat} {A : Nat → Prop} (B : zu_B p s m args c zb_Land_become 3 "StonePost$Land" D cA ad A) (hret : meth.sig.returnType = none) (hlk : meth.locks = false) {Y : LX} {res : IX} : ∀ (n : Nat) (r0 : Nat) (r1 : Nat) (x2 : Int32) (X : IX) (H : Heap) (locs : List Loc) (ls : Array Slot), va_P D zu_cl (zu_pic cA ad X Y) H → va_S A s.heap H locs → lv_has ls 3 [(0, .ref (ad r0)), (1, .ref (ad r1)), (2, .int x2)] → zu_kd r0 = 5 → zu_kd r1 = 5 → fn_Land_become_L47 n r0 r1 x2 X = some res → W p l e zR_Land_become s m args below meth c H locs 0 0 (MQ below (zu_Qv D cA ad A res Y) args s 0 0 A) (F0 m 47 ls []) := by
  intro n
  induction n with
  | zero =>
    intro r0 r1 x2 X H locs ls hP hS hl hr0 hr1 hf
    exact (Option.some_ne_none _ hf.symm).elim
  | succ n ih =>
    intro r0 r1 x2 X H locs ls hP hS hl hr0 hr1 hf
    exact zl_Land_become_B47 B hret hlk ih r0 r1 x2 X H locs ls hP hS hl hr0 hr1 hf
set_option maxHeartbeats 4000000 in
theorem zl_Land_become {p : Program} {l : Launch} {e : Env} {s : State} {m : MethodId} {args : Array Value} {below : List Frame} {meth : Method} {c : Code} {D : va_G} {cA : Nat → ClassId} {ad : Nat → Nat} {A : Nat → Prop} (B : zu_B p s m args c zb_Land_become 3 "StonePost$Land" D cA ad A) (hret : meth.sig.returnType = none) (hlk : meth.locks = false) {Y : LX} {res : IX} {r0 : Nat} {r1 : Nat} {X : IX} (H : Heap) (locs : List Loc) (ls : Array Slot) (hP : va_P D zu_cl (zu_pic cA ad X Y) H) (hS : va_S A s.heap H locs) (hl : lv_has ls 3 [(0, .ref (ad r0)), (1, .ref (ad r1))]) (hr0 : zu_kd r0 = 5) (hr1 : zu_kd r1 = 5) (hf : fn_Land_become r0 r1 X = some res) : W p l e zR_Land_become s m args below meth c H locs 0 0 (MQ below (zu_Qv D cA ad A res Y) args s 0 0 A) (F0 m 0 ls []) := by
  obtain ⟨hx, hb, hml, hown, hts, hST⟩ := id B
  unfold fn_Land_become at hf
  refine lv_aload_n hx hb zd_Land_become_0 rfl (lv_at hl 1 rfl) ?_
  refine zg_Land_stuffs B hP hr1 zq_50 zd_Land_become_1 ?_
  refine lv_iconst (v := 0) hx hb zd_Land_become_4 (by decide) ?_
  refine lv_aload_n hx hb zd_Land_become_5 rfl (lv_at hl 0 rfl) ?_
  refine zg_Land_stuffs B hP hr0 zq_50 zd_Land_become_6 ?_
  refine lv_iconst (v := 0) hx hb zd_Land_become_9 (by decide) ?_
  refine lv_bipush (v := 24) hx hb zd_Land_become_10 (by decide) ?_
  refine zr_cpi (j0 := 0) (j1 := 0) (jn := 24) B hP hS (by decide) (by decide) (by decide) hf (zk_Land_stuffs hr1) (by decide) rfl (zk_Land_stuffs hr0) (by decide) rfl (by decide) zq_543 zq_259 zq_258 zq_9 hl.1 (by decide) (Nat.le_of_ble_eq_true rfl) zd_Land_become_12 (fun X1 H locs hf hP hS => ?_)
  refine lv_aload_n hx hb zd_Land_become_15 rfl (lv_at hl 1 rfl) ?_
  refine zg_Land_letterCells B hP hr1 zq_57 zd_Land_become_16 ?_
  refine lv_iconst (v := 0) hx hb zd_Land_become_19 (by decide) ?_
  refine lv_aload_n hx hb zd_Land_become_20 rfl (lv_at hl 0 rfl) ?_
  refine zg_Land_letterCells B hP hr0 zq_57 zd_Land_become_21 ?_
  refine lv_iconst (v := 0) hx hb zd_Land_become_24 (by decide) ?_
  refine lv_bipush (v := 12) hx hb zd_Land_become_25 (by decide) ?_
  refine zr_cpi (j0 := 0) (j1 := 0) (jn := 12) B hP hS (by decide) (by decide) (by decide) hf (zk_Land_letterCells hr1) (by decide) rfl (zk_Land_letterCells hr0) (by decide) rfl (by decide) zq_543 zq_259 zq_258 zq_9 hl.1 (by decide) (Nat.le_of_ble_eq_true rfl) zd_Land_become_27 (fun X2 H locs hf hP hS => ?_)
  refine lv_aload_n hx hb zd_Land_become_30 rfl (lv_at hl 1 rfl) ?_
  refine zg_Land_spots B hP hr1 zq_59 zd_Land_become_31 ?_
  refine lv_iconst (v := 0) hx hb zd_Land_become_34 (by decide) ?_
  refine lv_aload_n hx hb zd_Land_become_35 rfl (lv_at hl 0 rfl) ?_
  refine zg_Land_spots B hP hr0 zq_59 zd_Land_become_36 ?_
  refine lv_iconst (v := 0) hx hb zd_Land_become_39 (by decide) ?_
  refine lv_bipush (v := 10) hx hb zd_Land_become_40 (by decide) ?_
  refine zr_cpi (j0 := 0) (j1 := 0) (jn := 10) B hP hS (by decide) (by decide) (by decide) hf (zk_Land_spots hr1) (by decide) rfl (zk_Land_spots hr0) (by decide) rfl (by decide) zq_543 zq_259 zq_258 zq_9 hl.1 (by decide) (Nat.le_of_ble_eq_true rfl) zd_Land_become_42 (fun X3 H locs hf hP hS => ?_)
  refine lv_iconst (v := 0) hx hb zd_Land_become_45 (by decide) ?_
  refine lv_istore_n (lv' := [(2, .int (0 : Int32)), (0, .ref (ad r0)), (1, .ref (ad r1))]) hx hb zd_Land_become_46 rfl hl (by decide) rfl (fun ls hl => ?_)
  exact zl_Land_become_L47 B hret hlk 400 r0 r1 (0 : Int32) X3 _ _ _ hP hS (lv_sub hl [1, 2, 0] rfl) hr0 hr1 hf
theorem zC_Land_become (l : Launch) {D : va_G} {cA : Nat → ClassId} {ad : Nat → Nat} {A : Nat → Prop} {r0 : Nat} {r1 : Nat} {X : IX} {Y : LX} {res : IX} (hr0 : zu_kd r0 = 5) (hr1 : zu_kd r1 = 5) (hf : fn_Land_become r0 r1 X = some res) : Met l zm_Land_become (zu_ws zm_Land_become zb_Land_become 3 none) zR_Land_become (va_Pc [.ref (ad r0), .ref (ad r1)] (zu_Pre D cA ad A X Y)) (zu_Qv D cA ad A res Y) 0 0 A := by
  refine Met.ofW (cc := zb_Land_become) (maxL := 3) (ret := none) (by decide +kernel) rfl ?_
  intro p e s m args below meth c s₁ B0 hml hv
  obtain ⟨rfl, hP, hST⟩ := hv
  have B : zu_B p s m _ c zb_Land_become 3 "StonePost$Land" D cA ad A := ⟨B0.exec, B0.bytes, hml, findClass_of_methodNamed B0.named, (fun w hw => atoms_spec (ws := zu_ws zm_Land_become zb_Land_become 3 none) B0.pre w (List.mem_cons_of_mem _ hw)), hST⟩
  have hl := lv_entry ([.ref (ad r0), .ref (ad r1)]) (n := 3) (Nat.le_of_ble_eq_true rfl)
  rw [lg_entry_eq]
  generalize (lg_sl ([.ref (ad r0), .ref (ad r1)]) ++ List.replicate (3 - (lg_sl ([.ref (ad r0), .ref (ad r1)])).length) Slot.unset).toArray = ls at hl ⊢
  exact zl_Land_become B B0.returns B0.notSynchronized s.heap [] ls hP va_S.rf hl hr0 hr1 hf
theorem zw_Land_become {p : Program} {l : Launch} {e : Env} {R : Room} {s : State} {m : MethodId} {args : Array Value} {below : List Frame} {meth : Method} {c : Code} {H : Heap} {locs : List Loc} {cells slots : Nat} {Q : State → Prop} {cc : ByteArray} {pc nL : Nat} {ls : Array Slot} {rest st0 : List Value} {D : va_G} {cA : Nat → ClassId} {ad : Nat → Nat} {A : Nat → Prop} {X : IX} {Y : LX} {own : String} {index : Nat} {r0 : Nat} {r1 : Nat} {X1 : IX} (B : zu_B p s m args c cc nL own D cA ad A) (hP : va_P D zu_cl (zu_pic cA ad X Y) H) (hS : va_S A s.heap H locs) (hr0 : zu_kd r0 = 5) (hr1 : zu_kd r1 = 5) (hq : fn_Land_become r0 r1 X = some X1) (m1 : Cond.methodLink own index zm_Land_become ∈ zu_TB) (hR1 : 1 + 1 ≤ R.frames) (hR2 : 8 + (3 + 11) + 26 ≤ R.locals) (hsz : ls.size = nL) (hst : st0 = .ref (ad r1) :: .ref (ad r0) :: rest) (hw : (rest.map fun v => v.category).sum ≤ 8) (hdg : decode cc pc = .ok (.invokevirtual index, 3)) (h00 : cells ≤ R.cells ∧ slots ≤ R.slots) (kk : ∀ (H1 : Heap) (locs1 : List Loc), va_P D zu_cl (zu_pic cA ad X1 Y) H1 → va_S A s.heap H1 locs1 → W p l e R s m args below meth c H1 locs1 cells slots Q (F0 m (pc + 3) ls (rest))) : W p l e R s m args below meth c H locs cells slots Q (F0 m pc ls st0) := by
  subst hst
  exact zr_cVv (As := [.ref (ad r1)]) (rest := rest) (n := 1) (C := "StonePost$Land") (T := zt_Land) (N := 10) B hP hS (zC_Land_become l hr0 hr1 hq) (K := 5) hr0 (by decide) (by decide) rfl rfl m1 zq_540 zq_541 zq_2 zq_542 (by decide +kernel) ⟨hR1, hR2⟩ rfl rfl rfl hsz rfl hw hdg h00 kk
abbrev zR_Post_homeParts : Room := { frames := 6, cells := 0, slots := 0, locals := 138 }
theorem zd_Post_homeParts_0 : decode zb_Post_homeParts 0 = .ok (.aload_n 0, 1) := by decide +kernel
theorem zd_Post_homeParts_1 : decode zb_Post_homeParts 1 = .ok (.getfield 25, 3) := by decide +kernel
theorem zd_Post_homeParts_4 : decode zb_Post_homeParts 4 = .ok (.aload_n 1, 1) := by decide +kernel
theorem zd_Post_homeParts_5 : decode zb_Post_homeParts 5 = .ok (.invokevirtual 136, 3) := by decide +kernel
theorem zd_Post_homeParts_8 : decode zb_Post_homeParts 8 = .ok (.aload_n 0, 1) := by decide +kernel
theorem zd_Post_homeParts_9 : decode zb_Post_homeParts 9 = .ok (.getfield 25, 3) := by decide +kernel
theorem zd_Post_homeParts_12 : decode zb_Post_homeParts 12 = .ok (.iload_n 2, 1) := by decide +kernel
theorem zd_Post_homeParts_13 : decode zb_Post_homeParts 13 = .ok (.iload_n 3, 1) := by decide +kernel
theorem zd_Post_homeParts_14 : decode zb_Post_homeParts 14 = .ok (.aload_n 0, 1) := by decide +kernel
theorem zd_Post_homeParts_15 : decode zb_Post_homeParts 15 = .ok (.getfield 25, 3) := by decide +kernel
theorem zd_Post_homeParts_18 : decode zb_Post_homeParts 18 = .ok (.getfield 146, 3) := by decide +kernel
theorem zd_Post_homeParts_21 : decode zb_Post_homeParts 21 = .ok (.invokevirtual 149, 3) := by decide +kernel
theorem zd_Post_homeParts_24 : decode zb_Post_homeParts 24 = .ok (.aload_n 0, 1) := by decide +kernel
theorem zd_Post_homeParts_25 : decode zb_Post_homeParts 25 = .ok (.getfield 25, 3) := by decide +kernel
theorem zd_Post_homeParts_28 : decode zb_Post_homeParts 28 = .ok (.getfield 153, 3) := by decide +kernel
theorem zd_Post_homeParts_31 : decode zb_Post_homeParts 31 = .ok (.aload_n 1, 1) := by decide +kernel
theorem zd_Post_homeParts_32 : decode zb_Post_homeParts 32 = .ok (.getfield 63, 3) := by decide +kernel
theorem zd_Post_homeParts_35 : decode zb_Post_homeParts 35 = .ok (.laload, 1) := by decide +kernel
theorem zd_Post_homeParts_36 : decode zb_Post_homeParts 36 = .ok (.lreturn, 1) := by decide +kernel
set_option maxHeartbeats 4000000 in
theorem zl_Post_homeParts {p : Program} {l : Launch} {e : Env} {s : State} {m : MethodId} {args : Array Value} {below : List Frame} {meth : Method} {c : Code} {D : va_G} {cA : Nat → ClassId} {ad : Nat → Nat} {A : Nat → Prop} (B : zu_B p s m args c zb_Post_homeParts 4 "StonePost" D cA ad A) (hret : meth.sig.returnType = (some .long)) (hlk : meth.locks = false) {res : Int64 × IX × LX} {r1 : Nat} {a2 : Int32} {a3 : Int32} {X : IX} {Y : LX} (H : Heap) (locs : List Loc) (ls : Array Slot) (hP : va_P D zu_cl (zu_pic cA ad X Y) H) (hS : va_S A s.heap H locs) (hl : lv_has ls 4 [(0, .ref (ad 0)), (1, .ref (ad r1)), (2, .int a2), (3, .int a3)]) (hr1 : zu_kd r1 = 5) (hf : fn_Post_homeParts r1 a2 a3 X Y = some res) : W p l e zR_Post_homeParts s m args below meth c H locs 0 0 (MQ below (zu_Ql D cA ad A res.1 res.2.1 res.2.2) args s 0 0 A) (F0 m 0 ls []) := by
  obtain ⟨hx, hb, hml, hown, hts, hST⟩ := id B
  unfold fn_Post_homeParts at hf
  refine lv_aload_n hx hb zd_Post_homeParts_0 rfl (lv_at hl 0 rfl) ?_
  refine zg_Post_chart B hP rfl zq_194 zd_Post_homeParts_1 ?_
  refine lv_aload_n hx hb zd_Post_homeParts_4 rfl (lv_at hl 1 rfl) ?_
  obtain ⟨X1, hq2, hf⟩ := zu_b1_e hf
  refine zw_Chart_lay (rest := []) B hP hS hr1 hq2 zq_382 (Nat.le_of_ble_eq_true rfl) (Nat.le_of_ble_eq_true rfl) hl.1 rfl (Nat.le_of_ble_eq_true rfl) zd_Post_homeParts_5 (by decide) (fun H locs hP hS => ?_)
  clear hq2
  refine lv_aload_n hx hb zd_Post_homeParts_8 rfl (lv_at hl 0 rfl) ?_
  refine zg_Post_chart B hP rfl zq_194 zd_Post_homeParts_9 ?_
  refine lv_iload_n hx hb zd_Post_homeParts_12 rfl (lv_at hl 2 rfl) ?_
  refine lv_iload_n hx hb zd_Post_homeParts_13 rfl (lv_at hl 3 rfl) ?_
  refine lv_aload_n hx hb zd_Post_homeParts_14 rfl (lv_at hl 0 rfl) ?_
  refine zg_Post_chart B hP rfl zq_194 zd_Post_homeParts_15 ?_
  refine zg_Chart_choices B hP rfl zq_118 zd_Post_homeParts_18 ?_
  obtain ⟨Y3, hq4, hf⟩ := zu_b1_e hf
  refine zw_Chart_spread (rest := []) B hP hS hq4 zq_450 (Nat.le_of_ble_eq_true rfl) (Nat.le_of_ble_eq_true rfl) hl.1 rfl (Nat.le_of_ble_eq_true rfl) zd_Post_homeParts_21 (by decide) (fun H locs hP hS => ?_)
  clear hq4
  refine lv_aload_n hx hb zd_Post_homeParts_24 rfl (lv_at hl 0 rfl) ?_
  refine zg_Post_chart B hP rfl zq_194 zd_Post_homeParts_25 ?_
  refine zg_Chart_parts B hP rfl zq_115 zd_Post_homeParts_28 ?_
  refine lv_aload_n hx hb zd_Post_homeParts_31 rfl (lv_at hl 1 rfl) ?_
  refine zg_Land_home B hP hr1 zq_69 zd_Post_homeParts_32 ?_
  obtain ⟨hg5, hf⟩ := zu_gd_e hf
  refine zr_lald rfl B hP rfl (by decide) rfl hg5 zd_Post_homeParts_35 ?_
  obtain rfl := Option.some.inj hf
  exact zr_lret hx hb hret hlk hP hS zd_Post_homeParts_36
theorem zC_Post_homeParts (l : Launch) {D : va_G} {cA : Nat → ClassId} {ad : Nat → Nat} {A : Nat → Prop} {r1 : Nat} {a2 : Int32} {a3 : Int32} {X : IX} {Y : LX} {res : Int64 × IX × LX} (hr1 : zu_kd r1 = 5) (hf : fn_Post_homeParts r1 a2 a3 X Y = some res) : Met l zm_Post_homeParts (zu_ws zm_Post_homeParts zb_Post_homeParts 4 (some .long)) zR_Post_homeParts (va_Pc [.ref (ad 0), .ref (ad r1), .int a2, .int a3] (zu_Pre D cA ad A X Y)) (zu_Ql D cA ad A res.1 res.2.1 res.2.2) 0 0 A := by
  refine Met.ofW (cc := zb_Post_homeParts) (maxL := 4) (ret := (some .long)) (by decide +kernel) rfl ?_
  intro p e s m args below meth c s₁ B0 hml hv
  obtain ⟨rfl, hP, hST⟩ := hv
  have B : zu_B p s m _ c zb_Post_homeParts 4 "StonePost" D cA ad A := ⟨B0.exec, B0.bytes, hml, findClass_of_methodNamed B0.named, (fun w hw => atoms_spec (ws := zu_ws zm_Post_homeParts zb_Post_homeParts 4 (some .long)) B0.pre w (List.mem_cons_of_mem _ hw)), hST⟩
  have hl := lv_entry ([.ref (ad 0), .ref (ad r1), .int a2, .int a3]) (n := 4) (Nat.le_of_ble_eq_true rfl)
  rw [lg_entry_eq]
  generalize (lg_sl ([.ref (ad 0), .ref (ad r1), .int a2, .int a3]) ++ List.replicate (4 - (lg_sl ([.ref (ad 0), .ref (ad r1), .int a2, .int a3])).length) Slot.unset).toArray = ls at hl ⊢
  exact zl_Post_homeParts B B0.returns B0.notSynchronized s.heap [] ls hP va_S.rf hl hr1 hf
theorem zw_Post_homeParts {p : Program} {l : Launch} {e : Env} {R : Room} {s : State} {m : MethodId} {args : Array Value} {below : List Frame} {meth : Method} {c : Code} {H : Heap} {locs : List Loc} {cells slots : Nat} {Q : State → Prop} {cc : ByteArray} {pc nL : Nat} {ls : Array Slot} {rest st0 : List Value} {D : va_G} {cA : Nat → ClassId} {ad : Nat → Nat} {A : Nat → Prop} {X : IX} {Y : LX} {own : String} {index : Nat} {r1 : Nat} {a2 : Int32} {a3 : Int32} {v1 : Int64} {X1 : IX} {Y1 : LX} (B : zu_B p s m args c cc nL own D cA ad A) (hP : va_P D zu_cl (zu_pic cA ad X Y) H) (hS : va_S A s.heap H locs) (hr1 : zu_kd r1 = 5) (hq : fn_Post_homeParts r1 a2 a3 X Y = some (v1, X1, Y1)) (m1 : Cond.methodLink own index zm_Post_homeParts ∈ zu_TB) (hR1 : 6 + 1 ≤ R.frames) (hR2 : 8 + (4 + 11) + 138 ≤ R.locals) (hsz : ls.size = nL) (hst : st0 = .int a3 :: .int a2 :: .ref (ad r1) :: .ref (ad 0) :: rest) (hw : (rest.map fun v => v.category).sum ≤ 8) (hdg : decode cc pc = .ok (.invokevirtual index, 3)) (h00 : cells ≤ R.cells ∧ slots ≤ R.slots) (kk : ∀ (H1 : Heap) (locs1 : List Loc), va_P D zu_cl (zu_pic cA ad X1 Y1) H1 → va_S A s.heap H1 locs1 → W p l e R s m args below meth c H1 locs1 cells slots Q (F0 m (pc + 3) ls (.long v1 :: rest))) : W p l e R s m args below meth c H locs cells slots Q (F0 m pc ls st0) := by
  subst hst
  exact zr_cVl (As := [.ref (ad r1), .int a2, .int a3]) (rest := rest) (n := 3) (C := "StonePost") (T := zt_Post) (N := 8) B hP hS (zC_Post_homeParts l hr1 hq) (K := 1) rfl (by decide) (by decide) rfl rfl m1 zq_546 zqP_14 zq_1 zq_547 (by decide +kernel) ⟨hR1, hR2⟩ rfl rfl rfl hsz rfl hw hdg h00 kk
abbrev zR_Post_missed : Room := { frames := 7, cells := 0, slots := 0, locals := 161 }
theorem zd_Post_missed_0 : decode zb_Post_missed 0 = .ok (.iload_n 1, 1) := by decide +kernel
theorem zd_Post_missed_1 : decode zb_Post_missed 1 = .ok (.invokestatic 47, 3) := by decide +kernel
theorem zd_Post_missed_4 : decode zb_Post_missed 4 = .ok (.ifCond .eq 13, 3) := by decide +kernel
theorem zd_Post_missed_7 : decode zb_Post_missed 7 = .ok (.iload_n 2, 1) := by decide +kernel
theorem zd_Post_missed_8 : decode zb_Post_missed 8 = .ok (.iconst 1, 1) := by decide +kernel
theorem zd_Post_missed_9 : decode zb_Post_missed 9 = .ok (.bipush 10, 2) := by decide +kernel
theorem zd_Post_missed_11 : decode zb_Post_missed 11 = .ok (.invokestatic 51, 3) := by decide +kernel
theorem zd_Post_missed_14 : decode zb_Post_missed 14 = .ok (.ifCond .ne 10, 3) := by decide +kernel
theorem zd_Post_missed_17 : decode zb_Post_missed 17 = .ok (.aload_n 0, 1) := by decide +kernel
theorem zd_Post_missed_18 : decode zb_Post_missed 18 = .ok (.ldc 55, 2) := by decide +kernel
theorem zd_Post_missed_20 : decode zb_Post_missed 20 = .ok (.invokevirtual 56, 3) := by decide +kernel
theorem zd_Post_missed_23 : decode zb_Post_missed 23 = .ok (.ireturn, 1) := by decide +kernel
theorem zd_Post_missed_24 : decode zb_Post_missed 24 = .ok (.aload_n 0, 1) := by decide +kernel
theorem zd_Post_missed_25 : decode zb_Post_missed 25 = .ok (.getfield 19, 3) := by decide +kernel
theorem zd_Post_missed_28 : decode zb_Post_missed 28 = .ok (.aload_n 0, 1) := by decide +kernel
theorem zd_Post_missed_29 : decode zb_Post_missed 29 = .ok (.getfield 10, 3) := by decide +kernel
theorem zd_Post_missed_32 : decode zb_Post_missed 32 = .ok (.invokevirtual 197, 3) := by decide +kernel
theorem zd_Post_missed_35 : decode zb_Post_missed 35 = .ok (.iconst (-1), 1) := by decide +kernel
theorem zd_Post_missed_36 : decode zb_Post_missed 36 = .ok (.istore_n 3, 1) := by decide +kernel
theorem zd_Post_missed_37 : decode zb_Post_missed 37 = .ok (.lconst 0, 1) := by decide +kernel
theorem zd_Post_missed_38 : decode zb_Post_missed 38 = .ok (.lstore 4, 2) := by decide +kernel
theorem zd_Post_missed_40 : decode zb_Post_missed 40 = .ok (.iconst 0, 1) := by decide +kernel
theorem zd_Post_missed_41 : decode zb_Post_missed 41 = .ok (.istore 6, 2) := by decide +kernel
theorem zd_Post_missed_43 : decode zb_Post_missed 43 = .ok (.iload 6, 2) := by decide +kernel
theorem zd_Post_missed_45 : decode zb_Post_missed 45 = .ok (.aload_n 0, 1) := by decide +kernel
theorem zd_Post_missed_46 : decode zb_Post_missed 46 = .ok (.getfield 19, 3) := by decide +kernel
theorem zd_Post_missed_49 : decode zb_Post_missed 49 = .ok (.getfield 182, 3) := by decide +kernel
theorem zd_Post_missed_52 : decode zb_Post_missed 52 = .ok (.if_icmp .ge 91, 3) := by decide +kernel
theorem zd_Post_missed_55 : decode zb_Post_missed 55 = .ok (.aload_n 0, 1) := by decide +kernel
theorem zd_Post_missed_56 : decode zb_Post_missed 56 = .ok (.getfield 19, 3) := by decide +kernel
theorem zd_Post_missed_59 : decode zb_Post_missed 59 = .ok (.getfield 87, 3) := by decide +kernel
theorem zd_Post_missed_62 : decode zb_Post_missed 62 = .ok (.iload 6, 2) := by decide +kernel
theorem zd_Post_missed_64 : decode zb_Post_missed 64 = .ok (.aaload, 1) := by decide +kernel
theorem zd_Post_missed_65 : decode zb_Post_missed 65 = .ok (.invokevirtual 167, 3) := by decide +kernel
theorem zd_Post_missed_68 : decode zb_Post_missed 68 = .ok (.ifCond .ne 69, 3) := by decide +kernel
theorem zd_Post_missed_71 : decode zb_Post_missed 71 = .ok (.aload_n 0, 1) := by decide +kernel
theorem zd_Post_missed_72 : decode zb_Post_missed 72 = .ok (.getfield 19, 3) := by decide +kernel
theorem zd_Post_missed_75 : decode zb_Post_missed 75 = .ok (.getfield 87, 3) := by decide +kernel
theorem zd_Post_missed_78 : decode zb_Post_missed 78 = .ok (.iload 6, 2) := by decide +kernel
theorem zd_Post_missed_80 : decode zb_Post_missed 80 = .ok (.aaload, 1) := by decide +kernel
theorem zd_Post_missed_81 : decode zb_Post_missed 81 = .ok (.getfield 91, 3) := by decide +kernel
theorem zd_Post_missed_84 : decode zb_Post_missed 84 = .ok (.bipush 7, 2) := by decide +kernel
theorem zd_Post_missed_86 : decode zb_Post_missed 86 = .ok (.iconst 1, 1) := by decide +kernel
theorem zd_Post_missed_87 : decode zb_Post_missed 87 = .ok (.iastore, 1) := by decide +kernel
theorem zd_Post_missed_88 : decode zb_Post_missed 88 = .ok (.aload_n 0, 1) := by decide +kernel
theorem zd_Post_missed_89 : decode zb_Post_missed 89 = .ok (.aload_n 0, 1) := by decide +kernel
theorem zd_Post_missed_90 : decode zb_Post_missed 90 = .ok (.getfield 19, 3) := by decide +kernel
theorem zd_Post_missed_93 : decode zb_Post_missed 93 = .ok (.iload_n 1, 1) := by decide +kernel
theorem zd_Post_missed_94 : decode zb_Post_missed 94 = .ok (.iload_n 2, 1) := by decide +kernel
theorem zd_Post_missed_95 : decode zb_Post_missed 95 = .ok (.invokevirtual 200, 3) := by decide +kernel
theorem zd_Post_missed_98 : decode zb_Post_missed 98 = .ok (.lstore 7, 2) := by decide +kernel
theorem zd_Post_missed_100 : decode zb_Post_missed 100 = .ok (.aload_n 0, 1) := by decide +kernel
theorem zd_Post_missed_101 : decode zb_Post_missed 101 = .ok (.getfield 19, 3) := by decide +kernel
theorem zd_Post_missed_104 : decode zb_Post_missed 104 = .ok (.getfield 87, 3) := by decide +kernel
theorem zd_Post_missed_107 : decode zb_Post_missed 107 = .ok (.iload 6, 2) := by decide +kernel
theorem zd_Post_missed_109 : decode zb_Post_missed 109 = .ok (.aaload, 1) := by decide +kernel
theorem zd_Post_missed_110 : decode zb_Post_missed 110 = .ok (.getfield 91, 3) := by decide +kernel
theorem zd_Post_missed_113 : decode zb_Post_missed 113 = .ok (.bipush 7, 2) := by decide +kernel
theorem zd_Post_missed_115 : decode zb_Post_missed 115 = .ok (.iconst 0, 1) := by decide +kernel
theorem zd_Post_missed_116 : decode zb_Post_missed 116 = .ok (.iastore, 1) := by decide +kernel
theorem zd_Post_missed_117 : decode zb_Post_missed 117 = .ok (.iload_n 3, 1) := by decide +kernel
theorem zd_Post_missed_118 : decode zb_Post_missed 118 = .ok (.iconst (-1), 1) := by decide +kernel
theorem zd_Post_missed_119 : decode zb_Post_missed 119 = .ok (.if_icmp .eq 11, 3) := by decide +kernel
theorem zd_Post_missed_122 : decode zb_Post_missed 122 = .ok (.lload 7, 2) := by decide +kernel
theorem zd_Post_missed_124 : decode zb_Post_missed 124 = .ok (.lload 4, 2) := by decide +kernel
theorem zd_Post_missed_126 : decode zb_Post_missed 126 = .ok (.lcmp, 1) := by decide +kernel
theorem zd_Post_missed_127 : decode zb_Post_missed 127 = .ok (.ifCond .ge 10, 3) := by decide +kernel
theorem zd_Post_missed_130 : decode zb_Post_missed 130 = .ok (.lload 7, 2) := by decide +kernel
theorem zd_Post_missed_132 : decode zb_Post_missed 132 = .ok (.lstore 4, 2) := by decide +kernel
theorem zd_Post_missed_134 : decode zb_Post_missed 134 = .ok (.iload 6, 2) := by decide +kernel
theorem zd_Post_missed_136 : decode zb_Post_missed 136 = .ok (.istore_n 3, 1) := by decide +kernel
theorem zd_Post_missed_137 : decode zb_Post_missed 137 = .ok (.iinc 6 1, 3) := by decide +kernel
theorem zd_Post_missed_140 : decode zb_Post_missed 140 = .ok (.goto (-97), 3) := by decide +kernel
theorem zd_Post_missed_143 : decode zb_Post_missed 143 = .ok (.iload_n 3, 1) := by decide +kernel
theorem zd_Post_missed_144 : decode zb_Post_missed 144 = .ok (.iconst (-1), 1) := by decide +kernel
theorem zd_Post_missed_145 : decode zb_Post_missed 145 = .ok (.if_icmp .ne 12, 3) := by decide +kernel
theorem zd_Post_missed_148 : decode zb_Post_missed 148 = .ok (.aload_n 0, 1) := by decide +kernel
theorem zd_Post_missed_149 : decode zb_Post_missed 149 = .ok (.ldc 120, 2) := by decide +kernel
theorem zd_Post_missed_151 : decode zb_Post_missed 151 = .ok (.invokevirtual 56, 3) := by decide +kernel
theorem zd_Post_missed_154 : decode zb_Post_missed 154 = .ok (.goto 4, 3) := by decide +kernel
theorem zd_Post_missed_157 : decode zb_Post_missed 157 = .ok (.iload_n 3, 1) := by decide +kernel
theorem zd_Post_missed_158 : decode zb_Post_missed 158 = .ok (.ireturn, 1) := by decide +kernel
set_option maxHeartbeats 4000000 in
theorem zl_Post_missed_L158 {p : Program} {l : Launch} {e : Env} {s : State} {m : MethodId} {args : Array Value} {below : List Frame} {meth : Method} {c : Code} {D : va_G} {cA : Nat → ClassId} {ad : Nat → Nat} {A : Nat → Prop} (B : zu_B p s m args c zb_Post_missed 9 "StonePost" D cA ad A) (hret : meth.sig.returnType = (some .int)) (hlk : meth.locks = false) {res : Int32 × IX × LX} (y0 : Int32) (X : IX) (Y : LX) (H : Heap) (locs : List Loc) (ls : Array Slot) (hP : va_P D zu_cl (zu_pic cA ad X Y) H) (hS : va_S A s.heap H locs) (hl : lv_has ls 9 []) (hf : fn_Post_missed_L158 y0 X Y = some res) : W p l e zR_Post_missed s m args below meth c H locs 0 0 (MQ below (zu_Qi D cA ad A res.1 res.2.1 res.2.2) args s 0 0 A) (F0 m 158 ls [.int y0]) := by
  obtain ⟨hx, hb, hml, hown, hts, hST⟩ := id B
  unfold fn_Post_missed_L158 at hf
  obtain rfl := Option.some.inj hf
  exact zr_iret hx hb hret hlk hP hS zd_Post_missed_158
set_option maxHeartbeats 4000000 in
theorem zl_Post_missed_L137 {p : Program} {l : Launch} {e : Env} {s : State} {m : MethodId} {args : Array Value} {below : List Frame} {meth : Method} {c : Code} {D : va_G} {cA : Nat → ClassId} {ad : Nat → Nat} {A : Nat → Prop} (B : zu_B p s m args c zb_Post_missed 9 "StonePost" D cA ad A) (hret : meth.sig.returnType = (some .int)) (hlk : meth.locks = false) {res : Int32 × IX × LX} {k43 : Int32 → Int32 → Int32 → Int64 → Int32 → IX → LX → Option (Int32 × IX × LX)} (hk43 : ∀ (x1 : Int32) (x2 : Int32) (x3 : Int32) (x4 : Int64) (x6 : Int32) (X : IX) (Y : LX) (H : Heap) (locs : List Loc) (ls : Array Slot), va_P D zu_cl (zu_pic cA ad X Y) H → va_S A s.heap H locs → lv_has ls 9 [(0, .ref (ad 0)), (1, .int x1), (2, .int x2), (3, .int x3), (4, .long x4), (6, .int x6)] → k43 x1 x2 x3 x4 x6 X Y = some res → W p l e zR_Post_missed s m args below meth c H locs 0 0 (MQ below (zu_Qi D cA ad A res.1 res.2.1 res.2.2) args s 0 0 A) (F0 m 43 ls [])) (x1 : Int32) (x2 : Int32) (x3 : Int32) (x4 : Int64) (x6 : Int32) (X : IX) (Y : LX) (H : Heap) (locs : List Loc) (ls : Array Slot) (hP : va_P D zu_cl (zu_pic cA ad X Y) H) (hS : va_S A s.heap H locs) (hl : lv_has ls 9 [(0, .ref (ad 0)), (1, .int x1), (2, .int x2), (3, .int x3), (4, .long x4), (6, .int x6)]) (hf : fn_Post_missed_L137 k43 x1 x2 x3 x4 x6 X Y = some res) : W p l e zR_Post_missed s m args below meth c H locs 0 0 (MQ below (zu_Qi D cA ad A res.1 res.2.1 res.2.2) args s 0 0 A) (F0 m 137 ls []) := by
  obtain ⟨hx, hb, hml, hown, hts, hST⟩ := id B
  unfold fn_Post_missed_L137 at hf
  obtain ⟨v31, ev31, hf⟩ := zu_nx_e hf
  refine lv_iinc (v := v31) (lv' := [(6, .int v31), (0, .ref (ad 0)), (1, .int x1), (2, .int x2), (3, .int x3), (4, .long x4)]) hx hb zd_Post_missed_137 hl (k := 5) rfl (by rw [ev31]; rfl) (by decide) rfl (fun ls hl => ?_)
  clear ev31
  refine lv_goto (tgt := 43) hx hb zd_Post_missed_140 (by decide) ?_
  exact hk43 x1 x2 x3 x4 v31 X Y _ _ _ hP hS (lv_sub hl [1, 2, 3, 4, 5, 0] rfl) hf
set_option maxHeartbeats 4000000 in
theorem zl_Post_missed_L130 {p : Program} {l : Launch} {e : Env} {s : State} {m : MethodId} {args : Array Value} {below : List Frame} {meth : Method} {c : Code} {D : va_G} {cA : Nat → ClassId} {ad : Nat → Nat} {A : Nat → Prop} (B : zu_B p s m args c zb_Post_missed 9 "StonePost" D cA ad A) (hret : meth.sig.returnType = (some .int)) (hlk : meth.locks = false) {res : Int32 × IX × LX} {k43 : Int32 → Int32 → Int32 → Int64 → Int32 → IX → LX → Option (Int32 × IX × LX)} (hk43 : ∀ (x1 : Int32) (x2 : Int32) (x3 : Int32) (x4 : Int64) (x6 : Int32) (X : IX) (Y : LX) (H : Heap) (locs : List Loc) (ls : Array Slot), va_P D zu_cl (zu_pic cA ad X Y) H → va_S A s.heap H locs → lv_has ls 9 [(0, .ref (ad 0)), (1, .int x1), (2, .int x2), (3, .int x3), (4, .long x4), (6, .int x6)] → k43 x1 x2 x3 x4 x6 X Y = some res → W p l e zR_Post_missed s m args below meth c H locs 0 0 (MQ below (zu_Qi D cA ad A res.1 res.2.1 res.2.2) args s 0 0 A) (F0 m 43 ls [])) (x1 : Int32) (x2 : Int32) (x6 : Int32) (x7 : Int64) (X : IX) (Y : LX) (H : Heap) (locs : List Loc) (ls : Array Slot) (hP : va_P D zu_cl (zu_pic cA ad X Y) H) (hS : va_S A s.heap H locs) (hl : lv_has ls 9 [(0, .ref (ad 0)), (1, .int x1), (2, .int x2), (6, .int x6), (7, .long x7)]) (hf : fn_Post_missed_L130 k43 x1 x2 x6 x7 X Y = some res) : W p l e zR_Post_missed s m args below meth c H locs 0 0 (MQ below (zu_Qi D cA ad A res.1 res.2.1 res.2.2) args s 0 0 A) (F0 m 130 ls []) := by
  obtain ⟨hx, hb, hml, hown, hts, hST⟩ := id B
  unfold fn_Post_missed_L130 at hf
  refine lv_lload hx hb zd_Post_missed_130 (lv_at hl 4 rfl) ?_
  refine lv_lstore (lv' := [(4, .long x7), (0, .ref (ad 0)), (1, .int x1), (2, .int x2), (6, .int x6), (7, .long x7)]) hx hb zd_Post_missed_132 hl (by decide) rfl (fun ls hl => ?_)
  refine lv_iload hx hb zd_Post_missed_134 (lv_at hl 4 rfl) ?_
  refine lv_istore_n (lv' := [(3, .int x6), (4, .long x7), (0, .ref (ad 0)), (1, .int x1), (2, .int x2), (6, .int x6), (7, .long x7)]) hx hb zd_Post_missed_136 rfl hl (by decide) rfl (fun ls hl => ?_)
  exact zl_Post_missed_L137 B hret hlk hk43 x1 x2 x6 x7 x6 X Y _ _ _ hP hS (lv_sub hl [2, 3, 4, 0, 1, 5] rfl) hf
set_option maxHeartbeats 4000000 in
theorem zl_Post_missed_B43 {p : Program} {l : Launch} {e : Env} {s : State} {m : MethodId} {args : Array Value} {below : List Frame} {meth : Method} {c : Code} {D : va_G} {cA : Nat → ClassId} {ad : Nat → Nat} {A : Nat → Prop} (B : zu_B p s m args c zb_Post_missed 9 "StonePost" D cA ad A) (hret : meth.sig.returnType = (some .int)) (hlk : meth.locks = false) {res : Int32 × IX × LX} {k43 : Int32 → Int32 → Int32 → Int64 → Int32 → IX → LX → Option (Int32 × IX × LX)} (hk43 : ∀ (x1 : Int32) (x2 : Int32) (x3 : Int32) (x4 : Int64) (x6 : Int32) (X : IX) (Y : LX) (H : Heap) (locs : List Loc) (ls : Array Slot), va_P D zu_cl (zu_pic cA ad X Y) H → va_S A s.heap H locs → lv_has ls 9 [(0, .ref (ad 0)), (1, .int x1), (2, .int x2), (3, .int x3), (4, .long x4), (6, .int x6)] → k43 x1 x2 x3 x4 x6 X Y = some res → W p l e zR_Post_missed s m args below meth c H locs 0 0 (MQ below (zu_Qi D cA ad A res.1 res.2.1 res.2.2) args s 0 0 A) (F0 m 43 ls [])) (x1 : Int32) (x2 : Int32) (x3 : Int32) (x4 : Int64) (x6 : Int32) (X : IX) (Y : LX) (H : Heap) (locs : List Loc) (ls : Array Slot) (hP : va_P D zu_cl (zu_pic cA ad X Y) H) (hS : va_S A s.heap H locs) (hl : lv_has ls 9 [(0, .ref (ad 0)), (1, .int x1), (2, .int x2), (3, .int x3), (4, .long x4), (6, .int x6)]) (hf : fn_Post_missed_B43 k43 x1 x2 x3 x4 x6 X Y = some res) : W p l e zR_Post_missed s m args below meth c H locs 0 0 (MQ below (zu_Qi D cA ad A res.1 res.2.1 res.2.2) args s 0 0 A) (F0 m 43 ls []) := by
  obtain ⟨hx, hb, hml, hown, hts, hST⟩ := id B
  unfold fn_Post_missed_B43 at hf
  refine lv_iload hx hb zd_Post_missed_43 (lv_at hl 5 rfl) ?_
  refine lv_aload_n hx hb zd_Post_missed_45 rfl (lv_at hl 0 rfl) ?_
  refine zg_Post_trial B hP rfl zq_193 zd_Post_missed_46 ?_
  refine zg_Land_throwerCount B hP rfl zq_63 zd_Post_missed_49 ?_
  refine lv_icmp_ge (tgt := 143) hx hb zd_Post_missed_52 (by decide) (fun c12 => ?_) (fun c12 => ?_)
  · have hf := zu_t c12 hf
    refine lv_iload_n hx hb zd_Post_missed_143 rfl (lv_at hl 3 rfl) ?_
    refine lv_iconst (v := -1) hx hb zd_Post_missed_144 (by decide) ?_
    refine lv_icmp_ne (tgt := 157) hx hb zd_Post_missed_145 (by decide) (fun c13 => ?_) (fun c13 => ?_)
    · have hf := zu_f c13 hf
      refine lv_iload_n hx hb zd_Post_missed_157 rfl (lv_at hl 3 rfl) ?_
      exact zl_Post_missed_L158 B hret hlk x3 X Y _ _ _ hP hS (lv_sub hl [] rfl) hf
    · have hf := zu_t c13 hf
      refine lv_aload_n hx hb zd_Post_missed_148 rfl (lv_at hl 0 rfl) ?_
      refine lv_ldc (v := -1000004) hx hb hown (hts _ zq_357) zd_Post_missed_149 ?_
      obtain ⟨v14, X15, hq16, hf⟩ := zu_b2_e hf
      refine zw_Post_finding (rest := []) B hP hS hq16 zq_227 (Nat.le_of_ble_eq_true rfl) (Nat.le_of_ble_eq_true rfl) hl.1 rfl (Nat.le_of_ble_eq_true rfl) zd_Post_missed_151 (by decide) (fun H locs hP hS => ?_)
      clear hq16
      refine lv_goto (tgt := 158) hx hb zd_Post_missed_154 (by decide) ?_
      exact zl_Post_missed_L158 B hret hlk v14 X15 Y _ _ _ hP hS (lv_sub hl [] rfl) hf
  · have hf := zu_f c12 hf
    refine lv_aload_n hx hb zd_Post_missed_55 rfl (lv_at hl 0 rfl) ?_
    refine zg_Post_trial B hP rfl zq_193 zd_Post_missed_56 ?_
    refine zg_Land_throwers B hP rfl zq_55 zd_Post_missed_59 ?_
    refine lv_iload hx hb zd_Post_missed_62 (lv_at hl 5 rfl) ?_
    obtain ⟨hg17, hf⟩ := zu_gd_e hf
    refine zr_thr rfl B hP (zk_Land_throwers rfl) hg17 zd_Post_missed_64 ?_
    obtain ⟨v18, hq19, hf⟩ := zu_b1_e hf
    refine zw_Thr_isIll (rest := []) B hP hS (zk_thr (zk_Land_throwers rfl) (zu_ib_lt hg17)) hq19 zq_514 (Nat.le_of_ble_eq_true rfl) (Nat.le_of_ble_eq_true rfl) hl.1 rfl (Nat.le_of_ble_eq_true rfl) zd_Post_missed_65 (by decide) (fun H locs hP hS => ?_)
    clear hq19
    refine lv_if_ne (tgt := 137) hx hb zd_Post_missed_68 (by decide) (fun c20 => ?_) (fun c20 => ?_)
    · have hf := zu_f c20 hf
      exact zl_Post_missed_L137 B hret hlk hk43 x1 x2 x3 x4 x6 X Y _ _ _ hP hS (lv_sub hl [0, 1, 2, 3, 4, 5] rfl) hf
    · have hf := zu_t c20 hf
      refine lv_aload_n hx hb zd_Post_missed_71 rfl (lv_at hl 0 rfl) ?_
      refine zg_Post_trial B hP rfl zq_193 zd_Post_missed_72 ?_
      refine zg_Land_throwers B hP rfl zq_55 zd_Post_missed_75 ?_
      refine lv_iload hx hb zd_Post_missed_78 (lv_at hl 5 rfl) ?_
      obtain ⟨hg21, hf⟩ := zu_gd_e hf
      refine zr_thr rfl B hP (zk_Land_throwers rfl) hg21 zd_Post_missed_80 ?_
      refine zg_Thr_facts B hP (zk_thr (zk_Land_throwers rfl) (zu_ib_lt hg21)) zq_41 zd_Post_missed_81 ?_
      refine lv_bipush (v := 7) hx hb zd_Post_missed_84 (by decide) ?_
      refine lv_iconst (v := 1) hx hb zd_Post_missed_86 (by decide) ?_
      refine zr_iast (j := 7) (by decide) B hP hS hf (zk_Thr_facts (zk_thr (zk_Land_throwers rfl) (zu_ib_lt hg21))) (by decide) rfl (by decide) zd_Post_missed_87 (fun X22 H locs hf hP hS => ?_)
      refine lv_aload_n hx hb zd_Post_missed_88 rfl (lv_at hl 0 rfl) ?_
      refine lv_aload_n hx hb zd_Post_missed_89 rfl (lv_at hl 0 rfl) ?_
      refine zg_Post_trial B hP rfl zq_193 zd_Post_missed_90 ?_
      refine lv_iload_n hx hb zd_Post_missed_93 rfl (lv_at hl 1 rfl) ?_
      refine lv_iload_n hx hb zd_Post_missed_94 rfl (lv_at hl 2 rfl) ?_
      obtain ⟨v23, X24, Y25, hq26, hf⟩ := zu_b3_e hf
      refine zw_Post_homeParts (rest := []) B hP hS rfl hq26 zq_544 (Nat.le_of_ble_eq_true rfl) (Nat.le_of_ble_eq_true rfl) hl.1 rfl (Nat.le_of_ble_eq_true rfl) zd_Post_missed_95 (by decide) (fun H locs hP hS => ?_)
      clear hq26
      refine lv_lstore (lv' := [(7, .long v23), (0, .ref (ad 0)), (1, .int x1), (2, .int x2), (3, .int x3), (4, .long x4), (6, .int x6)]) hx hb zd_Post_missed_98 hl (by decide) rfl (fun ls hl => ?_)
      refine lv_aload_n hx hb zd_Post_missed_100 rfl (lv_at hl 1 rfl) ?_
      refine zg_Post_trial B hP rfl zq_193 zd_Post_missed_101 ?_
      refine zg_Land_throwers B hP rfl zq_55 zd_Post_missed_104 ?_
      refine lv_iload hx hb zd_Post_missed_107 (lv_at hl 6 rfl) ?_
      obtain ⟨hg27, hf⟩ := zu_gd_e hf
      refine zr_thr rfl B hP (zk_Land_throwers rfl) hg27 zd_Post_missed_109 ?_
      refine zg_Thr_facts B hP (zk_thr (zk_Land_throwers rfl) (zu_ib_lt hg27)) zq_41 zd_Post_missed_110 ?_
      refine lv_bipush (v := 7) hx hb zd_Post_missed_113 (by decide) ?_
      refine lv_iconst (v := 0) hx hb zd_Post_missed_115 (by decide) ?_
      refine zr_iast (j := 7) (by decide) B hP hS hf (zk_Thr_facts (zk_thr (zk_Land_throwers rfl) (zu_ib_lt hg27))) (by decide) rfl (by decide) zd_Post_missed_116 (fun X28 H locs hf hP hS => ?_)
      refine lv_iload_n hx hb zd_Post_missed_117 rfl (lv_at hl 4 rfl) ?_
      refine lv_iconst (v := -1) hx hb zd_Post_missed_118 (by decide) ?_
      refine lv_icmp_eq (tgt := 130) hx hb zd_Post_missed_119 (by decide) (fun c29 => ?_) (fun c29 => ?_)
      · have hf := zu_t c29 hf
        exact zl_Post_missed_L130 B hret hlk hk43 x1 x2 x6 v23 X28 Y25 _ _ _ hP hS (lv_sub hl [1, 2, 3, 6, 0] rfl) hf
      · have hf := zu_f c29 hf
        refine lv_lload hx hb zd_Post_missed_122 (lv_at hl 0 rfl) ?_
        refine lv_lload hx hb zd_Post_missed_124 (lv_at hl 5 rfl) ?_
        refine W.lcmp hx hb zd_Post_missed_126 ?_
        refine lv_if_ge (tgt := 137) hx hb zd_Post_missed_127 (by decide) (fun c30 => ?_) (fun c30 => ?_)
        · have hf := zu_t c30 hf
          exact zl_Post_missed_L137 B hret hlk hk43 x1 x2 x3 x4 x6 X28 Y25 _ _ _ hP hS (lv_sub hl [1, 2, 3, 4, 5, 6] rfl) hf
        · have hf := zu_f c30 hf
          exact zl_Post_missed_L130 B hret hlk hk43 x1 x2 x6 v23 X28 Y25 _ _ _ hP hS (lv_sub hl [1, 2, 3, 6, 0] rfl) hf
theorem zl_Post_missed_L43 {p : Program} {l : Launch} {e : Env} {s : State} {m : MethodId} {args : Array Value} {below : List Frame} {meth : Method} {c : Code} {D : va_G} {cA : Nat → ClassId} {ad : Nat → Nat} {A : Nat → Prop} (B : zu_B p s m args c zb_Post_missed 9 "StonePost" D cA ad A) (hret : meth.sig.returnType = (some .int)) (hlk : meth.locks = false) {res : Int32 × IX × LX} : ∀ (n : Nat) (x1 : Int32) (x2 : Int32) (x3 : Int32) (x4 : Int64) (x6 : Int32) (X : IX) (Y : LX) (H : Heap) (locs : List Loc) (ls : Array Slot), va_P D zu_cl (zu_pic cA ad X Y) H → va_S A s.heap H locs → lv_has ls 9 [(0, .ref (ad 0)), (1, .int x1), (2, .int x2), (3, .int x3), (4, .long x4), (6, .int x6)] → fn_Post_missed_L43 n x1 x2 x3 x4 x6 X Y = some res → W p l e zR_Post_missed s m args below meth c H locs 0 0 (MQ below (zu_Qi D cA ad A res.1 res.2.1 res.2.2) args s 0 0 A) (F0 m 43 ls []) := by
  intro n
  induction n with
  | zero =>
    intro x1 x2 x3 x4 x6 X Y H locs ls hP hS hl hf
    exact (Option.some_ne_none _ hf.symm).elim
  | succ n ih =>
    intro x1 x2 x3 x4 x6 X Y H locs ls hP hS hl hf
    exact zl_Post_missed_B43 B hret hlk ih x1 x2 x3 x4 x6 X Y H locs ls hP hS hl  hf
set_option maxHeartbeats 4000000 in
theorem zl_Post_missed_L17 {p : Program} {l : Launch} {e : Env} {s : State} {m : MethodId} {args : Array Value} {below : List Frame} {meth : Method} {c : Code} {D : va_G} {cA : Nat → ClassId} {ad : Nat → Nat} {A : Nat → Prop} (B : zu_B p s m args c zb_Post_missed 9 "StonePost" D cA ad A) (hret : meth.sig.returnType = (some .int)) (hlk : meth.locks = false) {res : Int32 × IX × LX} (X : IX) (Y : LX) (H : Heap) (locs : List Loc) (ls : Array Slot) (hP : va_P D zu_cl (zu_pic cA ad X Y) H) (hS : va_S A s.heap H locs) (hl : lv_has ls 9 [(0, .ref (ad 0))]) (hf : fn_Post_missed_L17 X Y = some res) : W p l e zR_Post_missed s m args below meth c H locs 0 0 (MQ below (zu_Qi D cA ad A res.1 res.2.1 res.2.2) args s 0 0 A) (F0 m 17 ls []) := by
  obtain ⟨hx, hb, hml, hown, hts, hST⟩ := id B
  unfold fn_Post_missed_L17 at hf
  refine lv_aload_n hx hb zd_Post_missed_17 rfl (lv_at hl 0 rfl) ?_
  refine lv_ldc (v := -1000001) hx hb hown (hts _ zq_226) zd_Post_missed_18 ?_
  obtain ⟨v9, X10, hq11, hf⟩ := zu_b2_e hf
  refine zw_Post_finding (rest := []) B hP hS hq11 zq_227 (Nat.le_of_ble_eq_true rfl) (Nat.le_of_ble_eq_true rfl) hl.1 rfl (Nat.le_of_ble_eq_true rfl) zd_Post_missed_20 (by decide) (fun H locs hP hS => ?_)
  clear hq11
  obtain rfl := Option.some.inj hf
  exact zr_iret hx hb hret hlk hP hS zd_Post_missed_23
set_option maxHeartbeats 4000000 in
theorem zl_Post_missed {p : Program} {l : Launch} {e : Env} {s : State} {m : MethodId} {args : Array Value} {below : List Frame} {meth : Method} {c : Code} {D : va_G} {cA : Nat → ClassId} {ad : Nat → Nat} {A : Nat → Prop} (B : zu_B p s m args c zb_Post_missed 9 "StonePost" D cA ad A) (hret : meth.sig.returnType = (some .int)) (hlk : meth.locks = false) {res : Int32 × IX × LX} {a1 : Int32} {a2 : Int32} {X : IX} {Y : LX} (H : Heap) (locs : List Loc) (ls : Array Slot) (hP : va_P D zu_cl (zu_pic cA ad X Y) H) (hS : va_S A s.heap H locs) (hl : lv_has ls 9 [(0, .ref (ad 0)), (1, .int a1), (2, .int a2)]) (hf : fn_Post_missed a1 a2 X Y = some res) : W p l e zR_Post_missed s m args below meth c H locs 0 0 (MQ below (zu_Qi D cA ad A res.1 res.2.1 res.2.2) args s 0 0 A) (F0 m 0 ls []) := by
  obtain ⟨hx, hb, hml, hown, hts, hST⟩ := id B
  unfold fn_Post_missed at hf
  refine lv_iload_n hx hb zd_Post_missed_0 rfl (lv_at hl 1 rfl) ?_
  obtain ⟨v1, hq2, hf⟩ := zu_b1_e hf
  refine zw_Post_isCell (rest := []) B hP hS hq2 zq_220 (Nat.le_of_ble_eq_true rfl) (Nat.le_of_ble_eq_true rfl) hl.1 rfl (Nat.le_of_ble_eq_true rfl) zd_Post_missed_1 (by decide) (fun H locs hP hS => ?_)
  clear hq2
  refine lv_if_eq (tgt := 17) hx hb zd_Post_missed_4 (by decide) (fun c3 => ?_) (fun c3 => ?_)
  · have hf := zu_t c3 hf
    exact zl_Post_missed_L17 B hret hlk X Y _ _ _ hP hS (lv_sub hl [0] rfl) hf
  · have hf := zu_f c3 hf
    refine lv_iload_n hx hb zd_Post_missed_7 rfl (lv_at hl 2 rfl) ?_
    refine lv_iconst (v := 1) hx hb zd_Post_missed_8 (by decide) ?_
    refine lv_bipush (v := 10) hx hb zd_Post_missed_9 (by decide) ?_
    obtain ⟨v4, hq5, hf⟩ := zu_b1_e hf
    refine zw_Post_isWithin (rest := []) B hP hS hq5 zq_223 (Nat.le_of_ble_eq_true rfl) (Nat.le_of_ble_eq_true rfl) hl.1 rfl (Nat.le_of_ble_eq_true rfl) zd_Post_missed_11 (by decide) (fun H locs hP hS => ?_)
    clear hq5
    refine lv_if_ne (tgt := 24) hx hb zd_Post_missed_14 (by decide) (fun c6 => ?_) (fun c6 => ?_)
    · have hf := zu_f c6 hf
      refine lv_aload_n hx hb zd_Post_missed_24 rfl (lv_at hl 0 rfl) ?_
      refine zg_Post_trial B hP rfl zq_193 zd_Post_missed_25 ?_
      refine lv_aload_n hx hb zd_Post_missed_28 rfl (lv_at hl 0 rfl) ?_
      refine zg_Post_land B hP rfl zq_191 zd_Post_missed_29 ?_
      obtain ⟨X7, hq8, hf⟩ := zu_b1_e hf
      refine zw_Land_become (rest := []) B hP hS rfl rfl hq8 zq_539 (Nat.le_of_ble_eq_true rfl) (Nat.le_of_ble_eq_true rfl) hl.1 rfl (Nat.le_of_ble_eq_true rfl) zd_Post_missed_32 (by decide) (fun H locs hP hS => ?_)
      clear hq8
      refine lv_iconst (v := -1) hx hb zd_Post_missed_35 (by decide) ?_
      refine lv_istore_n (lv' := [(3, .int (-1 : Int32)), (0, .ref (ad 0)), (1, .int a1), (2, .int a2)]) hx hb zd_Post_missed_36 rfl hl (by decide) rfl (fun ls hl => ?_)
      refine lv_lconst (v := 0) hx hb zd_Post_missed_37 (by decide) ?_
      refine lv_lstore (lv' := [(4, .long (0 : Int64)), (3, .int (-1 : Int32)), (0, .ref (ad 0)), (1, .int a1), (2, .int a2)]) hx hb zd_Post_missed_38 hl (by decide) rfl (fun ls hl => ?_)
      refine lv_iconst (v := 0) hx hb zd_Post_missed_40 (by decide) ?_
      refine lv_istore (lv' := [(6, .int (0 : Int32)), (4, .long (0 : Int64)), (3, .int (-1 : Int32)), (0, .ref (ad 0)), (1, .int a1), (2, .int a2)]) hx hb zd_Post_missed_41 hl (by decide) rfl (fun ls hl => ?_)
      exact zl_Post_missed_L43 B hret hlk 400 a1 a2 (-1 : Int32) (0 : Int64) (0 : Int32) X7 Y _ _ _ hP hS (lv_sub hl [3, 4, 5, 2, 1, 0] rfl) hf
    · have hf := zu_t c6 hf
      exact zl_Post_missed_L17 B hret hlk X Y _ _ _ hP hS (lv_sub hl [0] rfl) hf
theorem zC_Post_missed (l : Launch) {D : va_G} {cA : Nat → ClassId} {ad : Nat → Nat} {A : Nat → Prop} {a1 : Int32} {a2 : Int32} {X : IX} {Y : LX} {res : Int32 × IX × LX} (hf : fn_Post_missed a1 a2 X Y = some res) : Met l zm_Post_missed (zu_ws zm_Post_missed zb_Post_missed 9 (some .int)) zR_Post_missed (va_Pc [.ref (ad 0), .int a1, .int a2] (zu_Pre D cA ad A X Y)) (zu_Qi D cA ad A res.1 res.2.1 res.2.2) 0 0 A := by
  refine Met.ofW (cc := zb_Post_missed) (maxL := 9) (ret := (some .int)) (by decide +kernel) rfl ?_
  intro p e s m args below meth c s₁ B0 hml hv
  obtain ⟨rfl, hP, hST⟩ := hv
  have B : zu_B p s m _ c zb_Post_missed 9 "StonePost" D cA ad A := ⟨B0.exec, B0.bytes, hml, findClass_of_methodNamed B0.named, (fun w hw => atoms_spec (ws := zu_ws zm_Post_missed zb_Post_missed 9 (some .int)) B0.pre w (List.mem_cons_of_mem _ hw)), hST⟩
  have hl := lv_entry ([.ref (ad 0), .int a1, .int a2]) (n := 9) (Nat.le_of_ble_eq_true rfl)
  rw [lg_entry_eq]
  generalize (lg_sl ([.ref (ad 0), .int a1, .int a2]) ++ List.replicate (9 - (lg_sl ([.ref (ad 0), .int a1, .int a2])).length) Slot.unset).toArray = ls at hl ⊢
  exact zl_Post_missed B B0.returns B0.notSynchronized s.heap [] ls hP va_S.rf hl  hf
theorem zw_Post_missed {p : Program} {l : Launch} {e : Env} {R : Room} {s : State} {m : MethodId} {args : Array Value} {below : List Frame} {meth : Method} {c : Code} {H : Heap} {locs : List Loc} {cells slots : Nat} {Q : State → Prop} {cc : ByteArray} {pc nL : Nat} {ls : Array Slot} {rest st0 : List Value} {D : va_G} {cA : Nat → ClassId} {ad : Nat → Nat} {A : Nat → Prop} {X : IX} {Y : LX} {own : String} {index : Nat} {a1 : Int32} {a2 : Int32} {v1 : Int32} {X1 : IX} {Y1 : LX} (B : zu_B p s m args c cc nL own D cA ad A) (hP : va_P D zu_cl (zu_pic cA ad X Y) H) (hS : va_S A s.heap H locs) (hq : fn_Post_missed a1 a2 X Y = some (v1, X1, Y1)) (m1 : Cond.methodLink own index zm_Post_missed ∈ zu_TB) (hR1 : 7 + 1 ≤ R.frames) (hR2 : 8 + (9 + 11) + 161 ≤ R.locals) (hsz : ls.size = nL) (hst : st0 = .int a2 :: .int a1 :: .ref (ad 0) :: rest) (hw : (rest.map fun v => v.category).sum ≤ 8) (hdg : decode cc pc = .ok (.invokevirtual index, 3)) (h00 : cells ≤ R.cells ∧ slots ≤ R.slots) (kk : ∀ (H1 : Heap) (locs1 : List Loc), va_P D zu_cl (zu_pic cA ad X1 Y1) H1 → va_S A s.heap H1 locs1 → W p l e R s m args below meth c H1 locs1 cells slots Q (F0 m (pc + 3) ls (.int v1 :: rest))) : W p l e R s m args below meth c H locs cells slots Q (F0 m pc ls st0) := by
  subst hst
  exact zr_cVi (As := [.int a1, .int a2]) (rest := rest) (n := 2) (C := "StonePost") (T := zt_Post) (N := 8) B hP hS (zC_Post_missed l  hq) (K := 1) rfl (by decide) (by decide) rfl rfl m1 zq_536 zq_537 zq_1 zq_538 (by decide +kernel) ⟨hR1, hR2⟩ rfl rfl rfl hsz rfl hw hdg h00 kk
abbrev zR_Post_stand : Room := { frames := 7, cells := 0, slots := 0, locals := 161 }
theorem zd_Post_stand_0 : decode zb_Post_stand 0 = .ok (.iload_n 1, 1) := by decide +kernel
theorem zd_Post_stand_1 : decode zb_Post_stand 1 = .ok (.invokestatic 47, 3) := by decide +kernel
theorem zd_Post_stand_4 : decode zb_Post_stand 4 = .ok (.ifCond .eq 13, 3) := by decide +kernel
theorem zd_Post_stand_7 : decode zb_Post_stand 7 = .ok (.iload_n 2, 1) := by decide +kernel
theorem zd_Post_stand_8 : decode zb_Post_stand 8 = .ok (.iconst 1, 1) := by decide +kernel
theorem zd_Post_stand_9 : decode zb_Post_stand 9 = .ok (.bipush 10, 2) := by decide +kernel
theorem zd_Post_stand_11 : decode zb_Post_stand 11 = .ok (.invokestatic 51, 3) := by decide +kernel
theorem zd_Post_stand_14 : decode zb_Post_stand 14 = .ok (.ifCond .ne 10, 3) := by decide +kernel
theorem zd_Post_stand_17 : decode zb_Post_stand 17 = .ok (.aload_n 0, 1) := by decide +kernel
theorem zd_Post_stand_18 : decode zb_Post_stand 18 = .ok (.ldc 55, 2) := by decide +kernel
theorem zd_Post_stand_20 : decode zb_Post_stand 20 = .ok (.invokevirtual 56, 3) := by decide +kernel
theorem zd_Post_stand_23 : decode zb_Post_stand 23 = .ok (.ireturn, 1) := by decide +kernel
theorem zd_Post_stand_24 : decode zb_Post_stand 24 = .ok (.aload_n 0, 1) := by decide +kernel
theorem zd_Post_stand_25 : decode zb_Post_stand 25 = .ok (.getfield 19, 3) := by decide +kernel
theorem zd_Post_stand_28 : decode zb_Post_stand 28 = .ok (.aload_n 0, 1) := by decide +kernel
theorem zd_Post_stand_29 : decode zb_Post_stand 29 = .ok (.getfield 10, 3) := by decide +kernel
theorem zd_Post_stand_32 : decode zb_Post_stand 32 = .ok (.invokevirtual 197, 3) := by decide +kernel
theorem zd_Post_stand_35 : decode zb_Post_stand 35 = .ok (.aload_n 0, 1) := by decide +kernel
theorem zd_Post_stand_36 : decode zb_Post_stand 36 = .ok (.getfield 19, 3) := by decide +kernel
theorem zd_Post_stand_39 : decode zb_Post_stand 39 = .ok (.iconst 0, 1) := by decide +kernel
theorem zd_Post_stand_40 : decode zb_Post_stand 40 = .ok (.iconst 0, 1) := by decide +kernel
theorem zd_Post_stand_41 : decode zb_Post_stand 41 = .ok (.invokevirtual 77, 3) := by decide +kernel
theorem zd_Post_stand_44 : decode zb_Post_stand 44 = .ok (.istore_n 3, 1) := by decide +kernel
theorem zd_Post_stand_45 : decode zb_Post_stand 45 = .ok (.iload_n 3, 1) := by decide +kernel
theorem zd_Post_stand_46 : decode zb_Post_stand 46 = .ok (.iconst (-1), 1) := by decide +kernel
theorem zd_Post_stand_47 : decode zb_Post_stand 47 = .ok (.if_icmp .ne 10, 3) := by decide +kernel
theorem zd_Post_stand_50 : decode zb_Post_stand 50 = .ok (.aload_n 0, 1) := by decide +kernel
theorem zd_Post_stand_51 : decode zb_Post_stand 51 = .ok (.ldc 81, 2) := by decide +kernel
theorem zd_Post_stand_53 : decode zb_Post_stand 53 = .ok (.invokevirtual 56, 3) := by decide +kernel
theorem zd_Post_stand_56 : decode zb_Post_stand 56 = .ok (.ireturn, 1) := by decide +kernel
theorem zd_Post_stand_57 : decode zb_Post_stand 57 = .ok (.aload_n 0, 1) := by decide +kernel
theorem zd_Post_stand_58 : decode zb_Post_stand 58 = .ok (.getfield 19, 3) := by decide +kernel
theorem zd_Post_stand_61 : decode zb_Post_stand 61 = .ok (.getfield 87, 3) := by decide +kernel
theorem zd_Post_stand_64 : decode zb_Post_stand 64 = .ok (.iload_n 3, 1) := by decide +kernel
theorem zd_Post_stand_65 : decode zb_Post_stand 65 = .ok (.aaload, 1) := by decide +kernel
theorem zd_Post_stand_66 : decode zb_Post_stand 66 = .ok (.getfield 91, 3) := by decide +kernel
theorem zd_Post_stand_69 : decode zb_Post_stand 69 = .ok (.astore 4, 2) := by decide +kernel
theorem zd_Post_stand_71 : decode zb_Post_stand 71 = .ok (.iconst 0, 1) := by decide +kernel
theorem zd_Post_stand_72 : decode zb_Post_stand 72 = .ok (.istore 5, 2) := by decide +kernel
theorem zd_Post_stand_74 : decode zb_Post_stand 74 = .ok (.ldc2_w 186, 3) := by decide +kernel
theorem zd_Post_stand_77 : decode zb_Post_stand 77 = .ok (.lstore 6, 2) := by decide +kernel
theorem zd_Post_stand_79 : decode zb_Post_stand 79 = .ok (.iconst 0, 1) := by decide +kernel
theorem zd_Post_stand_80 : decode zb_Post_stand 80 = .ok (.istore 8, 2) := by decide +kernel
theorem zd_Post_stand_82 : decode zb_Post_stand 82 = .ok (.iload 8, 2) := by decide +kernel
theorem zd_Post_stand_84 : decode zb_Post_stand 84 = .ok (.bipush 24, 2) := by decide +kernel
theorem zd_Post_stand_86 : decode zb_Post_stand 86 = .ok (.if_icmp .ge 56, 3) := by decide +kernel
theorem zd_Post_stand_89 : decode zb_Post_stand 89 = .ok (.aload_n 0, 1) := by decide +kernel
theorem zd_Post_stand_90 : decode zb_Post_stand 90 = .ok (.getfield 10, 3) := by decide +kernel
theorem zd_Post_stand_93 : decode zb_Post_stand 93 = .ok (.iload 8, 2) := by decide +kernel
theorem zd_Post_stand_95 : decode zb_Post_stand 95 = .ok (.invokevirtual 73, 3) := by decide +kernel
theorem zd_Post_stand_98 : decode zb_Post_stand 98 = .ok (.iconst (-1), 1) := by decide +kernel
theorem zd_Post_stand_99 : decode zb_Post_stand 99 = .ok (.if_icmp .ne 37, 3) := by decide +kernel
theorem zd_Post_stand_102 : decode zb_Post_stand 102 = .ok (.aload 4, 2) := by decide +kernel
theorem zd_Post_stand_104 : decode zb_Post_stand 104 = .ok (.iconst 1, 1) := by decide +kernel
theorem zd_Post_stand_105 : decode zb_Post_stand 105 = .ok (.iload 8, 2) := by decide +kernel
theorem zd_Post_stand_107 : decode zb_Post_stand 107 = .ok (.iastore, 1) := by decide +kernel
theorem zd_Post_stand_108 : decode zb_Post_stand 108 = .ok (.aload_n 0, 1) := by decide +kernel
theorem zd_Post_stand_109 : decode zb_Post_stand 109 = .ok (.aload_n 0, 1) := by decide +kernel
theorem zd_Post_stand_110 : decode zb_Post_stand 110 = .ok (.getfield 19, 3) := by decide +kernel
theorem zd_Post_stand_113 : decode zb_Post_stand 113 = .ok (.iload_n 1, 1) := by decide +kernel
theorem zd_Post_stand_114 : decode zb_Post_stand 114 = .ok (.iload_n 2, 1) := by decide +kernel
theorem zd_Post_stand_115 : decode zb_Post_stand 115 = .ok (.invokevirtual 200, 3) := by decide +kernel
theorem zd_Post_stand_118 : decode zb_Post_stand 118 = .ok (.lstore 9, 2) := by decide +kernel
theorem zd_Post_stand_120 : decode zb_Post_stand 120 = .ok (.lload 9, 2) := by decide +kernel
theorem zd_Post_stand_122 : decode zb_Post_stand 122 = .ok (.lload 6, 2) := by decide +kernel
theorem zd_Post_stand_124 : decode zb_Post_stand 124 = .ok (.lcmp, 1) := by decide +kernel
theorem zd_Post_stand_125 : decode zb_Post_stand 125 = .ok (.ifCond .le 11, 3) := by decide +kernel
theorem zd_Post_stand_128 : decode zb_Post_stand 128 = .ok (.lload 9, 2) := by decide +kernel
theorem zd_Post_stand_130 : decode zb_Post_stand 130 = .ok (.lstore 6, 2) := by decide +kernel
theorem zd_Post_stand_132 : decode zb_Post_stand 132 = .ok (.iload 8, 2) := by decide +kernel
theorem zd_Post_stand_134 : decode zb_Post_stand 134 = .ok (.istore 5, 2) := by decide +kernel
theorem zd_Post_stand_136 : decode zb_Post_stand 136 = .ok (.iinc 8 1, 3) := by decide +kernel
theorem zd_Post_stand_139 : decode zb_Post_stand 139 = .ok (.goto (-57), 3) := by decide +kernel
theorem zd_Post_stand_142 : decode zb_Post_stand 142 = .ok (.iload 5, 2) := by decide +kernel
theorem zd_Post_stand_144 : decode zb_Post_stand 144 = .ok (.ireturn, 1) := by decide +kernel
set_option maxHeartbeats 4000000 in
theorem zl_Post_stand_L136 {p : Program} {l : Launch} {e : Env} {s : State} {m : MethodId} {args : Array Value} {below : List Frame} {meth : Method} {c : Code} {D : va_G} {cA : Nat → ClassId} {ad : Nat → Nat} {A : Nat → Prop} (B : zu_B p s m args c zb_Post_stand 11 "StonePost" D cA ad A) (hret : meth.sig.returnType = (some .int)) (hlk : meth.locks = false) {res : Int32 × IX × LX} {k82 : Int32 → Int32 → Nat → Int32 → Int64 → Int32 → IX → LX → Option (Int32 × IX × LX)} (hk82 : ∀ (x1 : Int32) (x2 : Int32) (r4 : Nat) (x5 : Int32) (x6 : Int64) (x8 : Int32) (X : IX) (Y : LX) (H : Heap) (locs : List Loc) (ls : Array Slot), va_P D zu_cl (zu_pic cA ad X Y) H → va_S A s.heap H locs → lv_has ls 11 [(0, .ref (ad 0)), (1, .int x1), (2, .int x2), (4, .ref (ad r4)), (5, .int x5), (6, .long x6), (8, .int x8)] → zu_kd r4 = 20 → k82 x1 x2 r4 x5 x6 x8 X Y = some res → W p l e zR_Post_stand s m args below meth c H locs 0 0 (MQ below (zu_Qi D cA ad A res.1 res.2.1 res.2.2) args s 0 0 A) (F0 m 82 ls [])) (x1 : Int32) (x2 : Int32) (r4 : Nat) (x5 : Int32) (x6 : Int64) (x8 : Int32) (X : IX) (Y : LX) (H : Heap) (locs : List Loc) (ls : Array Slot) (hP : va_P D zu_cl (zu_pic cA ad X Y) H) (hS : va_S A s.heap H locs) (hl : lv_has ls 11 [(0, .ref (ad 0)), (1, .int x1), (2, .int x2), (4, .ref (ad r4)), (5, .int x5), (6, .long x6), (8, .int x8)]) (hr4 : zu_kd r4 = 20) (hf : fn_Post_stand_L136 k82 x1 x2 r4 x5 x6 x8 X Y = some res) : W p l e zR_Post_stand s m args below meth c H locs 0 0 (MQ below (zu_Qi D cA ad A res.1 res.2.1 res.2.2) args s 0 0 A) (F0 m 136 ls []) := by
  obtain ⟨hx, hb, hml, hown, hts, hST⟩ := id B
  unfold fn_Post_stand_L136 at hf
  obtain ⟨v30, ev30, hf⟩ := zu_nx_e hf
  refine lv_iinc (v := v30) (lv' := [(8, .int v30), (0, .ref (ad 0)), (1, .int x1), (2, .int x2), (4, .ref (ad r4)), (5, .int x5), (6, .long x6)]) hx hb zd_Post_stand_136 hl (k := 6) rfl (by rw [ev30]; rfl) (by decide) rfl (fun ls hl => ?_)
  clear ev30
  refine lv_goto (tgt := 82) hx hb zd_Post_stand_139 (by decide) ?_
  exact hk82 x1 x2 r4 x5 x6 v30 X Y _ _ _ hP hS (lv_sub hl [1, 2, 3, 4, 5, 6, 0] rfl) hr4 hf
set_option maxHeartbeats 4000000 in
theorem zl_Post_stand_B82 {p : Program} {l : Launch} {e : Env} {s : State} {m : MethodId} {args : Array Value} {below : List Frame} {meth : Method} {c : Code} {D : va_G} {cA : Nat → ClassId} {ad : Nat → Nat} {A : Nat → Prop} (B : zu_B p s m args c zb_Post_stand 11 "StonePost" D cA ad A) (hret : meth.sig.returnType = (some .int)) (hlk : meth.locks = false) {res : Int32 × IX × LX} {k82 : Int32 → Int32 → Nat → Int32 → Int64 → Int32 → IX → LX → Option (Int32 × IX × LX)} (hk82 : ∀ (x1 : Int32) (x2 : Int32) (r4 : Nat) (x5 : Int32) (x6 : Int64) (x8 : Int32) (X : IX) (Y : LX) (H : Heap) (locs : List Loc) (ls : Array Slot), va_P D zu_cl (zu_pic cA ad X Y) H → va_S A s.heap H locs → lv_has ls 11 [(0, .ref (ad 0)), (1, .int x1), (2, .int x2), (4, .ref (ad r4)), (5, .int x5), (6, .long x6), (8, .int x8)] → zu_kd r4 = 20 → k82 x1 x2 r4 x5 x6 x8 X Y = some res → W p l e zR_Post_stand s m args below meth c H locs 0 0 (MQ below (zu_Qi D cA ad A res.1 res.2.1 res.2.2) args s 0 0 A) (F0 m 82 ls [])) (x1 : Int32) (x2 : Int32) (r4 : Nat) (x5 : Int32) (x6 : Int64) (x8 : Int32) (X : IX) (Y : LX) (H : Heap) (locs : List Loc) (ls : Array Slot) (hP : va_P D zu_cl (zu_pic cA ad X Y) H) (hS : va_S A s.heap H locs) (hl : lv_has ls 11 [(0, .ref (ad 0)), (1, .int x1), (2, .int x2), (4, .ref (ad r4)), (5, .int x5), (6, .long x6), (8, .int x8)]) (hr4 : zu_kd r4 = 20) (hf : fn_Post_stand_B82 k82 x1 x2 r4 x5 x6 x8 X Y = some res) : W p l e zR_Post_stand s m args below meth c H locs 0 0 (MQ below (zu_Qi D cA ad A res.1 res.2.1 res.2.2) args s 0 0 A) (F0 m 82 ls []) := by
  obtain ⟨hx, hb, hml, hown, hts, hST⟩ := id B
  unfold fn_Post_stand_B82 at hf
  refine lv_iload hx hb zd_Post_stand_82 (lv_at hl 6 rfl) ?_
  refine lv_bipush (v := 24) hx hb zd_Post_stand_84 (by decide) ?_
  refine lv_icmp_ge (tgt := 142) hx hb zd_Post_stand_86 (by decide) (fun c20 => ?_) (fun c20 => ?_)
  · have hf := zu_t c20 hf
    refine lv_iload hx hb zd_Post_stand_142 (lv_at hl 4 rfl) ?_
    obtain rfl := Option.some.inj hf
    exact zr_iret hx hb hret hlk hP hS zd_Post_stand_144
  · have hf := zu_f c20 hf
    refine lv_aload_n hx hb zd_Post_stand_89 rfl (lv_at hl 0 rfl) ?_
    refine zg_Post_land B hP rfl zq_191 zd_Post_stand_90 ?_
    refine lv_iload hx hb zd_Post_stand_93 (lv_at hl 6 rfl) ?_
    obtain ⟨v21, hq22, hf⟩ := zu_b1_e hf
    refine zw_Land_standingOn (rest := []) B hP hS rfl hq22 zq_242 (Nat.le_of_ble_eq_true rfl) (Nat.le_of_ble_eq_true rfl) hl.1 rfl (Nat.le_of_ble_eq_true rfl) zd_Post_stand_95 (by decide) (fun H locs hP hS => ?_)
    clear hq22
    refine lv_iconst (v := -1) hx hb zd_Post_stand_98 (by decide) ?_
    refine lv_icmp_ne (tgt := 136) hx hb zd_Post_stand_99 (by decide) (fun c23 => ?_) (fun c23 => ?_)
    · have hf := zu_f c23 hf
      exact zl_Post_stand_L136 B hret hlk hk82 x1 x2 r4 x5 x6 x8 X Y _ _ _ hP hS (lv_sub hl [0, 1, 2, 3, 4, 5, 6] rfl) hr4 hf
    · have hf := zu_t c23 hf
      refine lv_aload hx hb zd_Post_stand_102 (lv_at hl 3 rfl) ?_
      refine lv_iconst (v := 1) hx hb zd_Post_stand_104 (by decide) ?_
      refine lv_iload hx hb zd_Post_stand_105 (lv_at hl 6 rfl) ?_
      refine zr_iast (j := 1) (by decide) B hP hS hf hr4 (by decide) rfl (by decide) zd_Post_stand_107 (fun X24 H locs hf hP hS => ?_)
      refine lv_aload_n hx hb zd_Post_stand_108 rfl (lv_at hl 0 rfl) ?_
      refine lv_aload_n hx hb zd_Post_stand_109 rfl (lv_at hl 0 rfl) ?_
      refine zg_Post_trial B hP rfl zq_193 zd_Post_stand_110 ?_
      refine lv_iload_n hx hb zd_Post_stand_113 rfl (lv_at hl 1 rfl) ?_
      refine lv_iload_n hx hb zd_Post_stand_114 rfl (lv_at hl 2 rfl) ?_
      obtain ⟨v25, X26, Y27, hq28, hf⟩ := zu_b3_e hf
      refine zw_Post_homeParts (rest := []) B hP hS rfl hq28 zq_544 (Nat.le_of_ble_eq_true rfl) (Nat.le_of_ble_eq_true rfl) hl.1 rfl (Nat.le_of_ble_eq_true rfl) zd_Post_stand_115 (by decide) (fun H locs hP hS => ?_)
      clear hq28
      refine lv_lstore (lv' := [(9, .long v25), (0, .ref (ad 0)), (1, .int x1), (2, .int x2), (4, .ref (ad r4)), (5, .int x5), (6, .long x6), (8, .int x8)]) hx hb zd_Post_stand_118 hl (by decide) rfl (fun ls hl => ?_)
      refine lv_lload hx hb zd_Post_stand_120 (lv_at hl 0 rfl) ?_
      refine lv_lload hx hb zd_Post_stand_122 (lv_at hl 6 rfl) ?_
      refine W.lcmp hx hb zd_Post_stand_124 ?_
      refine lv_if_le (tgt := 136) hx hb zd_Post_stand_125 (by decide) (fun c29 => ?_) (fun c29 => ?_)
      · have hf := zu_t c29 hf
        exact zl_Post_stand_L136 B hret hlk hk82 x1 x2 r4 x5 x6 x8 X26 Y27 _ _ _ hP hS (lv_sub hl [1, 2, 3, 4, 5, 6, 7] rfl) hr4 hf
      · have hf := zu_f c29 hf
        refine lv_lload hx hb zd_Post_stand_128 (lv_at hl 0 rfl) ?_
        refine lv_lstore (lv' := [(6, .long v25), (9, .long v25), (0, .ref (ad 0)), (1, .int x1), (2, .int x2), (4, .ref (ad r4)), (5, .int x5), (8, .int x8)]) hx hb zd_Post_stand_130 hl (by decide) rfl (fun ls hl => ?_)
        refine lv_iload hx hb zd_Post_stand_132 (lv_at hl 7 rfl) ?_
        refine lv_istore (lv' := [(5, .int x8), (6, .long v25), (9, .long v25), (0, .ref (ad 0)), (1, .int x1), (2, .int x2), (4, .ref (ad r4)), (8, .int x8)]) hx hb zd_Post_stand_134 hl (by decide) rfl (fun ls hl => ?_)
        exact zl_Post_stand_L136 B hret hlk hk82 x1 x2 r4 x8 v25 x8 X26 Y27 _ _ _ hP hS (lv_sub hl [3, 4, 5, 6, 0, 1, 7] rfl) hr4 hf
theorem zl_Post_stand_L82 {p : Program} {l : Launch} {e : Env} {s : State} {m : MethodId} {args : Array Value} {below : List Frame} {meth : Method} {c : Code} {D : va_G} {cA : Nat → ClassId} {ad : Nat → Nat} {A : Nat → Prop} (B : zu_B p s m args c zb_Post_stand 11 "StonePost" D cA ad A) (hret : meth.sig.returnType = (some .int)) (hlk : meth.locks = false) {res : Int32 × IX × LX} : ∀ (n : Nat) (x1 : Int32) (x2 : Int32) (r4 : Nat) (x5 : Int32) (x6 : Int64) (x8 : Int32) (X : IX) (Y : LX) (H : Heap) (locs : List Loc) (ls : Array Slot), va_P D zu_cl (zu_pic cA ad X Y) H → va_S A s.heap H locs → lv_has ls 11 [(0, .ref (ad 0)), (1, .int x1), (2, .int x2), (4, .ref (ad r4)), (5, .int x5), (6, .long x6), (8, .int x8)] → zu_kd r4 = 20 → fn_Post_stand_L82 n x1 x2 r4 x5 x6 x8 X Y = some res → W p l e zR_Post_stand s m args below meth c H locs 0 0 (MQ below (zu_Qi D cA ad A res.1 res.2.1 res.2.2) args s 0 0 A) (F0 m 82 ls []) := by
  intro n
  induction n with
  | zero =>
    intro x1 x2 r4 x5 x6 x8 X Y H locs ls hP hS hl hr4 hf
    exact (Option.some_ne_none _ hf.symm).elim
  | succ n ih =>
    intro x1 x2 r4 x5 x6 x8 X Y H locs ls hP hS hl hr4 hf
    exact zl_Post_stand_B82 B hret hlk ih x1 x2 r4 x5 x6 x8 X Y H locs ls hP hS hl hr4 hf
set_option maxHeartbeats 4000000 in
theorem zl_Post_stand_L17 {p : Program} {l : Launch} {e : Env} {s : State} {m : MethodId} {args : Array Value} {below : List Frame} {meth : Method} {c : Code} {D : va_G} {cA : Nat → ClassId} {ad : Nat → Nat} {A : Nat → Prop} (B : zu_B p s m args c zb_Post_stand 11 "StonePost" D cA ad A) (hret : meth.sig.returnType = (some .int)) (hlk : meth.locks = false) {res : Int32 × IX × LX} (X : IX) (Y : LX) (H : Heap) (locs : List Loc) (ls : Array Slot) (hP : va_P D zu_cl (zu_pic cA ad X Y) H) (hS : va_S A s.heap H locs) (hl : lv_has ls 11 [(0, .ref (ad 0))]) (hf : fn_Post_stand_L17 X Y = some res) : W p l e zR_Post_stand s m args below meth c H locs 0 0 (MQ below (zu_Qi D cA ad A res.1 res.2.1 res.2.2) args s 0 0 A) (F0 m 17 ls []) := by
  obtain ⟨hx, hb, hml, hown, hts, hST⟩ := id B
  unfold fn_Post_stand_L17 at hf
  refine lv_aload_n hx hb zd_Post_stand_17 rfl (lv_at hl 0 rfl) ?_
  refine lv_ldc (v := -1000001) hx hb hown (hts _ zq_226) zd_Post_stand_18 ?_
  obtain ⟨v17, X18, hq19, hf⟩ := zu_b2_e hf
  refine zw_Post_finding (rest := []) B hP hS hq19 zq_227 (Nat.le_of_ble_eq_true rfl) (Nat.le_of_ble_eq_true rfl) hl.1 rfl (Nat.le_of_ble_eq_true rfl) zd_Post_stand_20 (by decide) (fun H locs hP hS => ?_)
  clear hq19
  obtain rfl := Option.some.inj hf
  exact zr_iret hx hb hret hlk hP hS zd_Post_stand_23
set_option maxHeartbeats 4000000 in
theorem zl_Post_stand {p : Program} {l : Launch} {e : Env} {s : State} {m : MethodId} {args : Array Value} {below : List Frame} {meth : Method} {c : Code} {D : va_G} {cA : Nat → ClassId} {ad : Nat → Nat} {A : Nat → Prop} (B : zu_B p s m args c zb_Post_stand 11 "StonePost" D cA ad A) (hret : meth.sig.returnType = (some .int)) (hlk : meth.locks = false) {res : Int32 × IX × LX} {a1 : Int32} {a2 : Int32} {X : IX} {Y : LX} (H : Heap) (locs : List Loc) (ls : Array Slot) (hP : va_P D zu_cl (zu_pic cA ad X Y) H) (hS : va_S A s.heap H locs) (hl : lv_has ls 11 [(0, .ref (ad 0)), (1, .int a1), (2, .int a2)]) (hf : fn_Post_stand a1 a2 X Y = some res) : W p l e zR_Post_stand s m args below meth c H locs 0 0 (MQ below (zu_Qi D cA ad A res.1 res.2.1 res.2.2) args s 0 0 A) (F0 m 0 ls []) := by
  obtain ⟨hx, hb, hml, hown, hts, hST⟩ := id B
  unfold fn_Post_stand at hf
  refine lv_iload_n hx hb zd_Post_stand_0 rfl (lv_at hl 1 rfl) ?_
  obtain ⟨v1, hq2, hf⟩ := zu_b1_e hf
  refine zw_Post_isCell (rest := []) B hP hS hq2 zq_220 (Nat.le_of_ble_eq_true rfl) (Nat.le_of_ble_eq_true rfl) hl.1 rfl (Nat.le_of_ble_eq_true rfl) zd_Post_stand_1 (by decide) (fun H locs hP hS => ?_)
  clear hq2
  refine lv_if_eq (tgt := 17) hx hb zd_Post_stand_4 (by decide) (fun c3 => ?_) (fun c3 => ?_)
  · have hf := zu_t c3 hf
    exact zl_Post_stand_L17 B hret hlk X Y _ _ _ hP hS (lv_sub hl [0] rfl) hf
  · have hf := zu_f c3 hf
    refine lv_iload_n hx hb zd_Post_stand_7 rfl (lv_at hl 2 rfl) ?_
    refine lv_iconst (v := 1) hx hb zd_Post_stand_8 (by decide) ?_
    refine lv_bipush (v := 10) hx hb zd_Post_stand_9 (by decide) ?_
    obtain ⟨v4, hq5, hf⟩ := zu_b1_e hf
    refine zw_Post_isWithin (rest := []) B hP hS hq5 zq_223 (Nat.le_of_ble_eq_true rfl) (Nat.le_of_ble_eq_true rfl) hl.1 rfl (Nat.le_of_ble_eq_true rfl) zd_Post_stand_11 (by decide) (fun H locs hP hS => ?_)
    clear hq5
    refine lv_if_ne (tgt := 24) hx hb zd_Post_stand_14 (by decide) (fun c6 => ?_) (fun c6 => ?_)
    · have hf := zu_f c6 hf
      refine lv_aload_n hx hb zd_Post_stand_24 rfl (lv_at hl 0 rfl) ?_
      refine zg_Post_trial B hP rfl zq_193 zd_Post_stand_25 ?_
      refine lv_aload_n hx hb zd_Post_stand_28 rfl (lv_at hl 0 rfl) ?_
      refine zg_Post_land B hP rfl zq_191 zd_Post_stand_29 ?_
      obtain ⟨X7, hq8, hf⟩ := zu_b1_e hf
      refine zw_Land_become (rest := []) B hP hS rfl rfl hq8 zq_539 (Nat.le_of_ble_eq_true rfl) (Nat.le_of_ble_eq_true rfl) hl.1 rfl (Nat.le_of_ble_eq_true rfl) zd_Post_stand_32 (by decide) (fun H locs hP hS => ?_)
      clear hq8
      refine lv_aload_n hx hb zd_Post_stand_35 rfl (lv_at hl 0 rfl) ?_
      refine zg_Post_trial B hP rfl zq_193 zd_Post_stand_36 ?_
      refine lv_iconst (v := 0) hx hb zd_Post_stand_39 (by decide) ?_
      refine lv_iconst (v := 0) hx hb zd_Post_stand_40 (by decide) ?_
      obtain ⟨v9, X10, hq11, hf⟩ := zu_b2_e hf
      refine zw_Land_addThrower (rest := []) B hP hS rfl hq11 zq_247 (Nat.le_of_ble_eq_true rfl) (Nat.le_of_ble_eq_true rfl) hl.1 rfl (Nat.le_of_ble_eq_true rfl) zd_Post_stand_41 (by decide) (fun H locs hP hS => ?_)
      clear hq11
      refine lv_istore_n (lv' := [(3, .int v9), (0, .ref (ad 0)), (1, .int a1), (2, .int a2)]) hx hb zd_Post_stand_44 rfl hl (by decide) rfl (fun ls hl => ?_)
      refine lv_iload_n hx hb zd_Post_stand_45 rfl (lv_at hl 0 rfl) ?_
      refine lv_iconst (v := -1) hx hb zd_Post_stand_46 (by decide) ?_
      refine lv_icmp_ne (tgt := 57) hx hb zd_Post_stand_47 (by decide) (fun c12 => ?_) (fun c12 => ?_)
      · have hf := zu_f c12 hf
        refine lv_aload_n hx hb zd_Post_stand_57 rfl (lv_at hl 1 rfl) ?_
        refine zg_Post_trial B hP rfl zq_193 zd_Post_stand_58 ?_
        refine zg_Land_throwers B hP rfl zq_55 zd_Post_stand_61 ?_
        refine lv_iload_n hx hb zd_Post_stand_64 rfl (lv_at hl 0 rfl) ?_
        obtain ⟨hg13, hf⟩ := zu_gd_e hf
        refine zr_thr rfl B hP (zk_Land_throwers rfl) hg13 zd_Post_stand_65 ?_
        refine zg_Thr_facts B hP (zk_thr (zk_Land_throwers rfl) (zu_ib_lt hg13)) zq_41 zd_Post_stand_66 ?_
        refine lv_astore (lv' := [(4, .ref (ad ((zu_th (22 + 6) (v9.toNatClampNeg)) + 30))), (3, .int v9), (0, .ref (ad 0)), (1, .int a1), (2, .int a2)]) hx hb zd_Post_stand_69 hl (by decide) rfl (fun ls hl => ?_)
        refine lv_iconst (v := 0) hx hb zd_Post_stand_71 (by decide) ?_
        refine lv_istore (lv' := [(5, .int (0 : Int32)), (4, .ref (ad ((zu_th (22 + 6) (v9.toNatClampNeg)) + 30))), (3, .int v9), (0, .ref (ad 0)), (1, .int a1), (2, .int a2)]) hx hb zd_Post_stand_72 hl (by decide) rfl (fun ls hl => ?_)
        refine lv_ldc2 (v := -1) hx hb hown (hts _ zq_523) zd_Post_stand_74 ?_
        refine lv_lstore (lv' := [(6, .long (-1 : Int64)), (5, .int (0 : Int32)), (4, .ref (ad ((zu_th (22 + 6) (v9.toNatClampNeg)) + 30))), (3, .int v9), (0, .ref (ad 0)), (1, .int a1), (2, .int a2)]) hx hb zd_Post_stand_77 hl (by decide) rfl (fun ls hl => ?_)
        refine lv_iconst (v := 0) hx hb zd_Post_stand_79 (by decide) ?_
        refine lv_istore (lv' := [(8, .int (0 : Int32)), (6, .long (-1 : Int64)), (5, .int (0 : Int32)), (4, .ref (ad ((zu_th (22 + 6) (v9.toNatClampNeg)) + 30))), (3, .int v9), (0, .ref (ad 0)), (1, .int a1), (2, .int a2)]) hx hb zd_Post_stand_80 hl (by decide) rfl (fun ls hl => ?_)
        exact zl_Post_stand_L82 B hret hlk 400 a1 a2 ((zu_th (22 + 6) (v9.toNatClampNeg)) + 30) (0 : Int32) (-1 : Int64) (0 : Int32) X10 Y _ _ _ hP hS (lv_sub hl [5, 6, 7, 3, 2, 1, 0] rfl) (zk_Thr_facts (zk_thr (zk_Land_throwers rfl) (zu_ib_lt hg13))) hf
      · have hf := zu_t c12 hf
        refine lv_aload_n hx hb zd_Post_stand_50 rfl (lv_at hl 1 rfl) ?_
        refine lv_ldc (v := -1000002) hx hb hown (hts _ zq_260) zd_Post_stand_51 ?_
        obtain ⟨v14, X15, hq16, hf⟩ := zu_b2_e hf
        refine zw_Post_finding (rest := []) B hP hS hq16 zq_227 (Nat.le_of_ble_eq_true rfl) (Nat.le_of_ble_eq_true rfl) hl.1 rfl (Nat.le_of_ble_eq_true rfl) zd_Post_stand_53 (by decide) (fun H locs hP hS => ?_)
        clear hq16
        obtain rfl := Option.some.inj hf
        exact zr_iret hx hb hret hlk hP hS zd_Post_stand_56
    · have hf := zu_t c6 hf
      exact zl_Post_stand_L17 B hret hlk X Y _ _ _ hP hS (lv_sub hl [0] rfl) hf
theorem zC_Post_stand (l : Launch) {D : va_G} {cA : Nat → ClassId} {ad : Nat → Nat} {A : Nat → Prop} {a1 : Int32} {a2 : Int32} {X : IX} {Y : LX} {res : Int32 × IX × LX} (hf : fn_Post_stand a1 a2 X Y = some res) : Met l zm_Post_stand (zu_ws zm_Post_stand zb_Post_stand 11 (some .int)) zR_Post_stand (va_Pc [.ref (ad 0), .int a1, .int a2] (zu_Pre D cA ad A X Y)) (zu_Qi D cA ad A res.1 res.2.1 res.2.2) 0 0 A := by
  refine Met.ofW (cc := zb_Post_stand) (maxL := 11) (ret := (some .int)) (by decide +kernel) rfl ?_
  intro p e s m args below meth c s₁ B0 hml hv
  obtain ⟨rfl, hP, hST⟩ := hv
  have B : zu_B p s m _ c zb_Post_stand 11 "StonePost" D cA ad A := ⟨B0.exec, B0.bytes, hml, findClass_of_methodNamed B0.named, (fun w hw => atoms_spec (ws := zu_ws zm_Post_stand zb_Post_stand 11 (some .int)) B0.pre w (List.mem_cons_of_mem _ hw)), hST⟩
  have hl := lv_entry ([.ref (ad 0), .int a1, .int a2]) (n := 11) (Nat.le_of_ble_eq_true rfl)
  rw [lg_entry_eq]
  generalize (lg_sl ([.ref (ad 0), .int a1, .int a2]) ++ List.replicate (11 - (lg_sl ([.ref (ad 0), .int a1, .int a2])).length) Slot.unset).toArray = ls at hl ⊢
  exact zl_Post_stand B B0.returns B0.notSynchronized s.heap [] ls hP va_S.rf hl  hf
theorem zw_Post_stand {p : Program} {l : Launch} {e : Env} {R : Room} {s : State} {m : MethodId} {args : Array Value} {below : List Frame} {meth : Method} {c : Code} {H : Heap} {locs : List Loc} {cells slots : Nat} {Q : State → Prop} {cc : ByteArray} {pc nL : Nat} {ls : Array Slot} {rest st0 : List Value} {D : va_G} {cA : Nat → ClassId} {ad : Nat → Nat} {A : Nat → Prop} {X : IX} {Y : LX} {own : String} {index : Nat} {a1 : Int32} {a2 : Int32} {v1 : Int32} {X1 : IX} {Y1 : LX} (B : zu_B p s m args c cc nL own D cA ad A) (hP : va_P D zu_cl (zu_pic cA ad X Y) H) (hS : va_S A s.heap H locs) (hq : fn_Post_stand a1 a2 X Y = some (v1, X1, Y1)) (m1 : Cond.methodLink own index zm_Post_stand ∈ zu_TB) (hR1 : 7 + 1 ≤ R.frames) (hR2 : 8 + (11 + 11) + 161 ≤ R.locals) (hsz : ls.size = nL) (hst : st0 = .int a2 :: .int a1 :: .ref (ad 0) :: rest) (hw : (rest.map fun v => v.category).sum ≤ 8) (hdg : decode cc pc = .ok (.invokevirtual index, 3)) (h00 : cells ≤ R.cells ∧ slots ≤ R.slots) (kk : ∀ (H1 : Heap) (locs1 : List Loc), va_P D zu_cl (zu_pic cA ad X1 Y1) H1 → va_S A s.heap H1 locs1 → W p l e R s m args below meth c H1 locs1 cells slots Q (F0 m (pc + 3) ls (.int v1 :: rest))) : W p l e R s m args below meth c H locs cells slots Q (F0 m pc ls st0) := by
  subst hst
  exact zr_cVi (As := [.int a1, .int a2]) (rest := rest) (n := 2) (C := "StonePost") (T := zt_Post) (N := 8) B hP hS (zC_Post_stand l  hq) (K := 1) rfl (by decide) (by decide) rfl rfl m1 zq_549 zq_550 zq_1 zq_551 (by decide +kernel) ⟨hR1, hR2⟩ rfl rfl rfl hsz rfl hw hdg h00 kk
abbrev zR_Post_fetchFor : Room := { frames := 7, cells := 0, slots := 0, locals := 161 }
theorem zd_Post_fetchFor_0 : decode zb_Post_fetchFor 0 = .ok (.iload_n 1, 1) := by decide +kernel
theorem zd_Post_fetchFor_1 : decode zb_Post_fetchFor 1 = .ok (.invokestatic 47, 3) := by decide +kernel
theorem zd_Post_fetchFor_4 : decode zb_Post_fetchFor 4 = .ok (.ifCond .eq 13, 3) := by decide +kernel
theorem zd_Post_fetchFor_7 : decode zb_Post_fetchFor 7 = .ok (.iload_n 2, 1) := by decide +kernel
theorem zd_Post_fetchFor_8 : decode zb_Post_fetchFor 8 = .ok (.iconst 1, 1) := by decide +kernel
theorem zd_Post_fetchFor_9 : decode zb_Post_fetchFor 9 = .ok (.bipush 10, 2) := by decide +kernel
theorem zd_Post_fetchFor_11 : decode zb_Post_fetchFor 11 = .ok (.invokestatic 51, 3) := by decide +kernel
theorem zd_Post_fetchFor_14 : decode zb_Post_fetchFor 14 = .ok (.ifCond .ne 10, 3) := by decide +kernel
theorem zd_Post_fetchFor_17 : decode zb_Post_fetchFor 17 = .ok (.aload_n 0, 1) := by decide +kernel
theorem zd_Post_fetchFor_18 : decode zb_Post_fetchFor 18 = .ok (.ldc 55, 2) := by decide +kernel
theorem zd_Post_fetchFor_20 : decode zb_Post_fetchFor 20 = .ok (.invokevirtual 56, 3) := by decide +kernel
theorem zd_Post_fetchFor_23 : decode zb_Post_fetchFor 23 = .ok (.ireturn, 1) := by decide +kernel
theorem zd_Post_fetchFor_24 : decode zb_Post_fetchFor 24 = .ok (.aload_n 0, 1) := by decide +kernel
theorem zd_Post_fetchFor_25 : decode zb_Post_fetchFor 25 = .ok (.getfield 19, 3) := by decide +kernel
theorem zd_Post_fetchFor_28 : decode zb_Post_fetchFor 28 = .ok (.aload_n 0, 1) := by decide +kernel
theorem zd_Post_fetchFor_29 : decode zb_Post_fetchFor 29 = .ok (.getfield 10, 3) := by decide +kernel
theorem zd_Post_fetchFor_32 : decode zb_Post_fetchFor 32 = .ok (.invokevirtual 197, 3) := by decide +kernel
theorem zd_Post_fetchFor_35 : decode zb_Post_fetchFor 35 = .ok (.iconst 0, 1) := by decide +kernel
theorem zd_Post_fetchFor_36 : decode zb_Post_fetchFor 36 = .ok (.istore_n 3, 1) := by decide +kernel
theorem zd_Post_fetchFor_37 : decode zb_Post_fetchFor 37 = .ok (.ldc2_w 186, 3) := by decide +kernel
theorem zd_Post_fetchFor_40 : decode zb_Post_fetchFor 40 = .ok (.lstore 4, 2) := by decide +kernel
theorem zd_Post_fetchFor_42 : decode zb_Post_fetchFor 42 = .ok (.iconst 0, 1) := by decide +kernel
theorem zd_Post_fetchFor_43 : decode zb_Post_fetchFor 43 = .ok (.istore 6, 2) := by decide +kernel
theorem zd_Post_fetchFor_45 : decode zb_Post_fetchFor 45 = .ok (.iload 6, 2) := by decide +kernel
theorem zd_Post_fetchFor_47 : decode zb_Post_fetchFor 47 = .ok (.bipush 9, 2) := by decide +kernel
theorem zd_Post_fetchFor_49 : decode zb_Post_fetchFor 49 = .ok (.if_icmp .gt 45, 3) := by decide +kernel
theorem zd_Post_fetchFor_52 : decode zb_Post_fetchFor 52 = .ok (.aload_n 0, 1) := by decide +kernel
theorem zd_Post_fetchFor_53 : decode zb_Post_fetchFor 53 = .ok (.getfield 19, 3) := by decide +kernel
theorem zd_Post_fetchFor_56 : decode zb_Post_fetchFor 56 = .ok (.iload 6, 2) := by decide +kernel
theorem zd_Post_fetchFor_58 : decode zb_Post_fetchFor 58 = .ok (.putfield 67, 3) := by decide +kernel
theorem zd_Post_fetchFor_61 : decode zb_Post_fetchFor 61 = .ok (.aload_n 0, 1) := by decide +kernel
theorem zd_Post_fetchFor_62 : decode zb_Post_fetchFor 62 = .ok (.aload_n 0, 1) := by decide +kernel
theorem zd_Post_fetchFor_63 : decode zb_Post_fetchFor 63 = .ok (.getfield 19, 3) := by decide +kernel
theorem zd_Post_fetchFor_66 : decode zb_Post_fetchFor 66 = .ok (.iload_n 1, 1) := by decide +kernel
theorem zd_Post_fetchFor_67 : decode zb_Post_fetchFor 67 = .ok (.iload_n 2, 1) := by decide +kernel
theorem zd_Post_fetchFor_68 : decode zb_Post_fetchFor 68 = .ok (.invokevirtual 200, 3) := by decide +kernel
theorem zd_Post_fetchFor_71 : decode zb_Post_fetchFor 71 = .ok (.lstore 7, 2) := by decide +kernel
theorem zd_Post_fetchFor_73 : decode zb_Post_fetchFor 73 = .ok (.lload 7, 2) := by decide +kernel
theorem zd_Post_fetchFor_75 : decode zb_Post_fetchFor 75 = .ok (.lload 4, 2) := by decide +kernel
theorem zd_Post_fetchFor_77 : decode zb_Post_fetchFor 77 = .ok (.lcmp, 1) := by decide +kernel
theorem zd_Post_fetchFor_78 : decode zb_Post_fetchFor 78 = .ok (.ifCond .le 10, 3) := by decide +kernel
theorem zd_Post_fetchFor_81 : decode zb_Post_fetchFor 81 = .ok (.lload 7, 2) := by decide +kernel
theorem zd_Post_fetchFor_83 : decode zb_Post_fetchFor 83 = .ok (.lstore 4, 2) := by decide +kernel
theorem zd_Post_fetchFor_85 : decode zb_Post_fetchFor 85 = .ok (.iload 6, 2) := by decide +kernel
theorem zd_Post_fetchFor_87 : decode zb_Post_fetchFor 87 = .ok (.istore_n 3, 1) := by decide +kernel
theorem zd_Post_fetchFor_88 : decode zb_Post_fetchFor 88 = .ok (.iinc 6 1, 3) := by decide +kernel
theorem zd_Post_fetchFor_91 : decode zb_Post_fetchFor 91 = .ok (.goto (-46), 3) := by decide +kernel
theorem zd_Post_fetchFor_94 : decode zb_Post_fetchFor 94 = .ok (.iload_n 3, 1) := by decide +kernel
theorem zd_Post_fetchFor_95 : decode zb_Post_fetchFor 95 = .ok (.ireturn, 1) := by decide +kernel
set_option maxHeartbeats 4000000 in
theorem zl_Post_fetchFor_L88 {p : Program} {l : Launch} {e : Env} {s : State} {m : MethodId} {args : Array Value} {below : List Frame} {meth : Method} {c : Code} {D : va_G} {cA : Nat → ClassId} {ad : Nat → Nat} {A : Nat → Prop} (B : zu_B p s m args c zb_Post_fetchFor 9 "StonePost" D cA ad A) (hret : meth.sig.returnType = (some .int)) (hlk : meth.locks = false) {res : Int32 × IX × LX} {k45 : Int32 → Int32 → Int32 → Int64 → Int32 → IX → LX → Option (Int32 × IX × LX)} (hk45 : ∀ (x1 : Int32) (x2 : Int32) (x3 : Int32) (x4 : Int64) (x6 : Int32) (X : IX) (Y : LX) (H : Heap) (locs : List Loc) (ls : Array Slot), va_P D zu_cl (zu_pic cA ad X Y) H → va_S A s.heap H locs → lv_has ls 9 [(0, .ref (ad 0)), (1, .int x1), (2, .int x2), (3, .int x3), (4, .long x4), (6, .int x6)] → k45 x1 x2 x3 x4 x6 X Y = some res → W p l e zR_Post_fetchFor s m args below meth c H locs 0 0 (MQ below (zu_Qi D cA ad A res.1 res.2.1 res.2.2) args s 0 0 A) (F0 m 45 ls [])) (x1 : Int32) (x2 : Int32) (x3 : Int32) (x4 : Int64) (x6 : Int32) (X : IX) (Y : LX) (H : Heap) (locs : List Loc) (ls : Array Slot) (hP : va_P D zu_cl (zu_pic cA ad X Y) H) (hS : va_S A s.heap H locs) (hl : lv_has ls 9 [(0, .ref (ad 0)), (1, .int x1), (2, .int x2), (3, .int x3), (4, .long x4), (6, .int x6)]) (hf : fn_Post_fetchFor_L88 k45 x1 x2 x3 x4 x6 X Y = some res) : W p l e zR_Post_fetchFor s m args below meth c H locs 0 0 (MQ below (zu_Qi D cA ad A res.1 res.2.1 res.2.2) args s 0 0 A) (F0 m 88 ls []) := by
  obtain ⟨hx, hb, hml, hown, hts, hST⟩ := id B
  unfold fn_Post_fetchFor_L88 at hf
  obtain ⟨v19, ev19, hf⟩ := zu_nx_e hf
  refine lv_iinc (v := v19) (lv' := [(6, .int v19), (0, .ref (ad 0)), (1, .int x1), (2, .int x2), (3, .int x3), (4, .long x4)]) hx hb zd_Post_fetchFor_88 hl (k := 5) rfl (by rw [ev19]; rfl) (by decide) rfl (fun ls hl => ?_)
  clear ev19
  refine lv_goto (tgt := 45) hx hb zd_Post_fetchFor_91 (by decide) ?_
  exact hk45 x1 x2 x3 x4 v19 X Y _ _ _ hP hS (lv_sub hl [1, 2, 3, 4, 5, 0] rfl) hf
set_option maxHeartbeats 4000000 in
theorem zl_Post_fetchFor_B45 {p : Program} {l : Launch} {e : Env} {s : State} {m : MethodId} {args : Array Value} {below : List Frame} {meth : Method} {c : Code} {D : va_G} {cA : Nat → ClassId} {ad : Nat → Nat} {A : Nat → Prop} (B : zu_B p s m args c zb_Post_fetchFor 9 "StonePost" D cA ad A) (hret : meth.sig.returnType = (some .int)) (hlk : meth.locks = false) {res : Int32 × IX × LX} {k45 : Int32 → Int32 → Int32 → Int64 → Int32 → IX → LX → Option (Int32 × IX × LX)} (hk45 : ∀ (x1 : Int32) (x2 : Int32) (x3 : Int32) (x4 : Int64) (x6 : Int32) (X : IX) (Y : LX) (H : Heap) (locs : List Loc) (ls : Array Slot), va_P D zu_cl (zu_pic cA ad X Y) H → va_S A s.heap H locs → lv_has ls 9 [(0, .ref (ad 0)), (1, .int x1), (2, .int x2), (3, .int x3), (4, .long x4), (6, .int x6)] → k45 x1 x2 x3 x4 x6 X Y = some res → W p l e zR_Post_fetchFor s m args below meth c H locs 0 0 (MQ below (zu_Qi D cA ad A res.1 res.2.1 res.2.2) args s 0 0 A) (F0 m 45 ls [])) (x1 : Int32) (x2 : Int32) (x3 : Int32) (x4 : Int64) (x6 : Int32) (X : IX) (Y : LX) (H : Heap) (locs : List Loc) (ls : Array Slot) (hP : va_P D zu_cl (zu_pic cA ad X Y) H) (hS : va_S A s.heap H locs) (hl : lv_has ls 9 [(0, .ref (ad 0)), (1, .int x1), (2, .int x2), (3, .int x3), (4, .long x4), (6, .int x6)]) (hf : fn_Post_fetchFor_B45 k45 x1 x2 x3 x4 x6 X Y = some res) : W p l e zR_Post_fetchFor s m args below meth c H locs 0 0 (MQ below (zu_Qi D cA ad A res.1 res.2.1 res.2.2) args s 0 0 A) (F0 m 45 ls []) := by
  obtain ⟨hx, hb, hml, hown, hts, hST⟩ := id B
  unfold fn_Post_fetchFor_B45 at hf
  refine lv_iload hx hb zd_Post_fetchFor_45 (lv_at hl 5 rfl) ?_
  refine lv_bipush (v := 9) hx hb zd_Post_fetchFor_47 (by decide) ?_
  refine lv_icmp_gt (tgt := 94) hx hb zd_Post_fetchFor_49 (by decide) (fun c12 => ?_) (fun c12 => ?_)
  · have hf := zu_t c12 hf
    refine lv_iload_n hx hb zd_Post_fetchFor_94 rfl (lv_at hl 3 rfl) ?_
    obtain rfl := Option.some.inj hf
    exact zr_iret hx hb hret hlk hP hS zd_Post_fetchFor_95
  · have hf := zu_f c12 hf
    refine lv_aload_n hx hb zd_Post_fetchFor_52 rfl (lv_at hl 0 rfl) ?_
    refine zg_Post_trial B hP rfl zq_193 zd_Post_fetchFor_53 ?_
    refine lv_iload hx hb zd_Post_fetchFor_56 (lv_at hl 5 rfl) ?_
    refine zp_Land_fetch B hP hS hf rfl zq_72 zd_Post_fetchFor_58 (fun X13 H locs hf hP hS => ?_)
    refine lv_aload_n hx hb zd_Post_fetchFor_61 rfl (lv_at hl 0 rfl) ?_
    refine lv_aload_n hx hb zd_Post_fetchFor_62 rfl (lv_at hl 0 rfl) ?_
    refine zg_Post_trial B hP rfl zq_193 zd_Post_fetchFor_63 ?_
    refine lv_iload_n hx hb zd_Post_fetchFor_66 rfl (lv_at hl 1 rfl) ?_
    refine lv_iload_n hx hb zd_Post_fetchFor_67 rfl (lv_at hl 2 rfl) ?_
    obtain ⟨v14, X15, Y16, hq17, hf⟩ := zu_b3_e hf
    refine zw_Post_homeParts (rest := []) B hP hS rfl hq17 zq_544 (Nat.le_of_ble_eq_true rfl) (Nat.le_of_ble_eq_true rfl) hl.1 rfl (Nat.le_of_ble_eq_true rfl) zd_Post_fetchFor_68 (by decide) (fun H locs hP hS => ?_)
    clear hq17
    refine lv_lstore (lv' := [(7, .long v14), (0, .ref (ad 0)), (1, .int x1), (2, .int x2), (3, .int x3), (4, .long x4), (6, .int x6)]) hx hb zd_Post_fetchFor_71 hl (by decide) rfl (fun ls hl => ?_)
    refine lv_lload hx hb zd_Post_fetchFor_73 (lv_at hl 0 rfl) ?_
    refine lv_lload hx hb zd_Post_fetchFor_75 (lv_at hl 5 rfl) ?_
    refine W.lcmp hx hb zd_Post_fetchFor_77 ?_
    refine lv_if_le (tgt := 88) hx hb zd_Post_fetchFor_78 (by decide) (fun c18 => ?_) (fun c18 => ?_)
    · have hf := zu_t c18 hf
      exact zl_Post_fetchFor_L88 B hret hlk hk45 x1 x2 x3 x4 x6 X15 Y16 _ _ _ hP hS (lv_sub hl [1, 2, 3, 4, 5, 6] rfl) hf
    · have hf := zu_f c18 hf
      refine lv_lload hx hb zd_Post_fetchFor_81 (lv_at hl 0 rfl) ?_
      refine lv_lstore (lv' := [(4, .long v14), (7, .long v14), (0, .ref (ad 0)), (1, .int x1), (2, .int x2), (3, .int x3), (6, .int x6)]) hx hb zd_Post_fetchFor_83 hl (by decide) rfl (fun ls hl => ?_)
      refine lv_iload hx hb zd_Post_fetchFor_85 (lv_at hl 6 rfl) ?_
      refine lv_istore_n (lv' := [(3, .int x6), (4, .long v14), (7, .long v14), (0, .ref (ad 0)), (1, .int x1), (2, .int x2), (6, .int x6)]) hx hb zd_Post_fetchFor_87 rfl hl (by decide) rfl (fun ls hl => ?_)
      exact zl_Post_fetchFor_L88 B hret hlk hk45 x1 x2 x6 v14 x6 X15 Y16 _ _ _ hP hS (lv_sub hl [3, 4, 5, 0, 1, 6] rfl) hf
theorem zl_Post_fetchFor_L45 {p : Program} {l : Launch} {e : Env} {s : State} {m : MethodId} {args : Array Value} {below : List Frame} {meth : Method} {c : Code} {D : va_G} {cA : Nat → ClassId} {ad : Nat → Nat} {A : Nat → Prop} (B : zu_B p s m args c zb_Post_fetchFor 9 "StonePost" D cA ad A) (hret : meth.sig.returnType = (some .int)) (hlk : meth.locks = false) {res : Int32 × IX × LX} : ∀ (n : Nat) (x1 : Int32) (x2 : Int32) (x3 : Int32) (x4 : Int64) (x6 : Int32) (X : IX) (Y : LX) (H : Heap) (locs : List Loc) (ls : Array Slot), va_P D zu_cl (zu_pic cA ad X Y) H → va_S A s.heap H locs → lv_has ls 9 [(0, .ref (ad 0)), (1, .int x1), (2, .int x2), (3, .int x3), (4, .long x4), (6, .int x6)] → fn_Post_fetchFor_L45 n x1 x2 x3 x4 x6 X Y = some res → W p l e zR_Post_fetchFor s m args below meth c H locs 0 0 (MQ below (zu_Qi D cA ad A res.1 res.2.1 res.2.2) args s 0 0 A) (F0 m 45 ls []) := by
  intro n
  induction n with
  | zero =>
    intro x1 x2 x3 x4 x6 X Y H locs ls hP hS hl hf
    exact (Option.some_ne_none _ hf.symm).elim
  | succ n ih =>
    intro x1 x2 x3 x4 x6 X Y H locs ls hP hS hl hf
    exact zl_Post_fetchFor_B45 B hret hlk ih x1 x2 x3 x4 x6 X Y H locs ls hP hS hl  hf
set_option maxHeartbeats 4000000 in
theorem zl_Post_fetchFor_L17 {p : Program} {l : Launch} {e : Env} {s : State} {m : MethodId} {args : Array Value} {below : List Frame} {meth : Method} {c : Code} {D : va_G} {cA : Nat → ClassId} {ad : Nat → Nat} {A : Nat → Prop} (B : zu_B p s m args c zb_Post_fetchFor 9 "StonePost" D cA ad A) (hret : meth.sig.returnType = (some .int)) (hlk : meth.locks = false) {res : Int32 × IX × LX} (X : IX) (Y : LX) (H : Heap) (locs : List Loc) (ls : Array Slot) (hP : va_P D zu_cl (zu_pic cA ad X Y) H) (hS : va_S A s.heap H locs) (hl : lv_has ls 9 [(0, .ref (ad 0))]) (hf : fn_Post_fetchFor_L17 X Y = some res) : W p l e zR_Post_fetchFor s m args below meth c H locs 0 0 (MQ below (zu_Qi D cA ad A res.1 res.2.1 res.2.2) args s 0 0 A) (F0 m 17 ls []) := by
  obtain ⟨hx, hb, hml, hown, hts, hST⟩ := id B
  unfold fn_Post_fetchFor_L17 at hf
  refine lv_aload_n hx hb zd_Post_fetchFor_17 rfl (lv_at hl 0 rfl) ?_
  refine lv_ldc (v := -1000001) hx hb hown (hts _ zq_226) zd_Post_fetchFor_18 ?_
  obtain ⟨v9, X10, hq11, hf⟩ := zu_b2_e hf
  refine zw_Post_finding (rest := []) B hP hS hq11 zq_227 (Nat.le_of_ble_eq_true rfl) (Nat.le_of_ble_eq_true rfl) hl.1 rfl (Nat.le_of_ble_eq_true rfl) zd_Post_fetchFor_20 (by decide) (fun H locs hP hS => ?_)
  clear hq11
  obtain rfl := Option.some.inj hf
  exact zr_iret hx hb hret hlk hP hS zd_Post_fetchFor_23
set_option maxHeartbeats 4000000 in
theorem zl_Post_fetchFor {p : Program} {l : Launch} {e : Env} {s : State} {m : MethodId} {args : Array Value} {below : List Frame} {meth : Method} {c : Code} {D : va_G} {cA : Nat → ClassId} {ad : Nat → Nat} {A : Nat → Prop} (B : zu_B p s m args c zb_Post_fetchFor 9 "StonePost" D cA ad A) (hret : meth.sig.returnType = (some .int)) (hlk : meth.locks = false) {res : Int32 × IX × LX} {a1 : Int32} {a2 : Int32} {X : IX} {Y : LX} (H : Heap) (locs : List Loc) (ls : Array Slot) (hP : va_P D zu_cl (zu_pic cA ad X Y) H) (hS : va_S A s.heap H locs) (hl : lv_has ls 9 [(0, .ref (ad 0)), (1, .int a1), (2, .int a2)]) (hf : fn_Post_fetchFor a1 a2 X Y = some res) : W p l e zR_Post_fetchFor s m args below meth c H locs 0 0 (MQ below (zu_Qi D cA ad A res.1 res.2.1 res.2.2) args s 0 0 A) (F0 m 0 ls []) := by
  obtain ⟨hx, hb, hml, hown, hts, hST⟩ := id B
  unfold fn_Post_fetchFor at hf
  refine lv_iload_n hx hb zd_Post_fetchFor_0 rfl (lv_at hl 1 rfl) ?_
  obtain ⟨v1, hq2, hf⟩ := zu_b1_e hf
  refine zw_Post_isCell (rest := []) B hP hS hq2 zq_220 (Nat.le_of_ble_eq_true rfl) (Nat.le_of_ble_eq_true rfl) hl.1 rfl (Nat.le_of_ble_eq_true rfl) zd_Post_fetchFor_1 (by decide) (fun H locs hP hS => ?_)
  clear hq2
  refine lv_if_eq (tgt := 17) hx hb zd_Post_fetchFor_4 (by decide) (fun c3 => ?_) (fun c3 => ?_)
  · have hf := zu_t c3 hf
    exact zl_Post_fetchFor_L17 B hret hlk X Y _ _ _ hP hS (lv_sub hl [0] rfl) hf
  · have hf := zu_f c3 hf
    refine lv_iload_n hx hb zd_Post_fetchFor_7 rfl (lv_at hl 2 rfl) ?_
    refine lv_iconst (v := 1) hx hb zd_Post_fetchFor_8 (by decide) ?_
    refine lv_bipush (v := 10) hx hb zd_Post_fetchFor_9 (by decide) ?_
    obtain ⟨v4, hq5, hf⟩ := zu_b1_e hf
    refine zw_Post_isWithin (rest := []) B hP hS hq5 zq_223 (Nat.le_of_ble_eq_true rfl) (Nat.le_of_ble_eq_true rfl) hl.1 rfl (Nat.le_of_ble_eq_true rfl) zd_Post_fetchFor_11 (by decide) (fun H locs hP hS => ?_)
    clear hq5
    refine lv_if_ne (tgt := 24) hx hb zd_Post_fetchFor_14 (by decide) (fun c6 => ?_) (fun c6 => ?_)
    · have hf := zu_f c6 hf
      refine lv_aload_n hx hb zd_Post_fetchFor_24 rfl (lv_at hl 0 rfl) ?_
      refine zg_Post_trial B hP rfl zq_193 zd_Post_fetchFor_25 ?_
      refine lv_aload_n hx hb zd_Post_fetchFor_28 rfl (lv_at hl 0 rfl) ?_
      refine zg_Post_land B hP rfl zq_191 zd_Post_fetchFor_29 ?_
      obtain ⟨X7, hq8, hf⟩ := zu_b1_e hf
      refine zw_Land_become (rest := []) B hP hS rfl rfl hq8 zq_539 (Nat.le_of_ble_eq_true rfl) (Nat.le_of_ble_eq_true rfl) hl.1 rfl (Nat.le_of_ble_eq_true rfl) zd_Post_fetchFor_32 (by decide) (fun H locs hP hS => ?_)
      clear hq8
      refine lv_iconst (v := 0) hx hb zd_Post_fetchFor_35 (by decide) ?_
      refine lv_istore_n (lv' := [(3, .int (0 : Int32)), (0, .ref (ad 0)), (1, .int a1), (2, .int a2)]) hx hb zd_Post_fetchFor_36 rfl hl (by decide) rfl (fun ls hl => ?_)
      refine lv_ldc2 (v := -1) hx hb hown (hts _ zq_523) zd_Post_fetchFor_37 ?_
      refine lv_lstore (lv' := [(4, .long (-1 : Int64)), (3, .int (0 : Int32)), (0, .ref (ad 0)), (1, .int a1), (2, .int a2)]) hx hb zd_Post_fetchFor_40 hl (by decide) rfl (fun ls hl => ?_)
      refine lv_iconst (v := 0) hx hb zd_Post_fetchFor_42 (by decide) ?_
      refine lv_istore (lv' := [(6, .int (0 : Int32)), (4, .long (-1 : Int64)), (3, .int (0 : Int32)), (0, .ref (ad 0)), (1, .int a1), (2, .int a2)]) hx hb zd_Post_fetchFor_43 hl (by decide) rfl (fun ls hl => ?_)
      exact zl_Post_fetchFor_L45 B hret hlk 400 a1 a2 (0 : Int32) (-1 : Int64) (0 : Int32) X7 Y _ _ _ hP hS (lv_sub hl [3, 4, 5, 2, 1, 0] rfl) hf
    · have hf := zu_t c6 hf
      exact zl_Post_fetchFor_L17 B hret hlk X Y _ _ _ hP hS (lv_sub hl [0] rfl) hf
theorem zC_Post_fetchFor (l : Launch) {D : va_G} {cA : Nat → ClassId} {ad : Nat → Nat} {A : Nat → Prop} {a1 : Int32} {a2 : Int32} {X : IX} {Y : LX} {res : Int32 × IX × LX} (hf : fn_Post_fetchFor a1 a2 X Y = some res) : Met l zm_Post_fetchFor (zu_ws zm_Post_fetchFor zb_Post_fetchFor 9 (some .int)) zR_Post_fetchFor (va_Pc [.ref (ad 0), .int a1, .int a2] (zu_Pre D cA ad A X Y)) (zu_Qi D cA ad A res.1 res.2.1 res.2.2) 0 0 A := by
  refine Met.ofW (cc := zb_Post_fetchFor) (maxL := 9) (ret := (some .int)) (by decide +kernel) rfl ?_
  intro p e s m args below meth c s₁ B0 hml hv
  obtain ⟨rfl, hP, hST⟩ := hv
  have B : zu_B p s m _ c zb_Post_fetchFor 9 "StonePost" D cA ad A := ⟨B0.exec, B0.bytes, hml, findClass_of_methodNamed B0.named, (fun w hw => atoms_spec (ws := zu_ws zm_Post_fetchFor zb_Post_fetchFor 9 (some .int)) B0.pre w (List.mem_cons_of_mem _ hw)), hST⟩
  have hl := lv_entry ([.ref (ad 0), .int a1, .int a2]) (n := 9) (Nat.le_of_ble_eq_true rfl)
  rw [lg_entry_eq]
  generalize (lg_sl ([.ref (ad 0), .int a1, .int a2]) ++ List.replicate (9 - (lg_sl ([.ref (ad 0), .int a1, .int a2])).length) Slot.unset).toArray = ls at hl ⊢
  exact zl_Post_fetchFor B B0.returns B0.notSynchronized s.heap [] ls hP va_S.rf hl  hf
theorem zw_Post_fetchFor {p : Program} {l : Launch} {e : Env} {R : Room} {s : State} {m : MethodId} {args : Array Value} {below : List Frame} {meth : Method} {c : Code} {H : Heap} {locs : List Loc} {cells slots : Nat} {Q : State → Prop} {cc : ByteArray} {pc nL : Nat} {ls : Array Slot} {rest st0 : List Value} {D : va_G} {cA : Nat → ClassId} {ad : Nat → Nat} {A : Nat → Prop} {X : IX} {Y : LX} {own : String} {index : Nat} {a1 : Int32} {a2 : Int32} {v1 : Int32} {X1 : IX} {Y1 : LX} (B : zu_B p s m args c cc nL own D cA ad A) (hP : va_P D zu_cl (zu_pic cA ad X Y) H) (hS : va_S A s.heap H locs) (hq : fn_Post_fetchFor a1 a2 X Y = some (v1, X1, Y1)) (m1 : Cond.methodLink own index zm_Post_fetchFor ∈ zu_TB) (hR1 : 7 + 1 ≤ R.frames) (hR2 : 8 + (9 + 11) + 161 ≤ R.locals) (hsz : ls.size = nL) (hst : st0 = .int a2 :: .int a1 :: .ref (ad 0) :: rest) (hw : (rest.map fun v => v.category).sum ≤ 8) (hdg : decode cc pc = .ok (.invokevirtual index, 3)) (h00 : cells ≤ R.cells ∧ slots ≤ R.slots) (kk : ∀ (H1 : Heap) (locs1 : List Loc), va_P D zu_cl (zu_pic cA ad X1 Y1) H1 → va_S A s.heap H1 locs1 → W p l e R s m args below meth c H1 locs1 cells slots Q (F0 m (pc + 3) ls (.int v1 :: rest))) : W p l e R s m args below meth c H locs cells slots Q (F0 m pc ls st0) := by
  subst hst
  exact zr_cVi (As := [.int a1, .int a2]) (rest := rest) (n := 2) (C := "StonePost") (T := zt_Post) (N := 8) B hP hS (zC_Post_fetchFor l  hq) (K := 1) rfl (by decide) (by decide) rfl rfl m1 zq_553 zq_554 zq_1 zq_555 (by decide +kernel) ⟨hR1, hR2⟩ rfl rfl rfl hsz rfl hw hdg h00 kk
