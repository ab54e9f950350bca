abbrev zR_Post_told : Room := { frames := 2, cells := 0, slots := 0, locals := 44 }
theorem zd_Post_told_0 : decode zb_Post_told 0 = .ok (.aload_n 0, 1) := by decide +kernel
theorem zd_Post_told_1 : decode zb_Post_told 1 = .ok (.iload_n 1, 1) := by decide +kernel
theorem zd_Post_told_2 : decode zb_Post_told 2 = .ok (.invokevirtual 82, 3) := by decide +kernel
theorem zd_Post_told_5 : decode zb_Post_told 5 = .ok (.ifCond .eq 21, 3) := by decide +kernel
theorem zd_Post_told_8 : decode zb_Post_told 8 = .ok (.iload_n 2, 1) := by decide +kernel
theorem zd_Post_told_9 : decode zb_Post_told 9 = .ok (.iconst 0, 1) := by decide +kernel
theorem zd_Post_told_10 : decode zb_Post_told 10 = .ok (.iconst 1, 1) := by decide +kernel
theorem zd_Post_told_11 : decode zb_Post_told 11 = .ok (.invokestatic 51, 3) := by decide +kernel
theorem zd_Post_told_14 : decode zb_Post_told 14 = .ok (.ifCond .eq 12, 3) := by decide +kernel
theorem zd_Post_told_17 : decode zb_Post_told 17 = .ok (.iload_n 3, 1) := by decide +kernel
theorem zd_Post_told_18 : decode zb_Post_told 18 = .ok (.iload 4, 2) := by decide +kernel
theorem zd_Post_told_20 : decode zb_Post_told 20 = .ok (.invokestatic 98, 3) := by decide +kernel
theorem zd_Post_told_23 : decode zb_Post_told 23 = .ok (.ifCond .ne 10, 3) := by decide +kernel
theorem zd_Post_told_26 : decode zb_Post_told 26 = .ok (.aload_n 0, 1) := by decide +kernel
theorem zd_Post_told_27 : decode zb_Post_told 27 = .ok (.ldc 55, 2) := by decide +kernel
theorem zd_Post_told_29 : decode zb_Post_told 29 = .ok (.invokevirtual 56, 3) := by decide +kernel
theorem zd_Post_told_32 : decode zb_Post_told 32 = .ok (.ireturn, 1) := by decide +kernel
theorem zd_Post_told_33 : decode zb_Post_told 33 = .ok (.aload_n 0, 1) := by decide +kernel
theorem zd_Post_told_34 : decode zb_Post_told 34 = .ok (.getfield 10, 3) := by decide +kernel
theorem zd_Post_told_37 : decode zb_Post_told 37 = .ok (.getfield 87, 3) := by decide +kernel
theorem zd_Post_told_40 : decode zb_Post_told 40 = .ok (.iload_n 1, 1) := by decide +kernel
theorem zd_Post_told_41 : decode zb_Post_told 41 = .ok (.aaload, 1) := by decide +kernel
theorem zd_Post_told_42 : decode zb_Post_told 42 = .ok (.astore 5, 2) := by decide +kernel
theorem zd_Post_told_44 : decode zb_Post_told 44 = .ok (.iload_n 2, 1) := by decide +kernel
theorem zd_Post_told_45 : decode zb_Post_told 45 = .ok (.ifCond .ne 17, 3) := by decide +kernel
theorem zd_Post_told_48 : decode zb_Post_told 48 = .ok (.aload 5, 2) := by decide +kernel
theorem zd_Post_told_50 : decode zb_Post_told 50 = .ok (.iload_n 3, 1) := by decide +kernel
theorem zd_Post_told_51 : decode zb_Post_told 51 = .ok (.iload 4, 2) := by decide +kernel
theorem zd_Post_told_53 : decode zb_Post_told 53 = .ok (.invokestatic 101, 3) := by decide +kernel
theorem zd_Post_told_56 : decode zb_Post_told 56 = .ok (.invokevirtual 104, 3) := by decide +kernel
theorem zd_Post_told_59 : decode zb_Post_told 59 = .ok (.goto 14, 3) := by decide +kernel
theorem zd_Post_told_62 : decode zb_Post_told 62 = .ok (.aload 5, 2) := by decide +kernel
theorem zd_Post_told_64 : decode zb_Post_told 64 = .ok (.iload_n 3, 1) := by decide +kernel
theorem zd_Post_told_65 : decode zb_Post_told 65 = .ok (.iload 4, 2) := by decide +kernel
theorem zd_Post_told_67 : decode zb_Post_told 67 = .ok (.invokestatic 101, 3) := by decide +kernel
theorem zd_Post_told_70 : decode zb_Post_told 70 = .ok (.invokevirtual 108, 3) := by decide +kernel
theorem zd_Post_told_73 : decode zb_Post_told 73 = .ok (.ireturn, 1) := by decide +kernel
set_option maxHeartbeats 4000000 in
theorem zl_Post_told_L73 {p : Program} {l : Launch} {e : Env} {s : State} {m : MethodId} {args : Array Value} {below : List Frame} {meth : Method} {c : Code} {D : va_G} {cA : Nat → ClassId} {ad : Nat → Nat} {A : Nat → Prop} (B : zu_B p s m args c zb_Post_told 6 "StonePost" D cA ad A) (hret : meth.sig.returnType = (some .int)) (hlk : meth.locks = false) {Y : LX} {res : Int32 × IX} (y0 : Int32) (X : IX) (H : Heap) (locs : List Loc) (ls : Array Slot) (hP : va_P D zu_cl (zu_pic cA ad X Y) H) (hS : va_S A s.heap H locs) (hl : lv_has ls 6 []) (hf : fn_Post_told_L73 y0 X = some res) : W p l e zR_Post_told s m args below meth c H locs 0 0 (MQ below (zu_Qi D cA ad A res.1 res.2 Y) args s 0 0 A) (F0 m 73 ls [.int y0]) := by
  obtain ⟨hx, hb, hml, hown, hts, hST⟩ := id B
  unfold fn_Post_told_L73 at hf
  obtain rfl := Option.some.inj hf
  exact zr_iret hx hb hret hlk hP hS zd_Post_told_73
set_option maxHeartbeats 4000000 in
theorem zl_Post_told_L26 {p : Program} {l : Launch} {e : Env} {s : State} {m : MethodId} {args : Array Value} {below : List Frame} {meth : Method} {c : Code} {D : va_G} {cA : Nat → ClassId} {ad : Nat → Nat} {A : Nat → Prop} (B : zu_B p s m args c zb_Post_told 6 "StonePost" D cA ad A) (hret : meth.sig.returnType = (some .int)) (hlk : meth.locks = false) {Y : LX} {res : Int32 × IX} (X : IX) (H : Heap) (locs : List Loc) (ls : Array Slot) (hP : va_P D zu_cl (zu_pic cA ad X Y) H) (hS : va_S A s.heap H locs) (hl : lv_has ls 6 [(0, .ref (ad 0))]) (hf : fn_Post_told_L26 X = some res) : W p l e zR_Post_told s m args below meth c H locs 0 0 (MQ below (zu_Qi D cA ad A res.1 res.2 Y) args s 0 0 A) (F0 m 26 ls []) := by
  obtain ⟨hx, hb, hml, hown, hts, hST⟩ := id B
  unfold fn_Post_told_L26 at hf
  refine lv_aload_n hx hb zd_Post_told_26 rfl (lv_at hl 0 rfl) ?_
  refine lv_ldc (v := -1000001) hx hb hown (hts _ zq_226) zd_Post_told_27 ?_
  obtain ⟨v20, X21, hq22, hf⟩ := zu_b2_e hf
  refine zw_Post_finding (rest := []) B hP hS hq22 zq_227 (Nat.le_of_ble_eq_true rfl) (Nat.le_of_ble_eq_true rfl) hl.1 rfl (Nat.le_of_ble_eq_true rfl) zd_Post_told_29 (by decide) (fun H locs hP hS => ?_)
  clear hq22
  obtain rfl := Option.some.inj hf
  exact zr_iret hx hb hret hlk hP hS zd_Post_told_32
set_option maxHeartbeats 4000000 in
theorem zl_Post_told {p : Program} {l : Launch} {e : Env} {s : State} {m : MethodId} {args : Array Value} {below : List Frame} {meth : Method} {c : Code} {D : va_G} {cA : Nat → ClassId} {ad : Nat → Nat} {A : Nat → Prop} (B : zu_B p s m args c zb_Post_told 6 "StonePost" D cA ad A) (hret : meth.sig.returnType = (some .int)) (hlk : meth.locks = false) {Y : LX} {res : Int32 × IX} {a1 : Int32} {a2 : Int32} {a3 : Int32} {a4 : Int32} {X : IX} (H : Heap) (locs : List Loc) (ls : Array Slot) (hP : va_P D zu_cl (zu_pic cA ad X Y) H) (hS : va_S A s.heap H locs) (hl : lv_has ls 6 [(0, .ref (ad 0)), (1, .int a1), (2, .int a2), (3, .int a3), (4, .int a4)]) (hf : fn_Post_told a1 a2 a3 a4 X = some res) : W p l e zR_Post_told s m args below meth c H locs 0 0 (MQ below (zu_Qi D cA ad A res.1 res.2 Y) args s 0 0 A) (F0 m 0 ls []) := by
  obtain ⟨hx, hb, hml, hown, hts, hST⟩ := id B
  unfold fn_Post_told at hf
  refine lv_aload_n hx hb zd_Post_told_0 rfl (lv_at hl 0 rfl) ?_
  refine lv_iload_n hx hb zd_Post_told_1 rfl (lv_at hl 1 rfl) ?_
  obtain ⟨v1, hq2, hf⟩ := zu_b1_e hf
  refine zw_Post_isThrower (rest := []) B hP hS hq2 zq_265 (Nat.le_of_ble_eq_true rfl) (Nat.le_of_ble_eq_true rfl) hl.1 rfl (Nat.le_of_ble_eq_true rfl) zd_Post_told_2 (by decide) (fun H locs hP hS => ?_)
  clear hq2
  refine lv_if_eq (tgt := 26) hx hb zd_Post_told_5 (by decide) (fun c3 => ?_) (fun c3 => ?_)
  · have hf := zu_t c3 hf
    exact zl_Post_told_L26 B hret hlk X _ _ _ hP hS (lv_sub hl [0] rfl) hf
  · have hf := zu_f c3 hf
    refine lv_iload_n hx hb zd_Post_told_8 rfl (lv_at hl 2 rfl) ?_
    refine lv_iconst (v := 0) hx hb zd_Post_told_9 (by decide) ?_
    refine lv_iconst (v := 1) hx hb zd_Post_told_10 (by decide) ?_
    obtain ⟨v4, hq5, hf⟩ := zu_b1_e hf
    refine zw_Post_isWithin (rest := []) B hP hS hq5 zq_223 (Nat.le_of_ble_eq_true rfl) (Nat.le_of_ble_eq_true rfl) hl.1 rfl (Nat.le_of_ble_eq_true rfl) zd_Post_told_11 (by decide) (fun H locs hP hS => ?_)
    clear hq5
    refine lv_if_eq (tgt := 26) hx hb zd_Post_told_14 (by decide) (fun c6 => ?_) (fun c6 => ?_)
    · have hf := zu_t c6 hf
      exact zl_Post_told_L26 B hret hlk X _ _ _ hP hS (lv_sub hl [0] rfl) hf
    · have hf := zu_f c6 hf
      refine lv_iload_n hx hb zd_Post_told_17 rfl (lv_at hl 3 rfl) ?_
      refine lv_iload hx hb zd_Post_told_18 (lv_at hl 4 rfl) ?_
      obtain ⟨v7, hq8, hf⟩ := zu_b1_e hf
      refine zw_Post_isThrow (rest := []) B hP hS hq8 zq_289 (Nat.le_of_ble_eq_true rfl) (Nat.le_of_ble_eq_true rfl) hl.1 rfl (Nat.le_of_ble_eq_true rfl) zd_Post_told_20 (by decide) (fun H locs hP hS => ?_)
      clear hq8
      refine lv_if_ne (tgt := 33) hx hb zd_Post_told_23 (by decide) (fun c9 => ?_) (fun c9 => ?_)
      · have hf := zu_f c9 hf
        refine lv_aload_n hx hb zd_Post_told_33 rfl (lv_at hl 0 rfl) ?_
        refine zg_Post_land B hP rfl zq_191 zd_Post_told_34 ?_
        refine zg_Land_throwers B hP rfl zq_55 zd_Post_told_37 ?_
        refine lv_iload_n hx hb zd_Post_told_40 rfl (lv_at hl 1 rfl) ?_
        obtain ⟨hg10, hf⟩ := zu_gd_e hf
        refine zr_thr rfl B hP (zk_Land_throwers rfl) hg10 zd_Post_told_41 ?_
        refine lv_astore (lv' := [(5, .ref (ad (zu_th (20 + 6) (a1.toNatClampNeg)))), (0, .ref (ad 0)), (1, .int a1), (2, .int a2), (3, .int a3), (4, .int a4)]) hx hb zd_Post_told_42 hl (by decide) rfl (fun ls hl => ?_)
        refine lv_iload_n hx hb zd_Post_told_44 rfl (lv_at hl 3 rfl) ?_
        refine lv_if_ne (tgt := 62) hx hb zd_Post_told_45 (by decide) (fun c11 => ?_) (fun c11 => ?_)
        · have hf := zu_f c11 hf
          refine lv_aload hx hb zd_Post_told_62 (lv_at hl 0 rfl) ?_
          refine lv_iload_n hx hb zd_Post_told_64 rfl (lv_at hl 4 rfl) ?_
          refine lv_iload hx hb zd_Post_told_65 (lv_at hl 5 rfl) ?_
          obtain ⟨v12, hq13, hf⟩ := zu_b1_e hf
          refine zw_Post_isNight (rest := [.int a3, .ref (ad (zu_th (20 + 6) (a1.toNatClampNeg)))]) B hP hS hq13 zq_292 (Nat.le_of_ble_eq_true rfl) (Nat.le_of_ble_eq_true rfl) hl.1 rfl (Nat.le_of_ble_eq_true rfl) zd_Post_told_67 (by decide) (fun H locs hP hS => ?_)
          clear hq13
          obtain ⟨v14, ehq15, hf⟩ := zu_nx_e hf
          have hq15 := ehq15.symm
          refine zw_Thr_sure (rest := []) B hP hS (zk_thr (zk_Land_throwers rfl) (zu_ib_lt hg10)) hq15 zq_299 (Nat.le_of_ble_eq_true rfl) (Nat.le_of_ble_eq_true rfl) hl.1 rfl (Nat.le_of_ble_eq_true rfl) zd_Post_told_70 (by decide) (fun H locs hP hS => ?_)
          clear hq15 ehq15
          exact zl_Post_told_L73 B hret hlk v14 X _ _ _ hP hS (lv_sub hl [] rfl) hf
        · have hf := zu_t c11 hf
          refine lv_aload hx hb zd_Post_told_48 (lv_at hl 0 rfl) ?_
          refine lv_iload_n hx hb zd_Post_told_50 rfl (lv_at hl 4 rfl) ?_
          refine lv_iload hx hb zd_Post_told_51 (lv_at hl 5 rfl) ?_
          obtain ⟨v16, hq17, hf⟩ := zu_b1_e hf
          refine zw_Post_isNight (rest := [.int a3, .ref (ad (zu_th (20 + 6) (a1.toNatClampNeg)))]) B hP hS hq17 zq_292 (Nat.le_of_ble_eq_true rfl) (Nat.le_of_ble_eq_true rfl) hl.1 rfl (Nat.le_of_ble_eq_true rfl) zd_Post_told_53 (by decide) (fun H locs hP hS => ?_)
          clear hq17
          obtain ⟨v18, ehq19, hf⟩ := zu_nx_e hf
          have hq19 := ehq19.symm
          refine zw_Thr_reach (rest := []) B hP hS (zk_thr (zk_Land_throwers rfl) (zu_ib_lt hg10)) hq19 zq_295 (Nat.le_of_ble_eq_true rfl) (Nat.le_of_ble_eq_true rfl) hl.1 rfl (Nat.le_of_ble_eq_true rfl) zd_Post_told_56 (by decide) (fun H locs hP hS => ?_)
          clear hq19 ehq19
          refine lv_goto (tgt := 73) hx hb zd_Post_told_59 (by decide) ?_
          exact zl_Post_told_L73 B hret hlk v18 X _ _ _ hP hS (lv_sub hl [] rfl) hf
      · have hf := zu_t c9 hf
        exact zl_Post_told_L26 B hret hlk X _ _ _ hP hS (lv_sub hl [0] rfl) hf
theorem zC_Post_told (l : Launch) {D : va_G} {cA : Nat → ClassId} {ad : Nat → Nat} {A : Nat → Prop} {a1 : Int32} {a2 : Int32} {a3 : Int32} {a4 : Int32} {X : IX} {Y : LX} {res : Int32 × IX} (hf : fn_Post_told a1 a2 a3 a4 X = some res) : Met l zm_Post_told (zu_ws zm_Post_told zb_Post_told 6 (some .int)) zR_Post_told (va_Pc [.ref (ad 0), .int a1, .int a2, .int a3, .int a4] (zu_Pre D cA ad A X Y)) (zu_Qi D cA ad A res.1 res.2 Y) 0 0 A := by
  refine Met.ofW (cc := zb_Post_told) (maxL := 6) (ret := (some .int)) (by decide +kernel) rfl ?_
  intro p e s m args below meth c s₁ B0 hml hv
  obtain ⟨rfl, hP, hST⟩ := hv
  have B : zu_B p s m _ c zb_Post_told 6 "StonePost" D cA ad A := ⟨B0.exec, B0.bytes, hml, findClass_of_methodNamed B0.named, (fun w hw => atoms_spec (ws := zu_ws zm_Post_told zb_Post_told 6 (some .int)) B0.pre w (List.mem_cons_of_mem _ hw)), hST⟩
  have hl := lv_entry ([.ref (ad 0), .int a1, .int a2, .int a3, .int a4]) (n := 6) (Nat.le_of_ble_eq_true rfl)
  rw [lg_entry_eq]
  generalize (lg_sl ([.ref (ad 0), .int a1, .int a2, .int a3, .int a4]) ++ List.replicate (6 - (lg_sl ([.ref (ad 0), .int a1, .int a2, .int a3, .int a4])).length) Slot.unset).toArray = ls at hl ⊢
  exact zl_Post_told B B0.returns B0.notSynchronized s.heap [] ls hP va_S.rf hl  hf
theorem zw_Post_told {p : Program} {l : Launch} {e : Env} {R : Room} {s : State} {m : MethodId} {args : Array Value} {below : List Frame} {meth : Method} {c : Code} {H : Heap} {locs : List Loc} {cells slots : Nat} {Q : State → Prop} {cc : ByteArray} {pc nL : Nat} {ls : Array Slot} {rest st0 : List Value} {D : va_G} {cA : Nat → ClassId} {ad : Nat → Nat} {A : Nat → Prop} {X : IX} {Y : LX} {own : String} {index : Nat} {a1 : Int32} {a2 : Int32} {a3 : Int32} {a4 : Int32} {v1 : Int32} {X1 : IX} (B : zu_B p s m args c cc nL own D cA ad A) (hP : va_P D zu_cl (zu_pic cA ad X Y) H) (hS : va_S A s.heap H locs) (hq : fn_Post_told a1 a2 a3 a4 X = some (v1, X1)) (m1 : Cond.methodLink own index zm_Post_told ∈ zu_TB) (hR1 : 2 + 1 ≤ R.frames) (hR2 : 8 + (6 + 11) + 44 ≤ R.locals) (hsz : ls.size = nL) (hst : st0 = .int a4 :: .int a3 :: .int a2 :: .int a1 :: .ref (ad 0) :: rest) (hw : (rest.map fun v => v.category).sum ≤ 8) (hdg : decode cc pc = .ok (.invokevirtual index, 3)) (h00 : cells ≤ R.cells ∧ slots ≤ R.slots) (kk : ∀ (H1 : Heap) (locs1 : List Loc), va_P D zu_cl (zu_pic cA ad X1 Y) H1 → va_S A s.heap H1 locs1 → W p l e R s m args below meth c H1 locs1 cells slots Q (F0 m (pc + 3) ls (.int v1 :: rest))) : W p l e R s m args below meth c H locs cells slots Q (F0 m pc ls st0) := by
  subst hst
  exact zr_cVi (As := [.int a1, .int a2, .int a3, .int a4]) (rest := rest) (n := 4) (C := "StonePost") (T := zt_Post) (N := 8) B hP hS (zC_Post_told l  hq) (K := 1) rfl (by decide) (by decide) rfl rfl m1 zq_286 zq_287 zq_1 zq_288 (by decide +kernel) ⟨hR1, hR2⟩ rfl rfl rfl hsz rfl hw hdg h00 kk
abbrev zR_Thr_cellAway : Room := { frames := 1, cells := 0, slots := 0, locals := 21 }
theorem zd_Thr_cellAway_0 : decode zb_Thr_cellAway 0 = .ok (.aload_n 0, 1) := by decide +kernel
theorem zd_Thr_cellAway_1 : decode zb_Thr_cellAway 1 = .ok (.getfield 11, 3) := by decide +kernel
theorem zd_Thr_cellAway_4 : decode zb_Thr_cellAway 4 = .ok (.iconst 4, 1) := by decide +kernel
theorem zd_Thr_cellAway_5 : decode zb_Thr_cellAway 5 = .ok (.iaload, 1) := by decide +kernel
theorem zd_Thr_cellAway_6 : decode zb_Thr_cellAway 6 = .ok (.iconst 1, 1) := by decide +kernel
theorem zd_Thr_cellAway_7 : decode zb_Thr_cellAway 7 = .ok (.if_icmp .ne 14, 3) := by decide +kernel
theorem zd_Thr_cellAway_10 : decode zb_Thr_cellAway 10 = .ok (.aload_n 0, 1) := by decide +kernel
theorem zd_Thr_cellAway_11 : decode zb_Thr_cellAway 11 = .ok (.getfield 11, 3) := by decide +kernel
theorem zd_Thr_cellAway_14 : decode zb_Thr_cellAway 14 = .ok (.iconst 1, 1) := by decide +kernel
theorem zd_Thr_cellAway_15 : decode zb_Thr_cellAway 15 = .ok (.iaload, 1) := by decide +kernel
theorem zd_Thr_cellAway_16 : decode zb_Thr_cellAway 16 = .ok (.iload_n 1, 1) := by decide +kernel
theorem zd_Thr_cellAway_17 : decode zb_Thr_cellAway 17 = .ok (.iadd, 1) := by decide +kernel
theorem zd_Thr_cellAway_18 : decode zb_Thr_cellAway 18 = .ok (.goto 11, 3) := by decide +kernel
theorem zd_Thr_cellAway_21 : decode zb_Thr_cellAway 21 = .ok (.aload_n 0, 1) := by decide +kernel
theorem zd_Thr_cellAway_22 : decode zb_Thr_cellAway 22 = .ok (.getfield 11, 3) := by decide +kernel
theorem zd_Thr_cellAway_25 : decode zb_Thr_cellAway 25 = .ok (.iconst 1, 1) := by decide +kernel
theorem zd_Thr_cellAway_26 : decode zb_Thr_cellAway 26 = .ok (.iaload, 1) := by decide +kernel
theorem zd_Thr_cellAway_27 : decode zb_Thr_cellAway 27 = .ok (.iload_n 1, 1) := by decide +kernel
theorem zd_Thr_cellAway_28 : decode zb_Thr_cellAway 28 = .ok (.isub, 1) := by decide +kernel
theorem zd_Thr_cellAway_29 : decode zb_Thr_cellAway 29 = .ok (.istore_n 2, 1) := by decide +kernel
theorem zd_Thr_cellAway_30 : decode zb_Thr_cellAway 30 = .ok (.iconst 0, 1) := by decide +kernel
theorem zd_Thr_cellAway_31 : decode zb_Thr_cellAway 31 = .ok (.bipush 23, 2) := by decide +kernel
theorem zd_Thr_cellAway_33 : decode zb_Thr_cellAway 33 = .ok (.iload_n 2, 1) := by decide +kernel
theorem zd_Thr_cellAway_34 : decode zb_Thr_cellAway 34 = .ok (.invokestatic 55, 3) := by decide +kernel
theorem zd_Thr_cellAway_37 : decode zb_Thr_cellAway 37 = .ok (.invokestatic 41, 3) := by decide +kernel
theorem zd_Thr_cellAway_40 : decode zb_Thr_cellAway 40 = .ok (.ireturn, 1) := by decide +kernel
set_option maxHeartbeats 4000000 in
theorem zl_Thr_cellAway_L29 {p : Program} {l : Launch} {e : Env} {s : State} {m : MethodId} {args : Array Value} {below : List Frame} {meth : Method} {c : Code} {D : va_G} {cA : Nat → ClassId} {ad : Nat → Nat} {A : Nat → Prop} (B : zu_B p s m args c zb_Thr_cellAway 3 "StonePost$Thrower" D cA ad A) (hret : meth.sig.returnType = (some .int)) (hlk : meth.locks = false) {X : IX} {Y : LX} {res : Int32} (y0 : Int32) (H : Heap) (locs : List Loc) (ls : Array Slot) (hP : va_P D zu_cl (zu_pic cA ad X Y) H) (hS : va_S A s.heap H locs) (hl : lv_has ls 3 []) (hf : fn_Thr_cellAway_L29 X y0 = res) : W p l e zR_Thr_cellAway s m args below meth c H locs 0 0 (MQ below (zu_Qi D cA ad A res X Y) args s 0 0 A) (F0 m 29 ls [.int y0]) := by
  obtain ⟨hx, hb, hml, hown, hts, hST⟩ := id B
  unfold fn_Thr_cellAway_L29 at hf
  refine lv_istore_n (lv' := [(2, .int y0)]) hx hb zd_Thr_cellAway_29 rfl hl (by decide) rfl (fun ls hl => ?_)
  refine lv_iconst (v := 0) hx hb zd_Thr_cellAway_30 (by decide) ?_
  refine lv_bipush (v := 23) hx hb zd_Thr_cellAway_31 (by decide) ?_
  refine lv_iload_n hx hb zd_Thr_cellAway_33 rfl (lv_at hl 0 rfl) ?_
  refine va_mmin hx hb (hml.trans hl.1.symm) hown (hts _ zq_319) (hts _ zq_320) (hts _ zq_10) (hts _ zq_321) (by decide) (Nat.le_of_ble_eq_true rfl) (by decide) (by decide) zd_Thr_cellAway_34 ?_
  refine zr_nxi hf (fun v2 hf => ?_)
  refine va_mmax hx hb (hml.trans hl.1.symm) hown (hts _ zq_303) (hts _ zq_304) (hts _ zq_10) (hts _ zq_305) (by decide) (Nat.le_of_ble_eq_true rfl) (by decide) (by decide) zd_Thr_cellAway_37 ?_
  refine zr_nxi hf (fun v3 hf => ?_)
  obtain rfl := hf
  exact zr_iret hx hb hret hlk hP hS zd_Thr_cellAway_40
set_option maxHeartbeats 4000000 in
theorem zl_Thr_cellAway {p : Program} {l : Launch} {e : Env} {s : State} {m : MethodId} {args : Array Value} {below : List Frame} {meth : Method} {c : Code} {D : va_G} {cA : Nat → ClassId} {ad : Nat → Nat} {A : Nat → Prop} (B : zu_B p s m args c zb_Thr_cellAway 3 "StonePost$Thrower" D cA ad A) (hret : meth.sig.returnType = (some .int)) (hlk : meth.locks = false) {X : IX} {Y : LX} {res : Int32} {r0 : Nat} {a1 : Int32} (H : Heap) (locs : List Loc) (ls : Array Slot) (hP : va_P D zu_cl (zu_pic cA ad X Y) H) (hS : va_S A s.heap H locs) (hl : lv_has ls 3 [(0, .ref (ad r0)), (1, .int a1)]) (hr0 : zu_kd r0 = 6) (hf : fn_Thr_cellAway X r0 a1 = res) : W p l e zR_Thr_cellAway s m args below meth c H locs 0 0 (MQ below (zu_Qi D cA ad A res X Y) args s 0 0 A) (F0 m 0 ls []) := by
  obtain ⟨hx, hb, hml, hown, hts, hST⟩ := id B
  unfold fn_Thr_cellAway at hf
  refine lv_aload_n hx hb zd_Thr_cellAway_0 rfl (lv_at hl 0 rfl) ?_
  refine zg_Thr_facts B hP hr0 zq_38 zd_Thr_cellAway_1 ?_
  refine lv_iconst (v := 4) hx hb zd_Thr_cellAway_4 (by decide) ?_
  refine zr_iald (j := 4) (by decide) B hP (zk_Thr_facts hr0) (by decide) rfl (by decide) zd_Thr_cellAway_5 ?_
  refine lv_iconst (v := 1) hx hb zd_Thr_cellAway_6 (by decide) ?_
  refine lv_icmp_ne (tgt := 21) hx hb zd_Thr_cellAway_7 (by decide) (fun c1 => ?_) (fun c1 => ?_)
  · have hf := zu_f c1 hf
    refine lv_aload_n hx hb zd_Thr_cellAway_21 rfl (lv_at hl 0 rfl) ?_
    refine zg_Thr_facts B hP hr0 zq_38 zd_Thr_cellAway_22 ?_
    refine lv_iconst (v := 1) hx hb zd_Thr_cellAway_25 (by decide) ?_
    refine zr_iald (j := 1) (by decide) B hP (zk_Thr_facts hr0) (by decide) rfl (by decide) zd_Thr_cellAway_26 ?_
    refine lv_iload_n hx hb zd_Thr_cellAway_27 rfl (lv_at hl 1 rfl) ?_
    refine lv_isub hx hb zd_Thr_cellAway_28 ?_
    exact zl_Thr_cellAway_L29 B hret hlk ((X (r0 + 30) 1) - a1) _ _ _ hP hS (lv_sub hl [] rfl) hf
  · have hf := zu_t c1 hf
    refine lv_aload_n hx hb zd_Thr_cellAway_10 rfl (lv_at hl 0 rfl) ?_
    refine zg_Thr_facts B hP hr0 zq_38 zd_Thr_cellAway_11 ?_
    refine lv_iconst (v := 1) hx hb zd_Thr_cellAway_14 (by decide) ?_
    refine zr_iald (j := 1) (by decide) B hP (zk_Thr_facts hr0) (by decide) rfl (by decide) zd_Thr_cellAway_15 ?_
    refine lv_iload_n hx hb zd_Thr_cellAway_16 rfl (lv_at hl 1 rfl) ?_
    refine lv_iadd hx hb zd_Thr_cellAway_17 ?_
    refine lv_goto (tgt := 29) hx hb zd_Thr_cellAway_18 (by decide) ?_
    exact zl_Thr_cellAway_L29 B hret hlk ((X (r0 + 30) 1) + a1) _ _ _ hP hS (lv_sub hl [] rfl) hf
theorem zC_Thr_cellAway (l : Launch) {D : va_G} {cA : Nat → ClassId} {ad : Nat → Nat} {A : Nat → Prop} {r0 : Nat} {a1 : Int32} {X : IX} {Y : LX} {res : Int32} (hr0 : zu_kd r0 = 6) (hf : fn_Thr_cellAway X r0 a1 = res) : Met l zm_Thr_cellAway (zu_ws zm_Thr_cellAway zb_Thr_cellAway 3 (some .int)) zR_Thr_cellAway (va_Pc [.ref (ad r0), .int a1] (zu_Pre D cA ad A X Y)) (zu_Qi D cA ad A res X Y) 0 0 A := by
  refine Met.ofW (cc := zb_Thr_cellAway) (maxL := 3) (ret := (some .int)) (by decide +kernel) rfl ?_
  intro p e s m args below meth c s₁ B0 hml hv
  obtain ⟨rfl, hP, hST⟩ := hv
  have B : zu_B p s m _ c zb_Thr_cellAway 3 "StonePost$Thrower" D cA ad A := ⟨B0.exec, B0.bytes, hml, findClass_of_methodNamed B0.named, (fun w hw => atoms_spec (ws := zu_ws zm_Thr_cellAway zb_Thr_cellAway 3 (some .int)) B0.pre w (List.mem_cons_of_mem _ hw)), hST⟩
  have hl := lv_entry ([.ref (ad r0), .int a1]) (n := 3) (Nat.le_of_ble_eq_true rfl)
  rw [lg_entry_eq]
  generalize (lg_sl ([.ref (ad r0), .int a1]) ++ List.replicate (3 - (lg_sl ([.ref (ad r0), .int a1])).length) Slot.unset).toArray = ls at hl ⊢
  exact zl_Thr_cellAway B B0.returns B0.notSynchronized s.heap [] ls hP va_S.rf hl hr0 hf
theorem zw_Thr_cellAway {p : Program} {l : Launch} {e : Env} {R : Room} {s : State} {m : MethodId} {args : Array Value} {below : List Frame} {meth : Method} {c : Code} {H : Heap} {locs : List Loc} {cells slots : Nat} {Q : State → Prop} {cc : ByteArray} {pc nL : Nat} {ls : Array Slot} {rest st0 : List Value} {D : va_G} {cA : Nat → ClassId} {ad : Nat → Nat} {A : Nat → Prop} {X : IX} {Y : LX} {own : String} {index : Nat} {r0 : Nat} {a1 : Int32} {v1 : Int32} (B : zu_B p s m args c cc nL own D cA ad A) (hP : va_P D zu_cl (zu_pic cA ad X Y) H) (hS : va_S A s.heap H locs) (hr0 : zu_kd r0 = 6) (hq : fn_Thr_cellAway X r0 a1 = v1) (m1 : Cond.methodLink own index zm_Thr_cellAway ∈ zu_TB) (hR1 : 1 + 1 ≤ R.frames) (hR2 : 8 + (3 + 11) + 21 ≤ R.locals) (hsz : ls.size = nL) (hst : st0 = .int a1 :: .ref (ad r0) :: rest) (hw : (rest.map fun v => v.category).sum ≤ 8) (hdg : decode cc pc = .ok (.invokevirtual index, 3)) (h00 : cells ≤ R.cells ∧ slots ≤ R.slots) (kk : ∀ (H1 : Heap) (locs1 : List Loc), va_P D zu_cl (zu_pic cA ad X Y) H1 → va_S A s.heap H1 locs1 → W p l e R s m args below meth c H1 locs1 cells slots Q (F0 m (pc + 3) ls (.int v1 :: rest))) : W p l e R s m args below meth c H locs cells slots Q (F0 m pc ls st0) := by
  subst hst
  exact zr_cVi (As := [.int a1]) (rest := rest) (n := 1) (C := "StonePost$Thrower") (T := zt_Thr) (N := 1) B hP hS (zC_Thr_cellAway l hr0 hq) (K := 6) hr0 (by decide) (by decide) rfl rfl m1 zq_317 zqP_2 zq_3 zq_318 (by decide +kernel) ⟨hR1, hR2⟩ rfl rfl rfl hsz rfl hw hdg h00 kk
abbrev zR_Thr_toldCell : Room := { frames := 2, cells := 0, slots := 0, locals := 43 }
theorem zd_Thr_toldCell_0 : decode zb_Thr_toldCell 0 = .ok (.aload_n 0, 1) := by decide +kernel
theorem zd_Thr_toldCell_1 : decode zb_Thr_toldCell 1 = .ok (.aload_n 0, 1) := by decide +kernel
theorem zd_Thr_toldCell_2 : decode zb_Thr_toldCell 2 = .ok (.iload_n 1, 1) := by decide +kernel
theorem zd_Thr_toldCell_3 : decode zb_Thr_toldCell 3 = .ok (.iload_n 2, 1) := by decide +kernel
theorem zd_Thr_toldCell_4 : decode zb_Thr_toldCell 4 = .ok (.invokevirtual 47, 3) := by decide +kernel
theorem zd_Thr_toldCell_7 : decode zb_Thr_toldCell 7 = .ok (.invokevirtual 51, 3) := by decide +kernel
theorem zd_Thr_toldCell_10 : decode zb_Thr_toldCell 10 = .ok (.ireturn, 1) := by decide +kernel
set_option maxHeartbeats 4000000 in
theorem zl_Thr_toldCell {p : Program} {l : Launch} {e : Env} {s : State} {m : MethodId} {args : Array Value} {below : List Frame} {meth : Method} {c : Code} {D : va_G} {cA : Nat → ClassId} {ad : Nat → Nat} {A : Nat → Prop} (B : zu_B p s m args c zb_Thr_toldCell 3 "StonePost$Thrower" D cA ad A) (hret : meth.sig.returnType = (some .int)) (hlk : meth.locks = false) {X : IX} {Y : LX} {res : Int32} {r0 : Nat} {a1 : Int32} {a2 : Int32} (H : Heap) (locs : List Loc) (ls : Array Slot) (hP : va_P D zu_cl (zu_pic cA ad X Y) H) (hS : va_S A s.heap H locs) (hl : lv_has ls 3 [(0, .ref (ad r0)), (1, .int a1), (2, .int a2)]) (hr0 : zu_kd r0 = 6) (hf : fn_Thr_toldCell X r0 a1 a2 = res) : W p l e zR_Thr_toldCell s m args below meth c H locs 0 0 (MQ below (zu_Qi D cA ad A res X Y) args s 0 0 A) (F0 m 0 ls []) := by
  obtain ⟨hx, hb, hml, hown, hts, hST⟩ := id B
  unfold fn_Thr_toldCell at hf
  refine lv_aload_n hx hb zd_Thr_toldCell_0 rfl (lv_at hl 0 rfl) ?_
  refine lv_aload_n hx hb zd_Thr_toldCell_1 rfl (lv_at hl 0 rfl) ?_
  refine lv_iload_n hx hb zd_Thr_toldCell_2 rfl (lv_at hl 1 rfl) ?_
  refine lv_iload_n hx hb zd_Thr_toldCell_3 rfl (lv_at hl 2 rfl) ?_
  obtain ⟨v1, ehq2, hf⟩ := zu_nx_e hf
  have hq2 := ehq2.symm
  refine zw_Thr_reach (rest := [.ref (ad r0)]) B hP hS hr0 hq2 zq_314 (Nat.le_of_ble_eq_true rfl) (Nat.le_of_ble_eq_true rfl) hl.1 rfl (Nat.le_of_ble_eq_true rfl) zd_Thr_toldCell_4 (by decide) (fun H locs hP hS => ?_)
  clear hq2 ehq2
  obtain ⟨v3, ehq4, hf⟩ := zu_nx_e hf
  have hq4 := ehq4.symm
  refine zw_Thr_cellAway (rest := []) B hP hS hr0 hq4 zq_315 (Nat.le_of_ble_eq_true rfl) (Nat.le_of_ble_eq_true rfl) hl.1 rfl (Nat.le_of_ble_eq_true rfl) zd_Thr_toldCell_7 (by decide) (fun H locs hP hS => ?_)
  clear hq4 ehq4
  obtain rfl := hf
  exact zr_iret hx hb hret hlk hP hS zd_Thr_toldCell_10
theorem zC_Thr_toldCell (l : Launch) {D : va_G} {cA : Nat → ClassId} {ad : Nat → Nat} {A : Nat → Prop} {r0 : Nat} {a1 : Int32} {a2 : Int32} {X : IX} {Y : LX} {res : Int32} (hr0 : zu_kd r0 = 6) (hf : fn_Thr_toldCell X r0 a1 a2 = res) : Met l zm_Thr_toldCell (zu_ws zm_Thr_toldCell zb_Thr_toldCell 3 (some .int)) zR_Thr_toldCell (va_Pc [.ref (ad r0), .int a1, .int a2] (zu_Pre D cA ad A X Y)) (zu_Qi D cA ad A res X Y) 0 0 A := by
  refine Met.ofW (cc := zb_Thr_toldCell) (maxL := 3) (ret := (some .int)) (by decide +kernel) rfl ?_
  intro p e s m args below meth c s₁ B0 hml hv
  obtain ⟨rfl, hP, hST⟩ := hv
  have B : zu_B p s m _ c zb_Thr_toldCell 3 "StonePost$Thrower" D cA ad A := ⟨B0.exec, B0.bytes, hml, findClass_of_methodNamed B0.named, (fun w hw => atoms_spec (ws := zu_ws zm_Thr_toldCell zb_Thr_toldCell 3 (some .int)) B0.pre w (List.mem_cons_of_mem _ hw)), hST⟩
  have hl := lv_entry ([.ref (ad r0), .int a1, .int a2]) (n := 3) (Nat.le_of_ble_eq_true rfl)
  rw [lg_entry_eq]
  generalize (lg_sl ([.ref (ad r0), .int a1, .int a2]) ++ List.replicate (3 - (lg_sl ([.ref (ad r0), .int a1, .int a2])).length) Slot.unset).toArray = ls at hl ⊢
  exact zl_Thr_toldCell B B0.returns B0.notSynchronized s.heap [] ls hP va_S.rf hl hr0 hf
theorem zw_Thr_toldCell {p : Program} {l : Launch} {e : Env} {R : Room} {s : State} {m : MethodId} {args : Array Value} {below : List Frame} {meth : Method} {c : Code} {H : Heap} {locs : List Loc} {cells slots : Nat} {Q : State → Prop} {cc : ByteArray} {pc nL : Nat} {ls : Array Slot} {rest st0 : List Value} {D : va_G} {cA : Nat → ClassId} {ad : Nat → Nat} {A : Nat → Prop} {X : IX} {Y : LX} {own : String} {index : Nat} {r0 : Nat} {a1 : Int32} {a2 : Int32} {v1 : Int32} (B : zu_B p s m args c cc nL own D cA ad A) (hP : va_P D zu_cl (zu_pic cA ad X Y) H) (hS : va_S A s.heap H locs) (hr0 : zu_kd r0 = 6) (hq : fn_Thr_toldCell X r0 a1 a2 = v1) (m1 : Cond.methodLink own index zm_Thr_toldCell ∈ zu_TB) (hR1 : 2 + 1 ≤ R.frames) (hR2 : 8 + (3 + 11) + 43 ≤ R.locals) (hsz : ls.size = nL) (hst : st0 = .int a2 :: .int a1 :: .ref (ad r0) :: rest) (hw : (rest.map fun v => v.category).sum ≤ 8) (hdg : decode cc pc = .ok (.invokevirtual index, 3)) (h00 : cells ≤ R.cells ∧ slots ≤ R.slots) (kk : ∀ (H1 : Heap) (locs1 : List Loc), va_P D zu_cl (zu_pic cA ad X Y) H1 → va_S A s.heap H1 locs1 → W p l e R s m args below meth c H1 locs1 cells slots Q (F0 m (pc + 3) ls (.int v1 :: rest))) : W p l e R s m args below meth c H locs cells slots Q (F0 m pc ls st0) := by
  subst hst
  exact zr_cVi (As := [.int a1, .int a2]) (rest := rest) (n := 2) (C := "StonePost$Thrower") (T := zt_Thr) (N := 1) B hP hS (zC_Thr_toldCell l hr0 hq) (K := 6) hr0 (by decide) (by decide) rfl rfl m1 zq_323 zq_324 zq_3 zq_325 (by decide +kernel) ⟨hR1, hR2⟩ rfl rfl rfl hsz rfl hw hdg h00 kk
abbrev zR_Thr_shortCell : Room := { frames := 2, cells := 0, slots := 0, locals := 43 }
theorem zd_Thr_shortCell_0 : decode zb_Thr_shortCell 0 = .ok (.aload_n 0, 1) := by decide +kernel
theorem zd_Thr_shortCell_1 : decode zb_Thr_shortCell 1 = .ok (.iconst 0, 1) := by decide +kernel
theorem zd_Thr_shortCell_2 : decode zb_Thr_shortCell 2 = .ok (.aload_n 0, 1) := by decide +kernel
theorem zd_Thr_shortCell_3 : decode zb_Thr_shortCell 3 = .ok (.iload_n 1, 1) := by decide +kernel
theorem zd_Thr_shortCell_4 : decode zb_Thr_shortCell 4 = .ok (.iload_n 2, 1) := by decide +kernel
theorem zd_Thr_shortCell_5 : decode zb_Thr_shortCell 5 = .ok (.invokevirtual 47, 3) := by decide +kernel
theorem zd_Thr_shortCell_8 : decode zb_Thr_shortCell 8 = .ok (.iconst 1, 1) := by decide +kernel
theorem zd_Thr_shortCell_9 : decode zb_Thr_shortCell 9 = .ok (.isub, 1) := by decide +kernel
theorem zd_Thr_shortCell_10 : decode zb_Thr_shortCell 10 = .ok (.invokestatic 41, 3) := by decide +kernel
theorem zd_Thr_shortCell_13 : decode zb_Thr_shortCell 13 = .ok (.invokevirtual 51, 3) := by decide +kernel
theorem zd_Thr_shortCell_16 : decode zb_Thr_shortCell 16 = .ok (.ireturn, 1) := by decide +kernel
set_option maxHeartbeats 4000000 in
theorem zl_Thr_shortCell {p : Program} {l : Launch} {e : Env} {s : State} {m : MethodId} {args : Array Value} {below : List Frame} {meth : Method} {c : Code} {D : va_G} {cA : Nat → ClassId} {ad : Nat → Nat} {A : Nat → Prop} (B : zu_B p s m args c zb_Thr_shortCell 3 "StonePost$Thrower" D cA ad A) (hret : meth.sig.returnType = (some .int)) (hlk : meth.locks = false) {X : IX} {Y : LX} {res : Int32} {r0 : Nat} {a1 : Int32} {a2 : Int32} (H : Heap) (locs : List Loc) (ls : Array Slot) (hP : va_P D zu_cl (zu_pic cA ad X Y) H) (hS : va_S A s.heap H locs) (hl : lv_has ls 3 [(0, .ref (ad r0)), (1, .int a1), (2, .int a2)]) (hr0 : zu_kd r0 = 6) (hf : fn_Thr_shortCell X r0 a1 a2 = res) : W p l e zR_Thr_shortCell s m args below meth c H locs 0 0 (MQ below (zu_Qi D cA ad A res X Y) args s 0 0 A) (F0 m 0 ls []) := by
  obtain ⟨hx, hb, hml, hown, hts, hST⟩ := id B
  unfold fn_Thr_shortCell at hf
  refine lv_aload_n hx hb zd_Thr_shortCell_0 rfl (lv_at hl 0 rfl) ?_
  refine lv_iconst (v := 0) hx hb zd_Thr_shortCell_1 (by decide) ?_
  refine lv_aload_n hx hb zd_Thr_shortCell_2 rfl (lv_at hl 0 rfl) ?_
  refine lv_iload_n hx hb zd_Thr_shortCell_3 rfl (lv_at hl 1 rfl) ?_
  refine lv_iload_n hx hb zd_Thr_shortCell_4 rfl (lv_at hl 2 rfl) ?_
  obtain ⟨v1, ehq2, hf⟩ := zu_nx_e hf
  have hq2 := ehq2.symm
  refine zw_Thr_reach (rest := [.int (0 : Int32), .ref (ad r0)]) B hP hS hr0 hq2 zq_314 (Nat.le_of_ble_eq_true rfl) (Nat.le_of_ble_eq_true rfl) hl.1 rfl (Nat.le_of_ble_eq_true rfl) zd_Thr_shortCell_5 (by decide) (fun H locs hP hS => ?_)
  clear hq2 ehq2
  refine lv_iconst (v := 1) hx hb zd_Thr_shortCell_8 (by decide) ?_
  refine lv_isub hx hb zd_Thr_shortCell_9 ?_
  refine va_mmax hx hb (hml.trans hl.1.symm) hown (hts _ zq_303) (hts _ zq_304) (hts _ zq_10) (hts _ zq_305) (by decide) (Nat.le_of_ble_eq_true rfl) (by decide) (by decide) zd_Thr_shortCell_10 ?_
  refine zr_nxi hf (fun v3 hf => ?_)
  obtain ⟨v4, ehq5, hf⟩ := zu_nx_e hf
  have hq5 := ehq5.symm
  refine zw_Thr_cellAway (rest := []) B hP hS hr0 hq5 zq_315 (Nat.le_of_ble_eq_true rfl) (Nat.le_of_ble_eq_true rfl) hl.1 rfl (Nat.le_of_ble_eq_true rfl) zd_Thr_shortCell_13 (by decide) (fun H locs hP hS => ?_)
  clear hq5 ehq5
  obtain rfl := hf
  exact zr_iret hx hb hret hlk hP hS zd_Thr_shortCell_16
theorem zC_Thr_shortCell (l : Launch) {D : va_G} {cA : Nat → ClassId} {ad : Nat → Nat} {A : Nat → Prop} {r0 : Nat} {a1 : Int32} {a2 : Int32} {X : IX} {Y : LX} {res : Int32} (hr0 : zu_kd r0 = 6) (hf : fn_Thr_shortCell X r0 a1 a2 = res) : Met l zm_Thr_shortCell (zu_ws zm_Thr_shortCell zb_Thr_shortCell 3 (some .int)) zR_Thr_shortCell (va_Pc [.ref (ad r0), .int a1, .int a2] (zu_Pre D cA ad A X Y)) (zu_Qi D cA ad A res X Y) 0 0 A := by
  refine Met.ofW (cc := zb_Thr_shortCell) (maxL := 3) (ret := (some .int)) (by decide +kernel) rfl ?_
  intro p e s m args below meth c s₁ B0 hml hv
  obtain ⟨rfl, hP, hST⟩ := hv
  have B : zu_B p s m _ c zb_Thr_shortCell 3 "StonePost$Thrower" D cA ad A := ⟨B0.exec, B0.bytes, hml, findClass_of_methodNamed B0.named, (fun w hw => atoms_spec (ws := zu_ws zm_Thr_shortCell zb_Thr_shortCell 3 (some .int)) B0.pre w (List.mem_cons_of_mem _ hw)), hST⟩
  have hl := lv_entry ([.ref (ad r0), .int a1, .int a2]) (n := 3) (Nat.le_of_ble_eq_true rfl)
  rw [lg_entry_eq]
  generalize (lg_sl ([.ref (ad r0), .int a1, .int a2]) ++ List.replicate (3 - (lg_sl ([.ref (ad r0), .int a1, .int a2])).length) Slot.unset).toArray = ls at hl ⊢
  exact zl_Thr_shortCell B B0.returns B0.notSynchronized s.heap [] ls hP va_S.rf hl hr0 hf
theorem zw_Thr_shortCell {p : Program} {l : Launch} {e : Env} {R : Room} {s : State} {m : MethodId} {args : Array Value} {below : List Frame} {meth : Method} {c : Code} {H : Heap} {locs : List Loc} {cells slots : Nat} {Q : State → Prop} {cc : ByteArray} {pc nL : Nat} {ls : Array Slot} {rest st0 : List Value} {D : va_G} {cA : Nat → ClassId} {ad : Nat → Nat} {A : Nat → Prop} {X : IX} {Y : LX} {own : String} {index : Nat} {r0 : Nat} {a1 : Int32} {a2 : Int32} {v1 : Int32} (B : zu_B p s m args c cc nL own D cA ad A) (hP : va_P D zu_cl (zu_pic cA ad X Y) H) (hS : va_S A s.heap H locs) (hr0 : zu_kd r0 = 6) (hq : fn_Thr_shortCell X r0 a1 a2 = v1) (m1 : Cond.methodLink own index zm_Thr_shortCell ∈ zu_TB) (hR1 : 2 + 1 ≤ R.frames) (hR2 : 8 + (3 + 11) + 43 ≤ R.locals) (hsz : ls.size = nL) (hst : st0 = .int a2 :: .int a1 :: .ref (ad r0) :: rest) (hw : (rest.map fun v => v.category).sum ≤ 8) (hdg : decode cc pc = .ok (.invokevirtual index, 3)) (h00 : cells ≤ R.cells ∧ slots ≤ R.slots) (kk : ∀ (H1 : Heap) (locs1 : List Loc), va_P D zu_cl (zu_pic cA ad X Y) H1 → va_S A s.heap H1 locs1 → W p l e R s m args below meth c H1 locs1 cells slots Q (F0 m (pc + 3) ls (.int v1 :: rest))) : W p l e R s m args below meth c H locs cells slots Q (F0 m pc ls st0) := by
  subst hst
  exact zr_cVi (As := [.int a1, .int a2]) (rest := rest) (n := 2) (C := "StonePost$Thrower") (T := zt_Thr) (N := 1) B hP hS (zC_Thr_shortCell l hr0 hq) (K := 6) hr0 (by decide) (by decide) rfl rfl m1 zq_311 zq_312 zq_3 zq_313 (by decide +kernel) ⟨hR1, hR2⟩ rfl rfl rfl hsz rfl hw hdg h00 kk
abbrev zR_Post_falls : Room := { frames := 3, cells := 0, slots := 0, locals := 65 }
theorem zd_Post_falls_0 : decode zb_Post_falls 0 = .ok (.aload_n 0, 1) := by decide +kernel
theorem zd_Post_falls_1 : decode zb_Post_falls 1 = .ok (.iload_n 1, 1) := by decide +kernel
theorem zd_Post_falls_2 : decode zb_Post_falls 2 = .ok (.invokevirtual 82, 3) := by decide +kernel
theorem zd_Post_falls_5 : decode zb_Post_falls 5 = .ok (.ifCond .eq 11, 3) := by decide +kernel
theorem zd_Post_falls_8 : decode zb_Post_falls 8 = .ok (.iload_n 2, 1) := by decide +kernel
theorem zd_Post_falls_9 : decode zb_Post_falls 9 = .ok (.iload_n 3, 1) := by decide +kernel
theorem zd_Post_falls_10 : decode zb_Post_falls 10 = .ok (.invokestatic 98, 3) := by decide +kernel
theorem zd_Post_falls_13 : decode zb_Post_falls 13 = .ok (.ifCond .ne 10, 3) := by decide +kernel
theorem zd_Post_falls_16 : decode zb_Post_falls 16 = .ok (.aload_n 0, 1) := by decide +kernel
theorem zd_Post_falls_17 : decode zb_Post_falls 17 = .ok (.ldc 55, 2) := by decide +kernel
theorem zd_Post_falls_19 : decode zb_Post_falls 19 = .ok (.invokevirtual 56, 3) := by decide +kernel
theorem zd_Post_falls_22 : decode zb_Post_falls 22 = .ok (.ireturn, 1) := by decide +kernel
theorem zd_Post_falls_23 : decode zb_Post_falls 23 = .ok (.aload_n 0, 1) := by decide +kernel
theorem zd_Post_falls_24 : decode zb_Post_falls 24 = .ok (.getfield 10, 3) := by decide +kernel
theorem zd_Post_falls_27 : decode zb_Post_falls 27 = .ok (.getfield 87, 3) := by decide +kernel
theorem zd_Post_falls_30 : decode zb_Post_falls 30 = .ok (.iload_n 1, 1) := by decide +kernel
theorem zd_Post_falls_31 : decode zb_Post_falls 31 = .ok (.aaload, 1) := by decide +kernel
theorem zd_Post_falls_32 : decode zb_Post_falls 32 = .ok (.astore 5, 2) := by decide +kernel
theorem zd_Post_falls_34 : decode zb_Post_falls 34 = .ok (.iload 4, 2) := by decide +kernel
theorem zd_Post_falls_36 : decode zb_Post_falls 36 = .ok (.ifCond .eq 16, 3) := by decide +kernel
theorem zd_Post_falls_39 : decode zb_Post_falls 39 = .ok (.aload 5, 2) := by decide +kernel
theorem zd_Post_falls_41 : decode zb_Post_falls 41 = .ok (.iload_n 2, 1) := by decide +kernel
theorem zd_Post_falls_42 : decode zb_Post_falls 42 = .ok (.iload_n 3, 1) := by decide +kernel
theorem zd_Post_falls_43 : decode zb_Post_falls 43 = .ok (.invokestatic 101, 3) := by decide +kernel
theorem zd_Post_falls_46 : decode zb_Post_falls 46 = .ok (.invokevirtual 111, 3) := by decide +kernel
theorem zd_Post_falls_49 : decode zb_Post_falls 49 = .ok (.goto 13, 3) := by decide +kernel
theorem zd_Post_falls_52 : decode zb_Post_falls 52 = .ok (.aload 5, 2) := by decide +kernel
theorem zd_Post_falls_54 : decode zb_Post_falls 54 = .ok (.iload_n 2, 1) := by decide +kernel
theorem zd_Post_falls_55 : decode zb_Post_falls 55 = .ok (.iload_n 3, 1) := by decide +kernel
theorem zd_Post_falls_56 : decode zb_Post_falls 56 = .ok (.invokestatic 101, 3) := by decide +kernel
theorem zd_Post_falls_59 : decode zb_Post_falls 59 = .ok (.invokevirtual 114, 3) := by decide +kernel
theorem zd_Post_falls_62 : decode zb_Post_falls 62 = .ok (.ireturn, 1) := by decide +kernel
set_option maxHeartbeats 4000000 in
theorem zl_Post_falls_L62 {p : Program} {l : Launch} {e : Env} {s : State} {m : MethodId} {args : Array Value} {below : List Frame} {meth : Method} {c : Code} {D : va_G} {cA : Nat → ClassId} {ad : Nat → Nat} {A : Nat → Prop} (B : zu_B p s m args c zb_Post_falls 6 "StonePost" D cA ad A) (hret : meth.sig.returnType = (some .int)) (hlk : meth.locks = false) {Y : LX} {res : Int32 × IX} (y0 : Int32) (X : IX) (H : Heap) (locs : List Loc) (ls : Array Slot) (hP : va_P D zu_cl (zu_pic cA ad X Y) H) (hS : va_S A s.heap H locs) (hl : lv_has ls 6 []) (hf : fn_Post_falls_L62 y0 X = some res) : W p l e zR_Post_falls s m args below meth c H locs 0 0 (MQ below (zu_Qi D cA ad A res.1 res.2 Y) args s 0 0 A) (F0 m 62 ls [.int y0]) := by
  obtain ⟨hx, hb, hml, hown, hts, hST⟩ := id B
  unfold fn_Post_falls_L62 at hf
  obtain rfl := Option.some.inj hf
  exact zr_iret hx hb hret hlk hP hS zd_Post_falls_62
set_option maxHeartbeats 4000000 in
theorem zl_Post_falls_L16 {p : Program} {l : Launch} {e : Env} {s : State} {m : MethodId} {args : Array Value} {below : List Frame} {meth : Method} {c : Code} {D : va_G} {cA : Nat → ClassId} {ad : Nat → Nat} {A : Nat → Prop} (B : zu_B p s m args c zb_Post_falls 6 "StonePost" D cA ad A) (hret : meth.sig.returnType = (some .int)) (hlk : meth.locks = false) {Y : LX} {res : Int32 × IX} (X : IX) (H : Heap) (locs : List Loc) (ls : Array Slot) (hP : va_P D zu_cl (zu_pic cA ad X Y) H) (hS : va_S A s.heap H locs) (hl : lv_has ls 6 [(0, .ref (ad 0))]) (hf : fn_Post_falls_L16 X = some res) : W p l e zR_Post_falls s m args below meth c H locs 0 0 (MQ below (zu_Qi D cA ad A res.1 res.2 Y) args s 0 0 A) (F0 m 16 ls []) := by
  obtain ⟨hx, hb, hml, hown, hts, hST⟩ := id B
  unfold fn_Post_falls_L16 at hf
  refine lv_aload_n hx hb zd_Post_falls_16 rfl (lv_at hl 0 rfl) ?_
  refine lv_ldc (v := -1000001) hx hb hown (hts _ zq_226) zd_Post_falls_17 ?_
  obtain ⟨v17, X18, hq19, hf⟩ := zu_b2_e hf
  refine zw_Post_finding (rest := []) B hP hS hq19 zq_227 (Nat.le_of_ble_eq_true rfl) (Nat.le_of_ble_eq_true rfl) hl.1 rfl (Nat.le_of_ble_eq_true rfl) zd_Post_falls_19 (by decide) (fun H locs hP hS => ?_)
  clear hq19
  obtain rfl := Option.some.inj hf
  exact zr_iret hx hb hret hlk hP hS zd_Post_falls_22
set_option maxHeartbeats 4000000 in
theorem zl_Post_falls {p : Program} {l : Launch} {e : Env} {s : State} {m : MethodId} {args : Array Value} {below : List Frame} {meth : Method} {c : Code} {D : va_G} {cA : Nat → ClassId} {ad : Nat → Nat} {A : Nat → Prop} (B : zu_B p s m args c zb_Post_falls 6 "StonePost" D cA ad A) (hret : meth.sig.returnType = (some .int)) (hlk : meth.locks = false) {Y : LX} {res : Int32 × IX} {a1 : Int32} {a2 : Int32} {a3 : Int32} {a4 : Int32} {X : IX} (H : Heap) (locs : List Loc) (ls : Array Slot) (hP : va_P D zu_cl (zu_pic cA ad X Y) H) (hS : va_S A s.heap H locs) (hl : lv_has ls 6 [(0, .ref (ad 0)), (1, .int a1), (2, .int a2), (3, .int a3), (4, .int a4)]) (hf : fn_Post_falls a1 a2 a3 a4 X = some res) : W p l e zR_Post_falls s m args below meth c H locs 0 0 (MQ below (zu_Qi D cA ad A res.1 res.2 Y) args s 0 0 A) (F0 m 0 ls []) := by
  obtain ⟨hx, hb, hml, hown, hts, hST⟩ := id B
  unfold fn_Post_falls at hf
  refine lv_aload_n hx hb zd_Post_falls_0 rfl (lv_at hl 0 rfl) ?_
  refine lv_iload_n hx hb zd_Post_falls_1 rfl (lv_at hl 1 rfl) ?_
  obtain ⟨v1, hq2, hf⟩ := zu_b1_e hf
  refine zw_Post_isThrower (rest := []) B hP hS hq2 zq_265 (Nat.le_of_ble_eq_true rfl) (Nat.le_of_ble_eq_true rfl) hl.1 rfl (Nat.le_of_ble_eq_true rfl) zd_Post_falls_2 (by decide) (fun H locs hP hS => ?_)
  clear hq2
  refine lv_if_eq (tgt := 16) hx hb zd_Post_falls_5 (by decide) (fun c3 => ?_) (fun c3 => ?_)
  · have hf := zu_t c3 hf
    exact zl_Post_falls_L16 B hret hlk X _ _ _ hP hS (lv_sub hl [0] rfl) hf
  · have hf := zu_f c3 hf
    refine lv_iload_n hx hb zd_Post_falls_8 rfl (lv_at hl 2 rfl) ?_
    refine lv_iload_n hx hb zd_Post_falls_9 rfl (lv_at hl 3 rfl) ?_
    obtain ⟨v4, hq5, hf⟩ := zu_b1_e hf
    refine zw_Post_isThrow (rest := []) B hP hS hq5 zq_289 (Nat.le_of_ble_eq_true rfl) (Nat.le_of_ble_eq_true rfl) hl.1 rfl (Nat.le_of_ble_eq_true rfl) zd_Post_falls_10 (by decide) (fun H locs hP hS => ?_)
    clear hq5
    refine lv_if_ne (tgt := 23) hx hb zd_Post_falls_13 (by decide) (fun c6 => ?_) (fun c6 => ?_)
    · have hf := zu_f c6 hf
      refine lv_aload_n hx hb zd_Post_falls_23 rfl (lv_at hl 0 rfl) ?_
      refine zg_Post_land B hP rfl zq_191 zd_Post_falls_24 ?_
      refine zg_Land_throwers B hP rfl zq_55 zd_Post_falls_27 ?_
      refine lv_iload_n hx hb zd_Post_falls_30 rfl (lv_at hl 1 rfl) ?_
      obtain ⟨hg7, hf⟩ := zu_gd_e hf
      refine zr_thr rfl B hP (zk_Land_throwers rfl) hg7 zd_Post_falls_31 ?_
      refine lv_astore (lv' := [(5, .ref (ad (zu_th (20 + 6) (a1.toNatClampNeg)))), (0, .ref (ad 0)), (1, .int a1), (2, .int a2), (3, .int a3), (4, .int a4)]) hx hb zd_Post_falls_32 hl (by decide) rfl (fun ls hl => ?_)
      refine lv_iload hx hb zd_Post_falls_34 (lv_at hl 5 rfl) ?_
      refine lv_if_eq (tgt := 52) hx hb zd_Post_falls_36 (by decide) (fun c8 => ?_) (fun c8 => ?_)
      · have hf := zu_t c8 hf
        refine lv_aload hx hb zd_Post_falls_52 (lv_at hl 0 rfl) ?_
        refine lv_iload_n hx hb zd_Post_falls_54 rfl (lv_at hl 3 rfl) ?_
        refine lv_iload_n hx hb zd_Post_falls_55 rfl (lv_at hl 4 rfl) ?_
        obtain ⟨v9, hq10, hf⟩ := zu_b1_e hf
        refine zw_Post_isNight (rest := [.int a2, .ref (ad (zu_th (20 + 6) (a1.toNatClampNeg)))]) B hP hS hq10 zq_292 (Nat.le_of_ble_eq_true rfl) (Nat.le_of_ble_eq_true rfl) hl.1 rfl (Nat.le_of_ble_eq_true rfl) zd_Post_falls_56 (by decide) (fun H locs hP hS => ?_)
        clear hq10
        obtain ⟨v11, ehq12, hf⟩ := zu_nx_e hf
        have hq12 := ehq12.symm
        refine zw_Thr_toldCell (rest := []) B hP hS (zk_thr (zk_Land_throwers rfl) (zu_ib_lt hg7)) hq12 zq_322 (Nat.le_of_ble_eq_true rfl) (Nat.le_of_ble_eq_true rfl) hl.1 rfl (Nat.le_of_ble_eq_true rfl) zd_Post_falls_59 (by decide) (fun H locs hP hS => ?_)
        clear hq12 ehq12
        exact zl_Post_falls_L62 B hret hlk v11 X _ _ _ hP hS (lv_sub hl [] rfl) hf
      · have hf := zu_f c8 hf
        refine lv_aload hx hb zd_Post_falls_39 (lv_at hl 0 rfl) ?_
        refine lv_iload_n hx hb zd_Post_falls_41 rfl (lv_at hl 3 rfl) ?_
        refine lv_iload_n hx hb zd_Post_falls_42 rfl (lv_at hl 4 rfl) ?_
        obtain ⟨v13, hq14, hf⟩ := zu_b1_e hf
        refine zw_Post_isNight (rest := [.int a2, .ref (ad (zu_th (20 + 6) (a1.toNatClampNeg)))]) B hP hS hq14 zq_292 (Nat.le_of_ble_eq_true rfl) (Nat.le_of_ble_eq_true rfl) hl.1 rfl (Nat.le_of_ble_eq_true rfl) zd_Post_falls_43 (by decide) (fun H locs hP hS => ?_)
        clear hq14
        obtain ⟨v15, ehq16, hf⟩ := zu_nx_e hf
        have hq16 := ehq16.symm
        refine zw_Thr_shortCell (rest := []) B hP hS (zk_thr (zk_Land_throwers rfl) (zu_ib_lt hg7)) hq16 zq_310 (Nat.le_of_ble_eq_true rfl) (Nat.le_of_ble_eq_true rfl) hl.1 rfl (Nat.le_of_ble_eq_true rfl) zd_Post_falls_46 (by decide) (fun H locs hP hS => ?_)
        clear hq16 ehq16
        refine lv_goto (tgt := 62) hx hb zd_Post_falls_49 (by decide) ?_
        exact zl_Post_falls_L62 B hret hlk v15 X _ _ _ hP hS (lv_sub hl [] rfl) hf
    · have hf := zu_t c6 hf
      exact zl_Post_falls_L16 B hret hlk X _ _ _ hP hS (lv_sub hl [0] rfl) hf
theorem zC_Post_falls (l : Launch) {D : va_G} {cA : Nat → ClassId} {ad : Nat → Nat} {A : Nat → Prop} {a1 : Int32} {a2 : Int32} {a3 : Int32} {a4 : Int32} {X : IX} {Y : LX} {res : Int32 × IX} (hf : fn_Post_falls a1 a2 a3 a4 X = some res) : Met l zm_Post_falls (zu_ws zm_Post_falls zb_Post_falls 6 (some .int)) zR_Post_falls (va_Pc [.ref (ad 0), .int a1, .int a2, .int a3, .int a4] (zu_Pre D cA ad A X Y)) (zu_Qi D cA ad A res.1 res.2 Y) 0 0 A := by
  refine Met.ofW (cc := zb_Post_falls) (maxL := 6) (ret := (some .int)) (by decide +kernel) rfl ?_
  intro p e s m args below meth c s₁ B0 hml hv
  obtain ⟨rfl, hP, hST⟩ := hv
  have B : zu_B p s m _ c zb_Post_falls 6 "StonePost" D cA ad A := ⟨B0.exec, B0.bytes, hml, findClass_of_methodNamed B0.named, (fun w hw => atoms_spec (ws := zu_ws zm_Post_falls zb_Post_falls 6 (some .int)) B0.pre w (List.mem_cons_of_mem _ hw)), hST⟩
  have hl := lv_entry ([.ref (ad 0), .int a1, .int a2, .int a3, .int a4]) (n := 6) (Nat.le_of_ble_eq_true rfl)
  rw [lg_entry_eq]
  generalize (lg_sl ([.ref (ad 0), .int a1, .int a2, .int a3, .int a4]) ++ List.replicate (6 - (lg_sl ([.ref (ad 0), .int a1, .int a2, .int a3, .int a4])).length) Slot.unset).toArray = ls at hl ⊢
  exact zl_Post_falls B B0.returns B0.notSynchronized s.heap [] ls hP va_S.rf hl  hf
theorem zw_Post_falls {p : Program} {l : Launch} {e : Env} {R : Room} {s : State} {m : MethodId} {args : Array Value} {below : List Frame} {meth : Method} {c : Code} {H : Heap} {locs : List Loc} {cells slots : Nat} {Q : State → Prop} {cc : ByteArray} {pc nL : Nat} {ls : Array Slot} {rest st0 : List Value} {D : va_G} {cA : Nat → ClassId} {ad : Nat → Nat} {A : Nat → Prop} {X : IX} {Y : LX} {own : String} {index : Nat} {a1 : Int32} {a2 : Int32} {a3 : Int32} {a4 : Int32} {v1 : Int32} {X1 : IX} (B : zu_B p s m args c cc nL own D cA ad A) (hP : va_P D zu_cl (zu_pic cA ad X Y) H) (hS : va_S A s.heap H locs) (hq : fn_Post_falls a1 a2 a3 a4 X = some (v1, X1)) (m1 : Cond.methodLink own index zm_Post_falls ∈ zu_TB) (hR1 : 3 + 1 ≤ R.frames) (hR2 : 8 + (6 + 11) + 65 ≤ R.locals) (hsz : ls.size = nL) (hst : st0 = .int a4 :: .int a3 :: .int a2 :: .int a1 :: .ref (ad 0) :: rest) (hw : (rest.map fun v => v.category).sum ≤ 8) (hdg : decode cc pc = .ok (.invokevirtual index, 3)) (h00 : cells ≤ R.cells ∧ slots ≤ R.slots) (kk : ∀ (H1 : Heap) (locs1 : List Loc), va_P D zu_cl (zu_pic cA ad X1 Y) H1 → va_S A s.heap H1 locs1 → W p l e R s m args below meth c H1 locs1 cells slots Q (F0 m (pc + 3) ls (.int v1 :: rest))) : W p l e R s m args below meth c H locs cells slots Q (F0 m pc ls st0) := by
  subst hst
  exact zr_cVi (As := [.int a1, .int a2, .int a3, .int a4]) (rest := rest) (n := 4) (C := "StonePost") (T := zt_Post) (N := 8) B hP hS (zC_Post_falls l  hq) (K := 1) rfl (by decide) (by decide) rfl rfl m1 zq_307 zq_308 zq_1 zq_309 (by decide +kernel) ⟨hR1, hR2⟩ rfl rfl rfl hsz rfl hw hdg h00 kk
abbrev zR_Land_placeSort : Room := { frames := 0, cells := 0, slots := 0, locals := 0 }
theorem zd_Land_placeSort_0 : decode zb_Land_placeSort 0 = .ok (.iload_n 1, 1) := by decide +kernel
theorem zd_Land_placeSort_1 : decode zb_Land_placeSort 1 = .ok (.aload_n 0, 1) := by decide +kernel
theorem zd_Land_placeSort_2 : decode zb_Land_placeSort 2 = .ok (.getfield 27, 3) := by decide +kernel
theorem zd_Land_placeSort_5 : decode zb_Land_placeSort 5 = .ok (.if_icmp .ne 5, 3) := by decide +kernel
theorem zd_Land_placeSort_8 : decode zb_Land_placeSort 8 = .ok (.iconst 0, 1) := by decide +kernel
theorem zd_Land_placeSort_9 : decode zb_Land_placeSort 9 = .ok (.ireturn, 1) := by decide +kernel
theorem zd_Land_placeSort_10 : decode zb_Land_placeSort 10 = .ok (.aload_n 0, 1) := by decide +kernel
theorem zd_Land_placeSort_11 : decode zb_Land_placeSort 11 = .ok (.getfield 9, 3) := by decide +kernel
theorem zd_Land_placeSort_14 : decode zb_Land_placeSort 14 = .ok (.iload_n 1, 1) := by decide +kernel
theorem zd_Land_placeSort_15 : decode zb_Land_placeSort 15 = .ok (.iaload, 1) := by decide +kernel
theorem zd_Land_placeSort_16 : decode zb_Land_placeSort 16 = .ok (.iconst 1, 1) := by decide +kernel
theorem zd_Land_placeSort_17 : decode zb_Land_placeSort 17 = .ok (.if_icmp .ne 7, 3) := by decide +kernel
theorem zd_Land_placeSort_20 : decode zb_Land_placeSort 20 = .ok (.iconst 1, 1) := by decide +kernel
theorem zd_Land_placeSort_21 : decode zb_Land_placeSort 21 = .ok (.goto 4, 3) := by decide +kernel
theorem zd_Land_placeSort_24 : decode zb_Land_placeSort 24 = .ok (.iconst 2, 1) := by decide +kernel
theorem zd_Land_placeSort_25 : decode zb_Land_placeSort 25 = .ok (.ireturn, 1) := by decide +kernel
set_option maxHeartbeats 4000000 in
theorem zl_Land_placeSort_L25 {p : Program} {l : Launch} {e : Env} {s : State} {m : MethodId} {args : Array Value} {below : List Frame} {meth : Method} {c : Code} {D : va_G} {cA : Nat → ClassId} {ad : Nat → Nat} {A : Nat → Prop} (B : zu_B p s m args c zb_Land_placeSort 2 "StonePost$Land" D cA ad A) (hret : meth.sig.returnType = (some .int)) (hlk : meth.locks = false) {X : IX} {Y : LX} {res : Int32} (y0 : Int32) (H : Heap) (locs : List Loc) (ls : Array Slot) (hP : va_P D zu_cl (zu_pic cA ad X Y) H) (hS : va_S A s.heap H locs) (hl : lv_has ls 2 []) (hf : fn_Land_placeSort_L25 X y0 = some res) : W p l e zR_Land_placeSort s m args below meth c H locs 0 0 (MQ below (zu_Qi D cA ad A res X Y) args s 0 0 A) (F0 m 25 ls [.int y0]) := by
  obtain ⟨hx, hb, hml, hown, hts, hST⟩ := id B
  unfold fn_Land_placeSort_L25 at hf
  obtain rfl := Option.some.inj hf
  exact zr_iret hx hb hret hlk hP hS zd_Land_placeSort_25
set_option maxHeartbeats 4000000 in
theorem zl_Land_placeSort {p : Program} {l : Launch} {e : Env} {s : State} {m : MethodId} {args : Array Value} {below : List Frame} {meth : Method} {c : Code} {D : va_G} {cA : Nat → ClassId} {ad : Nat → Nat} {A : Nat → Prop} (B : zu_B p s m args c zb_Land_placeSort 2 "StonePost$Land" D cA ad A) (hret : meth.sig.returnType = (some .int)) (hlk : meth.locks = false) {X : IX} {Y : LX} {res : Int32} {r0 : Nat} {a1 : Int32} (H : Heap) (locs : List Loc) (ls : Array Slot) (hP : va_P D zu_cl (zu_pic cA ad X Y) H) (hS : va_S A s.heap H locs) (hl : lv_has ls 2 [(0, .ref (ad r0)), (1, .int a1)]) (hr0 : zu_kd r0 = 5) (hf : fn_Land_placeSort X r0 a1 = some res) : W p l e zR_Land_placeSort s m args below meth c H locs 0 0 (MQ below (zu_Qi D cA ad A res X Y) args s 0 0 A) (F0 m 0 ls []) := by
  obtain ⟨hx, hb, hml, hown, hts, hST⟩ := id B
  unfold fn_Land_placeSort at hf
  refine lv_iload_n hx hb zd_Land_placeSort_0 rfl (lv_at hl 1 rfl) ?_
  refine lv_aload_n hx hb zd_Land_placeSort_1 rfl (lv_at hl 0 rfl) ?_
  refine zg_Land_home B hP hr0 zq_67 zd_Land_placeSort_2 ?_
  refine lv_icmp_ne (tgt := 10) hx hb zd_Land_placeSort_5 (by decide) (fun c1 => ?_) (fun c1 => ?_)
  · have hf := zu_f c1 hf
    refine lv_aload_n hx hb zd_Land_placeSort_10 rfl (lv_at hl 0 rfl) ?_
    refine zg_Land_stuffs B hP hr0 zq_50 zd_Land_placeSort_11 ?_
    refine lv_iload_n hx hb zd_Land_placeSort_14 rfl (lv_at hl 1 rfl) ?_
    obtain ⟨hg2, hf⟩ := zu_gd_e hf
    refine zr_iald rfl B hP (zk_Land_stuffs hr0) (by decide) rfl hg2 zd_Land_placeSort_15 ?_
    refine lv_iconst (v := 1) hx hb zd_Land_placeSort_16 (by decide) ?_
    refine lv_icmp_ne (tgt := 24) hx hb zd_Land_placeSort_17 (by decide) (fun c3 => ?_) (fun c3 => ?_)
    · have hf := zu_f c3 hf
      refine lv_iconst (v := 2) hx hb zd_Land_placeSort_24 (by decide) ?_
      exact zl_Land_placeSort_L25 B hret hlk (2 : Int32) _ _ _ hP hS (lv_sub hl [] rfl) hf
    · have hf := zu_t c3 hf
      refine lv_iconst (v := 1) hx hb zd_Land_placeSort_20 (by decide) ?_
      refine lv_goto (tgt := 25) hx hb zd_Land_placeSort_21 (by decide) ?_
      exact zl_Land_placeSort_L25 B hret hlk (1 : Int32) _ _ _ hP hS (lv_sub hl [] rfl) hf
  · have hf := zu_t c1 hf
    refine lv_iconst (v := 0) hx hb zd_Land_placeSort_8 (by decide) ?_
    obtain rfl := Option.some.inj hf
    exact zr_iret hx hb hret hlk hP hS zd_Land_placeSort_9
theorem zC_Land_placeSort (l : Launch) {D : va_G} {cA : Nat → ClassId} {ad : Nat → Nat} {A : Nat → Prop} {r0 : Nat} {a1 : Int32} {X : IX} {Y : LX} {res : Int32} (hr0 : zu_kd r0 = 5) (hf : fn_Land_placeSort X r0 a1 = some res) : Met l zm_Land_placeSort (zu_ws zm_Land_placeSort zb_Land_placeSort 2 (some .int)) zR_Land_placeSort (va_Pc [.ref (ad r0), .int a1] (zu_Pre D cA ad A X Y)) (zu_Qi D cA ad A res X Y) 0 0 A := by
  refine Met.ofW (cc := zb_Land_placeSort) (maxL := 2) (ret := (some .int)) (by decide +kernel) rfl ?_
  intro p e s m args below meth c s₁ B0 hml hv
  obtain ⟨rfl, hP, hST⟩ := hv
  have B : zu_B p s m _ c zb_Land_placeSort 2 "StonePost$Land" D cA ad A := ⟨B0.exec, B0.bytes, hml, findClass_of_methodNamed B0.named, (fun w hw => atoms_spec (ws := zu_ws zm_Land_placeSort zb_Land_placeSort 2 (some .int)) B0.pre w (List.mem_cons_of_mem _ hw)), hST⟩
  have hl := lv_entry ([.ref (ad r0), .int a1]) (n := 2) (Nat.le_of_ble_eq_true rfl)
  rw [lg_entry_eq]
  generalize (lg_sl ([.ref (ad r0), .int a1]) ++ List.replicate (2 - (lg_sl ([.ref (ad r0), .int a1])).length) Slot.unset).toArray = ls at hl ⊢
  exact zl_Land_placeSort B B0.returns B0.notSynchronized s.heap [] ls hP va_S.rf hl hr0 hf
theorem zw_Land_placeSort {p : Program} {l : Launch} {e : Env} {R : Room} {s : State} {m : MethodId} {args : Array Value} {below : List Frame} {meth : Method} {c : Code} {H : Heap} {locs : List Loc} {cells slots : Nat} {Q : State → Prop} {cc : ByteArray} {pc nL : Nat} {ls : Array Slot} {rest st0 : List Value} {D : va_G} {cA : Nat → ClassId} {ad : Nat → Nat} {A : Nat → Prop} {X : IX} {Y : LX} {own : String} {index : Nat} {r0 : Nat} {a1 : Int32} {v1 : Int32} (B : zu_B p s m args c cc nL own D cA ad A) (hP : va_P D zu_cl (zu_pic cA ad X Y) H) (hS : va_S A s.heap H locs) (hr0 : zu_kd r0 = 5) (hq : fn_Land_placeSort X r0 a1 = some v1) (m1 : Cond.methodLink own index zm_Land_placeSort ∈ zu_TB) (hR1 : 0 + 1 ≤ R.frames) (hR2 : 8 + (2 + 11) + 0 ≤ R.locals) (hsz : ls.size = nL) (hst : st0 = .int a1 :: .ref (ad r0) :: rest) (hw : (rest.map fun v => v.category).sum ≤ 8) (hdg : decode cc pc = .ok (.invokevirtual index, 3)) (h00 : cells ≤ R.cells ∧ slots ≤ R.slots) (kk : ∀ (H1 : Heap) (locs1 : List Loc), va_P D zu_cl (zu_pic cA ad X Y) H1 → va_S A s.heap H1 locs1 → W p l e R s m args below meth c H1 locs1 cells slots Q (F0 m (pc + 3) ls (.int v1 :: rest))) : W p l e R s m args below meth c H locs cells slots Q (F0 m pc ls st0) := by
  subst hst
  exact zr_cVi (As := [.int a1]) (rest := rest) (n := 1) (C := "StonePost$Land") (T := zt_Land) (N := 10) B hP hS (zC_Land_placeSort l hr0 hq) (K := 5) hr0 (by decide) (by decide) rfl rfl m1 zq_339 zq_340 zq_2 zq_341 (by decide +kernel) ⟨hR1, hR2⟩ rfl rfl rfl hsz rfl hw hdg h00 kk
abbrev zR_Land_staysOn : Room := { frames := 1, cells := 0, slots := 0, locals := 21 }
theorem zd_Land_staysOn_0 : decode zb_Land_staysOn 0 = .ok (.aload_n 0, 1) := by decide +kernel
theorem zd_Land_staysOn_1 : decode zb_Land_staysOn 1 = .ok (.iload_n 1, 1) := by decide +kernel
theorem zd_Land_staysOn_2 : decode zb_Land_staysOn 2 = .ok (.invokevirtual 66, 3) := by decide +kernel
theorem zd_Land_staysOn_5 : decode zb_Land_staysOn 5 = .ok (.iconst 2, 1) := by decide +kernel
theorem zd_Land_staysOn_6 : decode zb_Land_staysOn 6 = .ok (.if_icmp .eq 7, 3) := by decide +kernel
theorem zd_Land_staysOn_9 : decode zb_Land_staysOn 9 = .ok (.iconst 1, 1) := by decide +kernel
theorem zd_Land_staysOn_10 : decode zb_Land_staysOn 10 = .ok (.goto 4, 3) := by decide +kernel
theorem zd_Land_staysOn_13 : decode zb_Land_staysOn 13 = .ok (.iconst 0, 1) := by decide +kernel
theorem zd_Land_staysOn_14 : decode zb_Land_staysOn 14 = .ok (.ireturn, 1) := by decide +kernel
set_option maxHeartbeats 4000000 in
theorem zl_Land_staysOn_L14 {p : Program} {l : Launch} {e : Env} {s : State} {m : MethodId} {args : Array Value} {below : List Frame} {meth : Method} {c : Code} {D : va_G} {cA : Nat → ClassId} {ad : Nat → Nat} {A : Nat → Prop} (B : zu_B p s m args c zb_Land_staysOn 2 "StonePost$Land" D cA ad A) (hret : meth.sig.returnType = (some .boolean)) (hlk : meth.locks = false) {X : IX} {Y : LX} {res : Int32} (y0 : Int32) (H : Heap) (locs : List Loc) (ls : Array Slot) (hP : va_P D zu_cl (zu_pic cA ad X Y) H) (hS : va_S A s.heap H locs) (hl : lv_has ls 2 []) (hf : fn_Land_staysOn_L14 X y0 = some res) : W p l e zR_Land_staysOn s m args below meth c H locs 0 0 (MQ below (zu_Qi D cA ad A res X Y) args s 0 0 A) (F0 m 14 ls [.int y0]) := by
  obtain ⟨hx, hb, hml, hown, hts, hST⟩ := id B
  unfold fn_Land_staysOn_L14 at hf
  obtain ⟨hg4, hf⟩ := zu_gd_e hf
  obtain rfl := Option.some.inj hf
  exact zr_zret hx hb hret hlk hP hS hg4 zd_Land_staysOn_14
set_option maxHeartbeats 4000000 in
theorem zl_Land_staysOn {p : Program} {l : Launch} {e : Env} {s : State} {m : MethodId} {args : Array Value} {below : List Frame} {meth : Method} {c : Code} {D : va_G} {cA : Nat → ClassId} {ad : Nat → Nat} {A : Nat → Prop} (B : zu_B p s m args c zb_Land_staysOn 2 "StonePost$Land" D cA ad A) (hret : meth.sig.returnType = (some .boolean)) (hlk : meth.locks = false) {X : IX} {Y : LX} {res : Int32} {r0 : Nat} {a1 : Int32} (H : Heap) (locs : List Loc) (ls : Array Slot) (hP : va_P D zu_cl (zu_pic cA ad X Y) H) (hS : va_S A s.heap H locs) (hl : lv_has ls 2 [(0, .ref (ad r0)), (1, .int a1)]) (hr0 : zu_kd r0 = 5) (hf : fn_Land_staysOn X r0 a1 = some res) : W p l e zR_Land_staysOn s m args below meth c H locs 0 0 (MQ below (zu_Qi D cA ad A res X Y) args s 0 0 A) (F0 m 0 ls []) := by
  obtain ⟨hx, hb, hml, hown, hts, hST⟩ := id B
  unfold fn_Land_staysOn at hf
  refine lv_aload_n hx hb zd_Land_staysOn_0 rfl (lv_at hl 0 rfl) ?_
  refine lv_iload_n hx hb zd_Land_staysOn_1 rfl (lv_at hl 1 rfl) ?_
  obtain ⟨v1, hq2, hf⟩ := zu_b1_e hf
  refine zw_Land_placeSort (rest := []) B hP hS hr0 hq2 zq_338 (Nat.le_of_ble_eq_true rfl) (Nat.le_of_ble_eq_true rfl) hl.1 rfl (Nat.le_of_ble_eq_true rfl) zd_Land_staysOn_2 (by decide) (fun H locs hP hS => ?_)
  clear hq2
  refine lv_iconst (v := 2) hx hb zd_Land_staysOn_5 (by decide) ?_
  refine lv_icmp_eq (tgt := 13) hx hb zd_Land_staysOn_6 (by decide) (fun c3 => ?_) (fun c3 => ?_)
  · have hf := zu_t c3 hf
    refine lv_iconst (v := 0) hx hb zd_Land_staysOn_13 (by decide) ?_
    exact zl_Land_staysOn_L14 B hret hlk (0 : Int32) _ _ _ hP hS (lv_sub hl [] rfl) hf
  · have hf := zu_f c3 hf
    refine lv_iconst (v := 1) hx hb zd_Land_staysOn_9 (by decide) ?_
    refine lv_goto (tgt := 14) hx hb zd_Land_staysOn_10 (by decide) ?_
    exact zl_Land_staysOn_L14 B hret hlk (1 : Int32) _ _ _ hP hS (lv_sub hl [] rfl) hf
theorem zC_Land_staysOn (l : Launch) {D : va_G} {cA : Nat → ClassId} {ad : Nat → Nat} {A : Nat → Prop} {r0 : Nat} {a1 : Int32} {X : IX} {Y : LX} {res : Int32} (hr0 : zu_kd r0 = 5) (hf : fn_Land_staysOn X r0 a1 = some res) : Met l zm_Land_staysOn (zu_ws zm_Land_staysOn zb_Land_staysOn 2 (some .boolean)) zR_Land_staysOn (va_Pc [.ref (ad r0), .int a1] (zu_Pre D cA ad A X Y)) (zu_Qi D cA ad A res X Y) 0 0 A := by
  refine Met.ofW (cc := zb_Land_staysOn) (maxL := 2) (ret := (some .boolean)) (by decide +kernel) rfl ?_
  intro p e s m args below meth c s₁ B0 hml hv
  obtain ⟨rfl, hP, hST⟩ := hv
  have B : zu_B p s m _ c zb_Land_staysOn 2 "StonePost$Land" D cA ad A := ⟨B0.exec, B0.bytes, hml, findClass_of_methodNamed B0.named, (fun w hw => atoms_spec (ws := zu_ws zm_Land_staysOn zb_Land_staysOn 2 (some .boolean)) B0.pre w (List.mem_cons_of_mem _ hw)), hST⟩
  have hl := lv_entry ([.ref (ad r0), .int a1]) (n := 2) (Nat.le_of_ble_eq_true rfl)
  rw [lg_entry_eq]
  generalize (lg_sl ([.ref (ad r0), .int a1]) ++ List.replicate (2 - (lg_sl ([.ref (ad r0), .int a1])).length) Slot.unset).toArray = ls at hl ⊢
  exact zl_Land_staysOn B B0.returns B0.notSynchronized s.heap [] ls hP va_S.rf hl hr0 hf
theorem zw_Land_staysOn {p : Program} {l : Launch} {e : Env} {R : Room} {s : State} {m : MethodId} {args : Array Value} {below : List Frame} {meth : Method} {c : Code} {H : Heap} {locs : List Loc} {cells slots : Nat} {Q : State → Prop} {cc : ByteArray} {pc nL : Nat} {ls : Array Slot} {rest st0 : List Value} {D : va_G} {cA : Nat → ClassId} {ad : Nat → Nat} {A : Nat → Prop} {X : IX} {Y : LX} {own : String} {index : Nat} {r0 : Nat} {a1 : Int32} {v1 : Int32} (B : zu_B p s m args c cc nL own D cA ad A) (hP : va_P D zu_cl (zu_pic cA ad X Y) H) (hS : va_S A s.heap H locs) (hr0 : zu_kd r0 = 5) (hq : fn_Land_staysOn X r0 a1 = some v1) (m1 : Cond.methodLink own index zm_Land_staysOn ∈ zu_TB) (hR1 : 1 + 1 ≤ R.frames) (hR2 : 8 + (2 + 11) + 21 ≤ R.locals) (hsz : ls.size = nL) (hst : st0 = .int a1 :: .ref (ad r0) :: rest) (hw : (rest.map fun v => v.category).sum ≤ 8) (hdg : decode cc pc = .ok (.invokevirtual index, 3)) (h00 : cells ≤ R.cells ∧ slots ≤ R.slots) (kk : ∀ (H1 : Heap) (locs1 : List Loc), va_P D zu_cl (zu_pic cA ad X Y) H1 → va_S A s.heap H1 locs1 → W p l e R s m args below meth c H1 locs1 cells slots Q (F0 m (pc + 3) ls (.int v1 :: rest))) : W p l e R s m args below meth c H locs cells slots Q (F0 m pc ls st0) := by
  subst hst
  exact zr_cVi (As := [.int a1]) (rest := rest) (n := 1) (C := "StonePost$Land") (T := zt_Land) (N := 10) B hP hS (zC_Land_staysOn l hr0 hq) (K := 5) hr0 (by decide) (by decide) rfl rfl m1 zq_335 zq_336 zq_2 zq_337 (by decide +kernel) ⟨hR1, hR2⟩ rfl rfl rfl hsz rfl hw hdg h00 kk
abbrev zR_Thr_isIll : Room := { frames := 0, cells := 0, slots := 0, locals := 0 }
theorem zd_Thr_isIll_0 : decode zb_Thr_isIll 0 = .ok (.aload_n 0, 1) := by decide +kernel
theorem zd_Thr_isIll_1 : decode zb_Thr_isIll 1 = .ok (.getfield 11, 3) := by decide +kernel
theorem zd_Thr_isIll_4 : decode zb_Thr_isIll 4 = .ok (.bipush 7, 2) := by decide +kernel
theorem zd_Thr_isIll_6 : decode zb_Thr_isIll 6 = .ok (.iaload, 1) := by decide +kernel
theorem zd_Thr_isIll_7 : decode zb_Thr_isIll 7 = .ok (.iconst 1, 1) := by decide +kernel
theorem zd_Thr_isIll_8 : decode zb_Thr_isIll 8 = .ok (.if_icmp .ne 7, 3) := by decide +kernel
theorem zd_Thr_isIll_11 : decode zb_Thr_isIll 11 = .ok (.iconst 1, 1) := by decide +kernel
theorem zd_Thr_isIll_12 : decode zb_Thr_isIll 12 = .ok (.goto 4, 3) := by decide +kernel
theorem zd_Thr_isIll_15 : decode zb_Thr_isIll 15 = .ok (.iconst 0, 1) := by decide +kernel
theorem zd_Thr_isIll_16 : decode zb_Thr_isIll 16 = .ok (.ireturn, 1) := by decide +kernel
set_option maxHeartbeats 4000000 in
theorem zl_Thr_isIll_L16 {p : Program} {l : Launch} {e : Env} {s : State} {m : MethodId} {args : Array Value} {below : List Frame} {meth : Method} {c : Code} {D : va_G} {cA : Nat → ClassId} {ad : Nat → Nat} {A : Nat → Prop} (B : zu_B p s m args c zb_Thr_isIll 1 "StonePost$Thrower" D cA ad A) (hret : meth.sig.returnType = (some .boolean)) (hlk : meth.locks = false) {X : IX} {Y : LX} {res : Int32} (y0 : Int32) (H : Heap) (locs : List Loc) (ls : Array Slot) (hP : va_P D zu_cl (zu_pic cA ad X Y) H) (hS : va_S A s.heap H locs) (hl : lv_has ls 1 []) (hf : fn_Thr_isIll_L16 X y0 = some res) : W p l e zR_Thr_isIll s m args below meth c H locs 0 0 (MQ below (zu_Qi D cA ad A res X Y) args s 0 0 A) (F0 m 16 ls [.int y0]) := by
  obtain ⟨hx, hb, hml, hown, hts, hST⟩ := id B
  unfold fn_Thr_isIll_L16 at hf
  obtain ⟨hg2, hf⟩ := zu_gd_e hf
  obtain rfl := Option.some.inj hf
  exact zr_zret hx hb hret hlk hP hS hg2 zd_Thr_isIll_16
set_option maxHeartbeats 4000000 in
theorem zl_Thr_isIll {p : Program} {l : Launch} {e : Env} {s : State} {m : MethodId} {args : Array Value} {below : List Frame} {meth : Method} {c : Code} {D : va_G} {cA : Nat → ClassId} {ad : Nat → Nat} {A : Nat → Prop} (B : zu_B p s m args c zb_Thr_isIll 1 "StonePost$Thrower" D cA ad A) (hret : meth.sig.returnType = (some .boolean)) (hlk : meth.locks = false) {X : IX} {Y : LX} {res : Int32} {r0 : Nat} (H : Heap) (locs : List Loc) (ls : Array Slot) (hP : va_P D zu_cl (zu_pic cA ad X Y) H) (hS : va_S A s.heap H locs) (hl : lv_has ls 1 [(0, .ref (ad r0))]) (hr0 : zu_kd r0 = 6) (hf : fn_Thr_isIll X r0 = some res) : W p l e zR_Thr_isIll s m args below meth c H locs 0 0 (MQ below (zu_Qi D cA ad A res X Y) args s 0 0 A) (F0 m 0 ls []) := by
  obtain ⟨hx, hb, hml, hown, hts, hST⟩ := id B
  unfold fn_Thr_isIll at hf
  refine lv_aload_n hx hb zd_Thr_isIll_0 rfl (lv_at hl 0 rfl) ?_
  refine zg_Thr_facts B hP hr0 zq_38 zd_Thr_isIll_1 ?_
  refine lv_bipush (v := 7) hx hb zd_Thr_isIll_4 (by decide) ?_
  refine zr_iald (j := 7) (by decide) B hP (zk_Thr_facts hr0) (by decide) rfl (by decide) zd_Thr_isIll_6 ?_
  refine lv_iconst (v := 1) hx hb zd_Thr_isIll_7 (by decide) ?_
  refine lv_icmp_ne (tgt := 15) hx hb zd_Thr_isIll_8 (by decide) (fun c1 => ?_) (fun c1 => ?_)
  · have hf := zu_f c1 hf
    refine lv_iconst (v := 0) hx hb zd_Thr_isIll_15 (by decide) ?_
    exact zl_Thr_isIll_L16 B hret hlk (0 : Int32) _ _ _ hP hS (lv_sub hl [] rfl) hf
  · have hf := zu_t c1 hf
    refine lv_iconst (v := 1) hx hb zd_Thr_isIll_11 (by decide) ?_
    refine lv_goto (tgt := 16) hx hb zd_Thr_isIll_12 (by decide) ?_
    exact zl_Thr_isIll_L16 B hret hlk (1 : Int32) _ _ _ hP hS (lv_sub hl [] rfl) hf
theorem zC_Thr_isIll (l : Launch) {D : va_G} {cA : Nat → ClassId} {ad : Nat → Nat} {A : Nat → Prop} {r0 : Nat} {X : IX} {Y : LX} {res : Int32} (hr0 : zu_kd r0 = 6) (hf : fn_Thr_isIll X r0 = some res) : Met l zm_Thr_isIll (zu_ws zm_Thr_isIll zb_Thr_isIll 1 (some .boolean)) zR_Thr_isIll (va_Pc [.ref (ad r0)] (zu_Pre D cA ad A X Y)) (zu_Qi D cA ad A res X Y) 0 0 A := by
  refine Met.ofW (cc := zb_Thr_isIll) (maxL := 1) (ret := (some .boolean)) (by decide +kernel) rfl ?_
  intro p e s m args below meth c s₁ B0 hml hv
  obtain ⟨rfl, hP, hST⟩ := hv
  have B : zu_B p s m _ c zb_Thr_isIll 1 "StonePost$Thrower" D cA ad A := ⟨B0.exec, B0.bytes, hml, findClass_of_methodNamed B0.named, (fun w hw => atoms_spec (ws := zu_ws zm_Thr_isIll zb_Thr_isIll 1 (some .boolean)) B0.pre w (List.mem_cons_of_mem _ hw)), hST⟩
  have hl := lv_entry ([.ref (ad r0)]) (n := 1) (Nat.le_of_ble_eq_true rfl)
  rw [lg_entry_eq]
  generalize (lg_sl ([.ref (ad r0)]) ++ List.replicate (1 - (lg_sl ([.ref (ad r0)])).length) Slot.unset).toArray = ls at hl ⊢
  exact zl_Thr_isIll B B0.returns B0.notSynchronized s.heap [] ls hP va_S.rf hl hr0 hf
theorem zw_Thr_isIll {p : Program} {l : Launch} {e : Env} {R : Room} {s : State} {m : MethodId} {args : Array Value} {below : List Frame} {meth : Method} {c : Code} {H : Heap} {locs : List Loc} {cells slots : Nat} {Q : State → Prop} {cc : ByteArray} {pc nL : Nat} {ls : Array Slot} {rest st0 : List Value} {D : va_G} {cA : Nat → ClassId} {ad : Nat → Nat} {A : Nat → Prop} {X : IX} {Y : LX} {own : String} {index : Nat} {r0 : Nat} {v1 : Int32} (B : zu_B p s m args c cc nL own D cA ad A) (hP : va_P D zu_cl (zu_pic cA ad X Y) H) (hS : va_S A s.heap H locs) (hr0 : zu_kd r0 = 6) (hq : fn_Thr_isIll X r0 = some v1) (m1 : Cond.methodLink own index zm_Thr_isIll ∈ zu_TB) (hR1 : 0 + 1 ≤ R.frames) (hR2 : 8 + (1 + 11) + 0 ≤ R.locals) (hsz : ls.size = nL) (hst : st0 = .ref (ad r0) :: rest) (hw : (rest.map fun v => v.category).sum ≤ 8) (hdg : decode cc pc = .ok (.invokevirtual index, 3)) (h00 : cells ≤ R.cells ∧ slots ≤ R.slots) (kk : ∀ (H1 : Heap) (locs1 : List Loc), va_P D zu_cl (zu_pic cA ad X Y) H1 → va_S A s.heap H1 locs1 → W p l e R s m args below meth c H1 locs1 cells slots Q (F0 m (pc + 3) ls (.int v1 :: rest))) : W p l e R s m args below meth c H locs cells slots Q (F0 m pc ls st0) := by
  subst hst
  exact zr_cVi (As := []) (rest := rest) (n := 0) (C := "StonePost$Thrower") (T := zt_Thr) (N := 1) B hP hS (zC_Thr_isIll l hr0 hq) (K := 6) hr0 (by decide) (by decide) rfl rfl m1 zq_343 zq_344 zq_3 zq_345 (by decide +kernel) ⟨hR1, hR2⟩ rfl rfl rfl hsz rfl hw hdg h00 kk
abbrev zR_Land_away : Room := { frames := 1, cells := 0, slots := 0, locals := 21 }
theorem zd_Land_away_0 : decode zb_Land_away 0 = .ok (.aload_n 0, 1) := by decide +kernel
theorem zd_Land_away_1 : decode zb_Land_away 1 = .ok (.getfield 17, 3) := by decide +kernel
theorem zd_Land_away_4 : decode zb_Land_away 4 = .ok (.iload_n 1, 1) := by decide +kernel
theorem zd_Land_away_5 : decode zb_Land_away 5 = .ok (.aaload, 1) := by decide +kernel
theorem zd_Land_away_6 : decode zb_Land_away 6 = .ok (.getfield 50, 3) := by decide +kernel
theorem zd_Land_away_9 : decode zb_Land_away 9 = .ok (.iconst 1, 1) := by decide +kernel
theorem zd_Land_away_10 : decode zb_Land_away 10 = .ok (.iaload, 1) := by decide +kernel
theorem zd_Land_away_11 : decode zb_Land_away 11 = .ok (.iload_n 2, 1) := by decide +kernel
theorem zd_Land_away_12 : decode zb_Land_away 12 = .ok (.isub, 1) := by decide +kernel
theorem zd_Land_away_13 : decode zb_Land_away 13 = .ok (.invokestatic 86, 3) := by decide +kernel
theorem zd_Land_away_16 : decode zb_Land_away 16 = .ok (.ireturn, 1) := by decide +kernel
set_option maxHeartbeats 4000000 in
theorem zl_Land_away {p : Program} {l : Launch} {e : Env} {s : State} {m : MethodId} {args : Array Value} {below : List Frame} {meth : Method} {c : Code} {D : va_G} {cA : Nat → ClassId} {ad : Nat → Nat} {A : Nat → Prop} (B : zu_B p s m args c zb_Land_away 3 "StonePost$Land" D cA ad A) (hret : meth.sig.returnType = (some .int)) (hlk : meth.locks = false) {X : IX} {Y : LX} {res : Int32} {r0 : Nat} {a1 : Int32} {a2 : Int32} (H : Heap) (locs : List Loc) (ls : Array Slot) (hP : va_P D zu_cl (zu_pic cA ad X Y) H) (hS : va_S A s.heap H locs) (hl : lv_has ls 3 [(0, .ref (ad r0)), (1, .int a1), (2, .int a2)]) (hr0 : zu_kd r0 = 5) (hf : fn_Land_away X r0 a1 a2 = some res) : W p l e zR_Land_away s m args below meth c H locs 0 0 (MQ below (zu_Qi D cA ad A res X Y) args s 0 0 A) (F0 m 0 ls []) := by
  obtain ⟨hx, hb, hml, hown, hts, hST⟩ := id B
  unfold fn_Land_away at hf
  refine lv_aload_n hx hb zd_Land_away_0 rfl (lv_at hl 0 rfl) ?_
  refine zg_Land_throwers B hP hr0 zq_53 zd_Land_away_1 ?_
  refine lv_iload_n hx hb zd_Land_away_4 rfl (lv_at hl 1 rfl) ?_
  obtain ⟨hg1, hf⟩ := zu_gd_e hf
  refine zr_thr rfl B hP (zk_Land_throwers hr0) hg1 zd_Land_away_5 ?_
  refine zg_Thr_facts B hP (zk_thr (zk_Land_throwers hr0) (zu_ib_lt hg1)) zq_39 zd_Land_away_6 ?_
  refine lv_iconst (v := 1) hx hb zd_Land_away_9 (by decide) ?_
  refine zr_iald (j := 1) (by decide) B hP (zk_Thr_facts (zk_thr (zk_Land_throwers hr0) (zu_ib_lt hg1))) (by decide) rfl (by decide) zd_Land_away_10 ?_
  refine lv_iload_n hx hb zd_Land_away_11 rfl (lv_at hl 2 rfl) ?_
  refine lv_isub hx hb zd_Land_away_12 ?_
  refine va_mabs hx hb (hml.trans hl.1.symm) hown (hts _ zq_350) (hts _ zq_351) (hts _ zq_10) (hts _ zq_352) (by decide) (Nat.le_of_ble_eq_true rfl) (by decide) (by decide) zd_Land_away_13 ?_
  refine zr_nxi hf (fun v2 hf => ?_)
  obtain rfl := Option.some.inj hf
  exact zr_iret hx hb hret hlk hP hS zd_Land_away_16
theorem zC_Land_away (l : Launch) {D : va_G} {cA : Nat → ClassId} {ad : Nat → Nat} {A : Nat → Prop} {r0 : Nat} {a1 : Int32} {a2 : Int32} {X : IX} {Y : LX} {res : Int32} (hr0 : zu_kd r0 = 5) (hf : fn_Land_away X r0 a1 a2 = some res) : Met l zm_Land_away (zu_ws zm_Land_away zb_Land_away 3 (some .int)) zR_Land_away (va_Pc [.ref (ad r0), .int a1, .int a2] (zu_Pre D cA ad A X Y)) (zu_Qi D cA ad A res X Y) 0 0 A := by
  refine Met.ofW (cc := zb_Land_away) (maxL := 3) (ret := (some .int)) (by decide +kernel) rfl ?_
  intro p e s m args below meth c s₁ B0 hml hv
  obtain ⟨rfl, hP, hST⟩ := hv
  have B : zu_B p s m _ c zb_Land_away 3 "StonePost$Land" D cA ad A := ⟨B0.exec, B0.bytes, hml, findClass_of_methodNamed B0.named, (fun w hw => atoms_spec (ws := zu_ws zm_Land_away zb_Land_away 3 (some .int)) B0.pre w (List.mem_cons_of_mem _ hw)), hST⟩
  have hl := lv_entry ([.ref (ad r0), .int a1, .int a2]) (n := 3) (Nat.le_of_ble_eq_true rfl)
  rw [lg_entry_eq]
  generalize (lg_sl ([.ref (ad r0), .int a1, .int a2]) ++ List.replicate (3 - (lg_sl ([.ref (ad r0), .int a1, .int a2])).length) Slot.unset).toArray = ls at hl ⊢
  exact zl_Land_away B B0.returns B0.notSynchronized s.heap [] ls hP va_S.rf hl hr0 hf
theorem zw_Land_away {p : Program} {l : Launch} {e : Env} {R : Room} {s : State} {m : MethodId} {args : Array Value} {below : List Frame} {meth : Method} {c : Code} {H : Heap} {locs : List Loc} {cells slots : Nat} {Q : State → Prop} {cc : ByteArray} {pc nL : Nat} {ls : Array Slot} {rest st0 : List Value} {D : va_G} {cA : Nat → ClassId} {ad : Nat → Nat} {A : Nat → Prop} {X : IX} {Y : LX} {own : String} {index : Nat} {r0 : Nat} {a1 : Int32} {a2 : Int32} {v1 : Int32} (B : zu_B p s m args c cc nL own D cA ad A) (hP : va_P D zu_cl (zu_pic cA ad X Y) H) (hS : va_S A s.heap H locs) (hr0 : zu_kd r0 = 5) (hq : fn_Land_away X r0 a1 a2 = some v1) (m1 : Cond.methodLink own index zm_Land_away ∈ zu_TB) (hR1 : 1 + 1 ≤ R.frames) (hR2 : 8 + (3 + 11) + 21 ≤ R.locals) (hsz : ls.size = nL) (hst : st0 = .int a2 :: .int a1 :: .ref (ad r0) :: rest) (hw : (rest.map fun v => v.category).sum ≤ 8) (hdg : decode cc pc = .ok (.invokevirtual index, 3)) (h00 : cells ≤ R.cells ∧ slots ≤ R.slots) (kk : ∀ (H1 : Heap) (locs1 : List Loc), va_P D zu_cl (zu_pic cA ad X Y) H1 → va_S A s.heap H1 locs1 → W p l e R s m args below meth c H1 locs1 cells slots Q (F0 m (pc + 3) ls (.int v1 :: rest))) : W p l e R s m args below meth c H locs cells slots Q (F0 m pc ls st0) := by
  subst hst
  exact zr_cVi (As := [.int a1, .int a2]) (rest := rest) (n := 2) (C := "StonePost$Land") (T := zt_Land) (N := 10) B hP hS (zC_Land_away l hr0 hq) (K := 5) hr0 (by decide) (by decide) rfl rfl m1 zq_348 zqP_3 zq_2 zq_349 (by decide +kernel) ⟨hR1, hR2⟩ rfl rfl rfl hsz rfl hw hdg h00 kk
abbrev zR_Land_isNearer : Room := { frames := 2, cells := 0, slots := 0, locals := 43 }
theorem zd_Land_isNearer_0 : decode zb_Land_isNearer 0 = .ok (.aload_n 0, 1) := by decide +kernel
theorem zd_Land_isNearer_1 : decode zb_Land_isNearer 1 = .ok (.iload_n 1, 1) := by decide +kernel
theorem zd_Land_isNearer_2 : decode zb_Land_isNearer 2 = .ok (.iload_n 3, 1) := by decide +kernel
theorem zd_Land_isNearer_3 : decode zb_Land_isNearer 3 = .ok (.invokevirtual 78, 3) := by decide +kernel
theorem zd_Land_isNearer_6 : decode zb_Land_isNearer 6 = .ok (.aload_n 0, 1) := by decide +kernel
theorem zd_Land_isNearer_7 : decode zb_Land_isNearer 7 = .ok (.iload_n 2, 1) := by decide +kernel
theorem zd_Land_isNearer_8 : decode zb_Land_isNearer 8 = .ok (.iload_n 3, 1) := by decide +kernel
theorem zd_Land_isNearer_9 : decode zb_Land_isNearer 9 = .ok (.invokevirtual 78, 3) := by decide +kernel
theorem zd_Land_isNearer_12 : decode zb_Land_isNearer 12 = .ok (.if_icmp .eq 24, 3) := by decide +kernel
theorem zd_Land_isNearer_15 : decode zb_Land_isNearer 15 = .ok (.aload_n 0, 1) := by decide +kernel
theorem zd_Land_isNearer_16 : decode zb_Land_isNearer 16 = .ok (.iload_n 1, 1) := by decide +kernel
theorem zd_Land_isNearer_17 : decode zb_Land_isNearer 17 = .ok (.iload_n 3, 1) := by decide +kernel
theorem zd_Land_isNearer_18 : decode zb_Land_isNearer 18 = .ok (.invokevirtual 78, 3) := by decide +kernel
theorem zd_Land_isNearer_21 : decode zb_Land_isNearer 21 = .ok (.aload_n 0, 1) := by decide +kernel
theorem zd_Land_isNearer_22 : decode zb_Land_isNearer 22 = .ok (.iload_n 2, 1) := by decide +kernel
theorem zd_Land_isNearer_23 : decode zb_Land_isNearer 23 = .ok (.iload_n 3, 1) := by decide +kernel
theorem zd_Land_isNearer_24 : decode zb_Land_isNearer 24 = .ok (.invokevirtual 78, 3) := by decide +kernel
theorem zd_Land_isNearer_27 : decode zb_Land_isNearer 27 = .ok (.if_icmp .ge 7, 3) := by decide +kernel
theorem zd_Land_isNearer_30 : decode zb_Land_isNearer 30 = .ok (.iconst 1, 1) := by decide +kernel
theorem zd_Land_isNearer_31 : decode zb_Land_isNearer 31 = .ok (.goto 4, 3) := by decide +kernel
theorem zd_Land_isNearer_34 : decode zb_Land_isNearer 34 = .ok (.iconst 0, 1) := by decide +kernel
theorem zd_Land_isNearer_35 : decode zb_Land_isNearer 35 = .ok (.ireturn, 1) := by decide +kernel
theorem zd_Land_isNearer_36 : decode zb_Land_isNearer 36 = .ok (.aload_n 0, 1) := by decide +kernel
theorem zd_Land_isNearer_37 : decode zb_Land_isNearer 37 = .ok (.getfield 17, 3) := by decide +kernel
theorem zd_Land_isNearer_40 : decode zb_Land_isNearer 40 = .ok (.iload_n 1, 1) := by decide +kernel
theorem zd_Land_isNearer_41 : decode zb_Land_isNearer 41 = .ok (.aaload, 1) := by decide +kernel
theorem zd_Land_isNearer_42 : decode zb_Land_isNearer 42 = .ok (.getfield 50, 3) := by decide +kernel
theorem zd_Land_isNearer_45 : decode zb_Land_isNearer 45 = .ok (.iconst 1, 1) := by decide +kernel
theorem zd_Land_isNearer_46 : decode zb_Land_isNearer 46 = .ok (.iaload, 1) := by decide +kernel
theorem zd_Land_isNearer_47 : decode zb_Land_isNearer 47 = .ok (.aload_n 0, 1) := by decide +kernel
theorem zd_Land_isNearer_48 : decode zb_Land_isNearer 48 = .ok (.getfield 17, 3) := by decide +kernel
theorem zd_Land_isNearer_51 : decode zb_Land_isNearer 51 = .ok (.iload_n 2, 1) := by decide +kernel
theorem zd_Land_isNearer_52 : decode zb_Land_isNearer 52 = .ok (.aaload, 1) := by decide +kernel
theorem zd_Land_isNearer_53 : decode zb_Land_isNearer 53 = .ok (.getfield 50, 3) := by decide +kernel
theorem zd_Land_isNearer_56 : decode zb_Land_isNearer 56 = .ok (.iconst 1, 1) := by decide +kernel
theorem zd_Land_isNearer_57 : decode zb_Land_isNearer 57 = .ok (.iaload, 1) := by decide +kernel
theorem zd_Land_isNearer_58 : decode zb_Land_isNearer 58 = .ok (.if_icmp .ge 7, 3) := by decide +kernel
theorem zd_Land_isNearer_61 : decode zb_Land_isNearer 61 = .ok (.iconst 1, 1) := by decide +kernel
theorem zd_Land_isNearer_62 : decode zb_Land_isNearer 62 = .ok (.goto 4, 3) := by decide +kernel
theorem zd_Land_isNearer_65 : decode zb_Land_isNearer 65 = .ok (.iconst 0, 1) := by decide +kernel
theorem zd_Land_isNearer_66 : decode zb_Land_isNearer 66 = .ok (.ireturn, 1) := by decide +kernel
set_option maxHeartbeats 4000000 in
theorem zl_Land_isNearer_L66 {p : Program} {l : Launch} {e : Env} {s : State} {m : MethodId} {args : Array Value} {below : List Frame} {meth : Method} {c : Code} {D : va_G} {cA : Nat → ClassId} {ad : Nat → Nat} {A : Nat → Prop} (B : zu_B p s m args c zb_Land_isNearer 4 "StonePost$Land" D cA ad A) (hret : meth.sig.returnType = (some .boolean)) (hlk : meth.locks = false) {X : IX} {Y : LX} {res : Int32} (y0 : Int32) (H : Heap) (locs : List Loc) (ls : Array Slot) (hP : va_P D zu_cl (zu_pic cA ad X Y) H) (hS : va_S A s.heap H locs) (hl : lv_has ls 4 []) (hf : fn_Land_isNearer_L66 X y0 = some res) : W p l e zR_Land_isNearer s m args below meth c H locs 0 0 (MQ below (zu_Qi D cA ad A res X Y) args s 0 0 A) (F0 m 66 ls [.int y0]) := by
  obtain ⟨hx, hb, hml, hown, hts, hST⟩ := id B
  unfold fn_Land_isNearer_L66 at hf
  obtain ⟨hg14, hf⟩ := zu_gd_e hf
  obtain rfl := Option.some.inj hf
  exact zr_zret hx hb hret hlk hP hS hg14 zd_Land_isNearer_66
set_option maxHeartbeats 4000000 in
theorem zl_Land_isNearer_L35 {p : Program} {l : Launch} {e : Env} {s : State} {m : MethodId} {args : Array Value} {below : List Frame} {meth : Method} {c : Code} {D : va_G} {cA : Nat → ClassId} {ad : Nat → Nat} {A : Nat → Prop} (B : zu_B p s m args c zb_Land_isNearer 4 "StonePost$Land" D cA ad A) (hret : meth.sig.returnType = (some .boolean)) (hlk : meth.locks = false) {X : IX} {Y : LX} {res : Int32} (y0 : Int32) (H : Heap) (locs : List Loc) (ls : Array Slot) (hP : va_P D zu_cl (zu_pic cA ad X Y) H) (hS : va_S A s.heap H locs) (hl : lv_has ls 4 []) (hf : fn_Land_isNearer_L35 X y0 = some res) : W p l e zR_Land_isNearer s m args below meth c H locs 0 0 (MQ below (zu_Qi D cA ad A res X Y) args s 0 0 A) (F0 m 35 ls [.int y0]) := by
  obtain ⟨hx, hb, hml, hown, hts, hST⟩ := id B
  unfold fn_Land_isNearer_L35 at hf
  obtain ⟨hg15, hf⟩ := zu_gd_e hf
  obtain rfl := Option.some.inj hf
  exact zr_zret hx hb hret hlk hP hS hg15 zd_Land_isNearer_35
set_option maxHeartbeats 4000000 in
theorem zl_Land_isNearer {p : Program} {l : Launch} {e : Env} {s : State} {m : MethodId} {args : Array Value} {below : List Frame} {meth : Method} {c : Code} {D : va_G} {cA : Nat → ClassId} {ad : Nat → Nat} {A : Nat → Prop} (B : zu_B p s m args c zb_Land_isNearer 4 "StonePost$Land" D cA ad A) (hret : meth.sig.returnType = (some .boolean)) (hlk : meth.locks = false) {X : IX} {Y : LX} {res : Int32} {r0 : Nat} {a1 : Int32} {a2 : Int32} {a3 : Int32} (H : Heap) (locs : List Loc) (ls : Array Slot) (hP : va_P D zu_cl (zu_pic cA ad X Y) H) (hS : va_S A s.heap H locs) (hl : lv_has ls 4 [(0, .ref (ad r0)), (1, .int a1), (2, .int a2), (3, .int a3)]) (hr0 : zu_kd r0 = 5) (hf : fn_Land_isNearer X r0 a1 a2 a3 = some res) : W p l e zR_Land_isNearer s m args below meth c H locs 0 0 (MQ below (zu_Qi D cA ad A res X Y) args s 0 0 A) (F0 m 0 ls []) := by
  obtain ⟨hx, hb, hml, hown, hts, hST⟩ := id B
  unfold fn_Land_isNearer at hf
  refine lv_aload_n hx hb zd_Land_isNearer_0 rfl (lv_at hl 0 rfl) ?_
  refine lv_iload_n hx hb zd_Land_isNearer_1 rfl (lv_at hl 1 rfl) ?_
  refine lv_iload_n hx hb zd_Land_isNearer_2 rfl (lv_at hl 3 rfl) ?_
  obtain ⟨v1, hq2, hf⟩ := zu_b1_e hf
  refine zw_Land_away (rest := []) B hP hS hr0 hq2 zq_346 (Nat.le_of_ble_eq_true rfl) (Nat.le_of_ble_eq_true rfl) hl.1 rfl (Nat.le_of_ble_eq_true rfl) zd_Land_isNearer_3 (by decide) (fun H locs hP hS => ?_)
  clear hq2
  refine lv_aload_n hx hb zd_Land_isNearer_6 rfl (lv_at hl 0 rfl) ?_
  refine lv_iload_n hx hb zd_Land_isNearer_7 rfl (lv_at hl 2 rfl) ?_
  refine lv_iload_n hx hb zd_Land_isNearer_8 rfl (lv_at hl 3 rfl) ?_
  obtain ⟨v3, hq4, hf⟩ := zu_b1_e hf
  refine zw_Land_away (rest := [.int v1]) B hP hS hr0 hq4 zq_346 (Nat.le_of_ble_eq_true rfl) (Nat.le_of_ble_eq_true rfl) hl.1 rfl (Nat.le_of_ble_eq_true rfl) zd_Land_isNearer_9 (by decide) (fun H locs hP hS => ?_)
  clear hq4
  refine lv_icmp_eq (tgt := 36) hx hb zd_Land_isNearer_12 (by decide) (fun c5 => ?_) (fun c5 => ?_)
  · have hf := zu_t c5 hf
    refine lv_aload_n hx hb zd_Land_isNearer_36 rfl (lv_at hl 0 rfl) ?_
    refine zg_Land_throwers B hP hr0 zq_53 zd_Land_isNearer_37 ?_
    refine lv_iload_n hx hb zd_Land_isNearer_40 rfl (lv_at hl 1 rfl) ?_
    obtain ⟨hg6, hf⟩ := zu_gd_e hf
    refine zr_thr rfl B hP (zk_Land_throwers hr0) hg6 zd_Land_isNearer_41 ?_
    refine zg_Thr_facts B hP (zk_thr (zk_Land_throwers hr0) (zu_ib_lt hg6)) zq_39 zd_Land_isNearer_42 ?_
    refine lv_iconst (v := 1) hx hb zd_Land_isNearer_45 (by decide) ?_
    refine zr_iald (j := 1) (by decide) B hP (zk_Thr_facts (zk_thr (zk_Land_throwers hr0) (zu_ib_lt hg6))) (by decide) rfl (by decide) zd_Land_isNearer_46 ?_
    refine lv_aload_n hx hb zd_Land_isNearer_47 rfl (lv_at hl 0 rfl) ?_
    refine zg_Land_throwers B hP hr0 zq_53 zd_Land_isNearer_48 ?_
    refine lv_iload_n hx hb zd_Land_isNearer_51 rfl (lv_at hl 2 rfl) ?_
    obtain ⟨hg7, hf⟩ := zu_gd_e hf
    refine zr_thr rfl B hP (zk_Land_throwers hr0) hg7 zd_Land_isNearer_52 ?_
    refine zg_Thr_facts B hP (zk_thr (zk_Land_throwers hr0) (zu_ib_lt hg7)) zq_39 zd_Land_isNearer_53 ?_
    refine lv_iconst (v := 1) hx hb zd_Land_isNearer_56 (by decide) ?_
    refine zr_iald (j := 1) (by decide) B hP (zk_Thr_facts (zk_thr (zk_Land_throwers hr0) (zu_ib_lt hg7))) (by decide) rfl (by decide) zd_Land_isNearer_57 ?_
    refine lv_icmp_ge (tgt := 65) hx hb zd_Land_isNearer_58 (by decide) (fun c8 => ?_) (fun c8 => ?_)
    · have hf := zu_t c8 hf
      refine lv_iconst (v := 0) hx hb zd_Land_isNearer_65 (by decide) ?_
      exact zl_Land_isNearer_L66 B hret hlk (0 : Int32) _ _ _ hP hS (lv_sub hl [] rfl) hf
    · have hf := zu_f c8 hf
      refine lv_iconst (v := 1) hx hb zd_Land_isNearer_61 (by decide) ?_
      refine lv_goto (tgt := 66) hx hb zd_Land_isNearer_62 (by decide) ?_
      exact zl_Land_isNearer_L66 B hret hlk (1 : Int32) _ _ _ hP hS (lv_sub hl [] rfl) hf
  · have hf := zu_f c5 hf
    refine lv_aload_n hx hb zd_Land_isNearer_15 rfl (lv_at hl 0 rfl) ?_
    refine lv_iload_n hx hb zd_Land_isNearer_16 rfl (lv_at hl 1 rfl) ?_
    refine lv_iload_n hx hb zd_Land_isNearer_17 rfl (lv_at hl 3 rfl) ?_
    obtain ⟨v9, hq10, hf⟩ := zu_b1_e hf
    refine zw_Land_away (rest := []) B hP hS hr0 hq10 zq_346 (Nat.le_of_ble_eq_true rfl) (Nat.le_of_ble_eq_true rfl) hl.1 rfl (Nat.le_of_ble_eq_true rfl) zd_Land_isNearer_18 (by decide) (fun H locs hP hS => ?_)
    clear hq10
    refine lv_aload_n hx hb zd_Land_isNearer_21 rfl (lv_at hl 0 rfl) ?_
    refine lv_iload_n hx hb zd_Land_isNearer_22 rfl (lv_at hl 2 rfl) ?_
    refine lv_iload_n hx hb zd_Land_isNearer_23 rfl (lv_at hl 3 rfl) ?_
    obtain ⟨v11, hq12, hf⟩ := zu_b1_e hf
    refine zw_Land_away (rest := [.int v9]) B hP hS hr0 hq12 zq_346 (Nat.le_of_ble_eq_true rfl) (Nat.le_of_ble_eq_true rfl) hl.1 rfl (Nat.le_of_ble_eq_true rfl) zd_Land_isNearer_24 (by decide) (fun H locs hP hS => ?_)
    clear hq12
    refine lv_icmp_ge (tgt := 34) hx hb zd_Land_isNearer_27 (by decide) (fun c13 => ?_) (fun c13 => ?_)
    · have hf := zu_t c13 hf
      refine lv_iconst (v := 0) hx hb zd_Land_isNearer_34 (by decide) ?_
      exact zl_Land_isNearer_L35 B hret hlk (0 : Int32) _ _ _ hP hS (lv_sub hl [] rfl) hf
    · have hf := zu_f c13 hf
      refine lv_iconst (v := 1) hx hb zd_Land_isNearer_30 (by decide) ?_
      refine lv_goto (tgt := 35) hx hb zd_Land_isNearer_31 (by decide) ?_
      exact zl_Land_isNearer_L35 B hret hlk (1 : Int32) _ _ _ hP hS (lv_sub hl [] rfl) hf
theorem zC_Land_isNearer (l : Launch) {D : va_G} {cA : Nat → ClassId} {ad : Nat → Nat} {A : Nat → Prop} {r0 : Nat} {a1 : Int32} {a2 : Int32} {a3 : Int32} {X : IX} {Y : LX} {res : Int32} (hr0 : zu_kd r0 = 5) (hf : fn_Land_isNearer X r0 a1 a2 a3 = some res) : Met l zm_Land_isNearer (zu_ws zm_Land_isNearer zb_Land_isNearer 4 (some .boolean)) zR_Land_isNearer (va_Pc [.ref (ad r0), .int a1, .int a2, .int a3] (zu_Pre D cA ad A X Y)) (zu_Qi D cA ad A res X Y) 0 0 A := by
  refine Met.ofW (cc := zb_Land_isNearer) (maxL := 4) (ret := (some .boolean)) (by decide +kernel) rfl ?_
  intro p e s m args below meth c s₁ B0 hml hv
  obtain ⟨rfl, hP, hST⟩ := hv
  have B : zu_B p s m _ c zb_Land_isNearer 4 "StonePost$Land" D cA ad A := ⟨B0.exec, B0.bytes, hml, findClass_of_methodNamed B0.named, (fun w hw => atoms_spec (ws := zu_ws zm_Land_isNearer zb_Land_isNearer 4 (some .boolean)) B0.pre w (List.mem_cons_of_mem _ hw)), hST⟩
  have hl := lv_entry ([.ref (ad r0), .int a1, .int a2, .int a3]) (n := 4) (Nat.le_of_ble_eq_true rfl)
  rw [lg_entry_eq]
  generalize (lg_sl ([.ref (ad r0), .int a1, .int a2, .int a3]) ++ List.replicate (4 - (lg_sl ([.ref (ad r0), .int a1, .int a2, .int a3])).length) Slot.unset).toArray = ls at hl ⊢
  exact zl_Land_isNearer B B0.returns B0.notSynchronized s.heap [] ls hP va_S.rf hl hr0 hf
theorem zw_Land_isNearer {p : Program} {l : Launch} {e : Env} {R : Room} {s : State} {m : MethodId} {args : Array Value} {below : List Frame} {meth : Method} {c : Code} {H : Heap} {locs : List Loc} {cells slots : Nat} {Q : State → Prop} {cc : ByteArray} {pc nL : Nat} {ls : Array Slot} {rest st0 : List Value} {D : va_G} {cA : Nat → ClassId} {ad : Nat → Nat} {A : Nat → Prop} {X : IX} {Y : LX} {own : String} {index : Nat} {r0 : Nat} {a1 : Int32} {a2 : Int32} {a3 : Int32} {v1 : Int32} (B : zu_B p s m args c cc nL own D cA ad A) (hP : va_P D zu_cl (zu_pic cA ad X Y) H) (hS : va_S A s.heap H locs) (hr0 : zu_kd r0 = 5) (hq : fn_Land_isNearer X r0 a1 a2 a3 = some v1) (m1 : Cond.methodLink own index zm_Land_isNearer ∈ zu_TB) (hR1 : 2 + 1 ≤ R.frames) (hR2 : 8 + (4 + 11) + 43 ≤ R.locals) (hsz : ls.size = nL) (hst : st0 = .int a3 :: .int a2 :: .int a1 :: .ref (ad r0) :: rest) (hw : (rest.map fun v => v.category).sum ≤ 8) (hdg : decode cc pc = .ok (.invokevirtual index, 3)) (h00 : cells ≤ R.cells ∧ slots ≤ R.slots) (kk : ∀ (H1 : Heap) (locs1 : List Loc), va_P D zu_cl (zu_pic cA ad X Y) H1 → va_S A s.heap H1 locs1 → W p l e R s m args below meth c H1 locs1 cells slots Q (F0 m (pc + 3) ls (.int v1 :: rest))) : W p l e R s m args below meth c H locs cells slots Q (F0 m pc ls st0) := by
  subst hst
  exact zr_cVi (As := [.int a1, .int a2, .int a3]) (rest := rest) (n := 3) (C := "StonePost$Land") (T := zt_Land) (N := 10) B hP hS (zC_Land_isNearer l hr0 hq) (K := 5) hr0 (by decide) (by decide) rfl rfl m1 zq_355 zqP_4 zq_2 zq_356 (by decide +kernel) ⟨hR1, hR2⟩ rfl rfl rfl hsz rfl hw hdg h00 kk
abbrev zR_Land_handFor : Room := { frames := 3, cells := 0, slots := 0, locals := 66 }
theorem zd_Land_handFor_0 : decode zb_Land_handFor 0 = .ok (.aload_n 0, 1) := by decide +kernel
theorem zd_Land_handFor_1 : decode zb_Land_handFor 1 = .ok (.iload_n 1, 1) := by decide +kernel
theorem zd_Land_handFor_2 : decode zb_Land_handFor 2 = .ok (.invokevirtual 70, 3) := by decide +kernel
theorem zd_Land_handFor_5 : decode zb_Land_handFor 5 = .ok (.ifCond .eq 5, 3) := by decide +kernel
theorem zd_Land_handFor_8 : decode zb_Land_handFor 8 = .ok (.iconst (-1), 1) := by decide +kernel
theorem zd_Land_handFor_9 : decode zb_Land_handFor 9 = .ok (.ireturn, 1) := by decide +kernel
theorem zd_Land_handFor_10 : decode zb_Land_handFor 10 = .ok (.iconst (-1), 1) := by decide +kernel
theorem zd_Land_handFor_11 : decode zb_Land_handFor 11 = .ok (.istore_n 2, 1) := by decide +kernel
theorem zd_Land_handFor_12 : decode zb_Land_handFor 12 = .ok (.iconst 0, 1) := by decide +kernel
theorem zd_Land_handFor_13 : decode zb_Land_handFor 13 = .ok (.istore_n 3, 1) := by decide +kernel
theorem zd_Land_handFor_14 : decode zb_Land_handFor 14 = .ok (.iload_n 3, 1) := by decide +kernel
theorem zd_Land_handFor_15 : decode zb_Land_handFor 15 = .ok (.aload_n 0, 1) := by decide +kernel
theorem zd_Land_handFor_16 : decode zb_Land_handFor 16 = .ok (.getfield 53, 3) := by decide +kernel
theorem zd_Land_handFor_19 : decode zb_Land_handFor 19 = .ok (.if_icmp .ge 51, 3) := by decide +kernel
theorem zd_Land_handFor_22 : decode zb_Land_handFor 22 = .ok (.aload_n 0, 1) := by decide +kernel
theorem zd_Land_handFor_23 : decode zb_Land_handFor 23 = .ok (.getfield 17, 3) := by decide +kernel
theorem zd_Land_handFor_26 : decode zb_Land_handFor 26 = .ok (.iload_n 3, 1) := by decide +kernel
theorem zd_Land_handFor_27 : decode zb_Land_handFor 27 = .ok (.aaload, 1) := by decide +kernel
theorem zd_Land_handFor_28 : decode zb_Land_handFor 28 = .ok (.invokevirtual 74, 3) := by decide +kernel
theorem zd_Land_handFor_31 : decode zb_Land_handFor 31 = .ok (.ifCond .ne 33, 3) := by decide +kernel
theorem zd_Land_handFor_34 : decode zb_Land_handFor 34 = .ok (.aload_n 0, 1) := by decide +kernel
theorem zd_Land_handFor_35 : decode zb_Land_handFor 35 = .ok (.iload_n 3, 1) := by decide +kernel
theorem zd_Land_handFor_36 : decode zb_Land_handFor 36 = .ok (.iload_n 1, 1) := by decide +kernel
theorem zd_Land_handFor_37 : decode zb_Land_handFor 37 = .ok (.invokevirtual 78, 3) := by decide +kernel
theorem zd_Land_handFor_40 : decode zb_Land_handFor 40 = .ok (.aload_n 0, 1) := by decide +kernel
theorem zd_Land_handFor_41 : decode zb_Land_handFor 41 = .ok (.getfield 31, 3) := by decide +kernel
theorem zd_Land_handFor_44 : decode zb_Land_handFor 44 = .ok (.if_icmp .gt 20, 3) := by decide +kernel
theorem zd_Land_handFor_47 : decode zb_Land_handFor 47 = .ok (.iload_n 2, 1) := by decide +kernel
theorem zd_Land_handFor_48 : decode zb_Land_handFor 48 = .ok (.iconst (-1), 1) := by decide +kernel
theorem zd_Land_handFor_49 : decode zb_Land_handFor 49 = .ok (.if_icmp .eq 13, 3) := by decide +kernel
theorem zd_Land_handFor_52 : decode zb_Land_handFor 52 = .ok (.aload_n 0, 1) := by decide +kernel
theorem zd_Land_handFor_53 : decode zb_Land_handFor 53 = .ok (.iload_n 3, 1) := by decide +kernel
theorem zd_Land_handFor_54 : decode zb_Land_handFor 54 = .ok (.iload_n 2, 1) := by decide +kernel
theorem zd_Land_handFor_55 : decode zb_Land_handFor 55 = .ok (.iload_n 1, 1) := by decide +kernel
theorem zd_Land_handFor_56 : decode zb_Land_handFor 56 = .ok (.invokevirtual 82, 3) := by decide +kernel
theorem zd_Land_handFor_59 : decode zb_Land_handFor 59 = .ok (.ifCond .eq 5, 3) := by decide +kernel
theorem zd_Land_handFor_62 : decode zb_Land_handFor 62 = .ok (.iload_n 3, 1) := by decide +kernel
theorem zd_Land_handFor_63 : decode zb_Land_handFor 63 = .ok (.istore_n 2, 1) := by decide +kernel
theorem zd_Land_handFor_64 : decode zb_Land_handFor 64 = .ok (.iinc 3 1, 3) := by decide +kernel
theorem zd_Land_handFor_67 : decode zb_Land_handFor 67 = .ok (.goto (-53), 3) := by decide +kernel
theorem zd_Land_handFor_70 : decode zb_Land_handFor 70 = .ok (.iload_n 2, 1) := by decide +kernel
theorem zd_Land_handFor_71 : decode zb_Land_handFor 71 = .ok (.ireturn, 1) := by decide +kernel
set_option maxHeartbeats 4000000 in
theorem zl_Land_handFor_L64 {p : Program} {l : Launch} {e : Env} {s : State} {m : MethodId} {args : Array Value} {below : List Frame} {meth : Method} {c : Code} {D : va_G} {cA : Nat → ClassId} {ad : Nat → Nat} {A : Nat → Prop} (B : zu_B p s m args c zb_Land_handFor 4 "StonePost$Land" D cA ad A) (hret : meth.sig.returnType = (some .int)) (hlk : meth.locks = false) {X : IX} {Y : LX} {res : Int32} {k14 : Nat → Int32 → Int32 → Int32 → Option Int32} (hk14 : ∀ (r0 : Nat) (x1 : Int32) (x2 : Int32) (x3 : Int32) (H : Heap) (locs : List Loc) (ls : Array Slot), va_P D zu_cl (zu_pic cA ad X Y) H → va_S A s.heap H locs → lv_has ls 4 [(0, .ref (ad r0)), (1, .int x1), (2, .int x2), (3, .int x3)] → zu_kd r0 = 5 → k14 r0 x1 x2 x3 = some res → W p l e zR_Land_handFor s m args below meth c H locs 0 0 (MQ below (zu_Qi D cA ad A res X Y) args s 0 0 A) (F0 m 14 ls [])) (r0 : Nat) (x1 : Int32) (x2 : Int32) (x3 : Int32) (H : Heap) (locs : List Loc) (ls : Array Slot) (hP : va_P D zu_cl (zu_pic cA ad X Y) H) (hS : va_S A s.heap H locs) (hl : lv_has ls 4 [(0, .ref (ad r0)), (1, .int x1), (2, .int x2), (3, .int x3)]) (hr0 : zu_kd r0 = 5) (hf : fn_Land_handFor_L64 X k14 r0 x1 x2 x3 = some res) : W p l e zR_Land_handFor s m args below meth c H locs 0 0 (MQ below (zu_Qi D cA ad A res X Y) args s 0 0 A) (F0 m 64 ls []) := by
  obtain ⟨hx, hb, hml, hown, hts, hST⟩ := id B
  unfold fn_Land_handFor_L64 at hf
  obtain ⟨v16, ev16, hf⟩ := zu_nx_e hf
  refine lv_iinc (v := v16) (lv' := [(3, .int v16), (0, .ref (ad r0)), (1, .int x1), (2, .int x2)]) hx hb zd_Land_handFor_64 hl (k := 3) rfl (by rw [ev16]; rfl) (by decide) rfl (fun ls hl => ?_)
  clear ev16
  refine lv_goto (tgt := 14) hx hb zd_Land_handFor_67 (by decide) ?_
  exact hk14 r0 x1 x2 v16 _ _ _ hP hS (lv_sub hl [1, 2, 3, 0] rfl) hr0 hf
set_option maxHeartbeats 4000000 in
theorem zl_Land_handFor_L62 {p : Program} {l : Launch} {e : Env} {s : State} {m : MethodId} {args : Array Value} {below : List Frame} {meth : Method} {c : Code} {D : va_G} {cA : Nat → ClassId} {ad : Nat → Nat} {A : Nat → Prop} (B : zu_B p s m args c zb_Land_handFor 4 "StonePost$Land" D cA ad A) (hret : meth.sig.returnType = (some .int)) (hlk : meth.locks = false) {X : IX} {Y : LX} {res : Int32} {k14 : Nat → Int32 → Int32 → Int32 → Option Int32} (hk14 : ∀ (r0 : Nat) (x1 : Int32) (x2 : Int32) (x3 : Int32) (H : Heap) (locs : List Loc) (ls : Array Slot), va_P D zu_cl (zu_pic cA ad X Y) H → va_S A s.heap H locs → lv_has ls 4 [(0, .ref (ad r0)), (1, .int x1), (2, .int x2), (3, .int x3)] → zu_kd r0 = 5 → k14 r0 x1 x2 x3 = some res → W p l e zR_Land_handFor s m args below meth c H locs 0 0 (MQ below (zu_Qi D cA ad A res X Y) args s 0 0 A) (F0 m 14 ls [])) (r0 : Nat) (x1 : Int32) (x3 : Int32) (H : Heap) (locs : List Loc) (ls : Array Slot) (hP : va_P D zu_cl (zu_pic cA ad X Y) H) (hS : va_S A s.heap H locs) (hl : lv_has ls 4 [(0, .ref (ad r0)), (1, .int x1), (3, .int x3)]) (hr0 : zu_kd r0 = 5) (hf : fn_Land_handFor_L62 X k14 r0 x1 x3 = some res) : W p l e zR_Land_handFor s m args below meth c H locs 0 0 (MQ below (zu_Qi D cA ad A res X Y) args s 0 0 A) (F0 m 62 ls []) := by
  obtain ⟨hx, hb, hml, hown, hts, hST⟩ := id B
  unfold fn_Land_handFor_L62 at hf
  refine lv_iload_n hx hb zd_Land_handFor_62 rfl (lv_at hl 2 rfl) ?_
  refine lv_istore_n (lv' := [(2, .int x3), (0, .ref (ad r0)), (1, .int x1), (3, .int x3)]) hx hb zd_Land_handFor_63 rfl hl (by decide) rfl (fun ls hl => ?_)
  exact zl_Land_handFor_L64 B hret hlk hk14 r0 x1 x3 x3 _ _ _ hP hS (lv_sub hl [1, 2, 0, 3] rfl) hr0 hf
set_option maxHeartbeats 4000000 in
theorem zl_Land_handFor_B14 {p : Program} {l : Launch} {e : Env} {s : State} {m : MethodId} {args : Array Value} {below : List Frame} {meth : Method} {c : Code} {D : va_G} {cA : Nat → ClassId} {ad : Nat → Nat} {A : Nat → Prop} (B : zu_B p s m args c zb_Land_handFor 4 "StonePost$Land" D cA ad A) (hret : meth.sig.returnType = (some .int)) (hlk : meth.locks = false) {X : IX} {Y : LX} {res : Int32} {k14 : Nat → Int32 → Int32 → Int32 → Option Int32} (hk14 : ∀ (r0 : Nat) (x1 : Int32) (x2 : Int32) (x3 : Int32) (H : Heap) (locs : List Loc) (ls : Array Slot), va_P D zu_cl (zu_pic cA ad X Y) H → va_S A s.heap H locs → lv_has ls 4 [(0, .ref (ad r0)), (1, .int x1), (2, .int x2), (3, .int x3)] → zu_kd r0 = 5 → k14 r0 x1 x2 x3 = some res → W p l e zR_Land_handFor s m args below meth c H locs 0 0 (MQ below (zu_Qi D cA ad A res X Y) args s 0 0 A) (F0 m 14 ls [])) (r0 : Nat) (x1 : Int32) (x2 : Int32) (x3 : Int32) (H : Heap) (locs : List Loc) (ls : Array Slot) (hP : va_P D zu_cl (zu_pic cA ad X Y) H) (hS : va_S A s.heap H locs) (hl : lv_has ls 4 [(0, .ref (ad r0)), (1, .int x1), (2, .int x2), (3, .int x3)]) (hr0 : zu_kd r0 = 5) (hf : fn_Land_handFor_B14 X k14 r0 x1 x2 x3 = some res) : W p l e zR_Land_handFor s m args below meth c H locs 0 0 (MQ below (zu_Qi D cA ad A res X Y) args s 0 0 A) (F0 m 14 ls []) := by
  obtain ⟨hx, hb, hml, hown, hts, hST⟩ := id B
  unfold fn_Land_handFor_B14 at hf
  refine lv_iload_n hx hb zd_Land_handFor_14 rfl (lv_at hl 3 rfl) ?_
  refine lv_aload_n hx hb zd_Land_handFor_15 rfl (lv_at hl 0 rfl) ?_
  refine zg_Land_throwerCount B hP hr0 zq_61 zd_Land_handFor_16 ?_
  refine lv_icmp_ge (tgt := 70) hx hb zd_Land_handFor_19 (by decide) (fun c4 => ?_) (fun c4 => ?_)
  · have hf := zu_t c4 hf
    refine lv_iload_n hx hb zd_Land_handFor_70 rfl (lv_at hl 2 rfl) ?_
    obtain rfl := Option.some.inj hf
    exact zr_iret hx hb hret hlk hP hS zd_Land_handFor_71
  · have hf := zu_f c4 hf
    refine lv_aload_n hx hb zd_Land_handFor_22 rfl (lv_at hl 0 rfl) ?_
    refine zg_Land_throwers B hP hr0 zq_53 zd_Land_handFor_23 ?_
    refine lv_iload_n hx hb zd_Land_handFor_26 rfl (lv_at hl 3 rfl) ?_
    obtain ⟨hg5, hf⟩ := zu_gd_e hf
    refine zr_thr rfl B hP (zk_Land_throwers hr0) hg5 zd_Land_handFor_27 ?_
    obtain ⟨v6, hq7, hf⟩ := zu_b1_e hf
    refine zw_Thr_isIll (rest := []) B hP hS (zk_thr (zk_Land_throwers hr0) (zu_ib_lt hg5)) hq7 zq_342 (Nat.le_of_ble_eq_true rfl) (Nat.le_of_ble_eq_true rfl) hl.1 rfl (Nat.le_of_ble_eq_true rfl) zd_Land_handFor_28 (by decide) (fun H locs hP hS => ?_)
    clear hq7
    refine lv_if_ne (tgt := 64) hx hb zd_Land_handFor_31 (by decide) (fun c8 => ?_) (fun c8 => ?_)
    · have hf := zu_f c8 hf
      exact zl_Land_handFor_L64 B hret hlk hk14 r0 x1 x2 x3 _ _ _ hP hS (lv_sub hl [0, 1, 2, 3] rfl) hr0 hf
    · have hf := zu_t c8 hf
      refine lv_aload_n hx hb zd_Land_handFor_34 rfl (lv_at hl 0 rfl) ?_
      refine lv_iload_n hx hb zd_Land_handFor_35 rfl (lv_at hl 3 rfl) ?_
      refine lv_iload_n hx hb zd_Land_handFor_36 rfl (lv_at hl 1 rfl) ?_
      obtain ⟨v9, hq10, hf⟩ := zu_b1_e hf
      refine zw_Land_away (rest := []) B hP hS hr0 hq10 zq_346 (Nat.le_of_ble_eq_true rfl) (Nat.le_of_ble_eq_true rfl) hl.1 rfl (Nat.le_of_ble_eq_true rfl) zd_Land_handFor_37 (by decide) (fun H locs hP hS => ?_)
      clear hq10
      refine lv_aload_n hx hb zd_Land_handFor_40 rfl (lv_at hl 0 rfl) ?_
      refine zg_Land_fetch B hP hr0 zq_71 zd_Land_handFor_41 ?_
      refine lv_icmp_gt (tgt := 64) hx hb zd_Land_handFor_44 (by decide) (fun c11 => ?_) (fun c11 => ?_)
      · have hf := zu_t c11 hf
        exact zl_Land_handFor_L64 B hret hlk hk14 r0 x1 x2 x3 _ _ _ hP hS (lv_sub hl [0, 1, 2, 3] rfl) hr0 hf
      · have hf := zu_f c11 hf
        refine lv_iload_n hx hb zd_Land_handFor_47 rfl (lv_at hl 2 rfl) ?_
        refine lv_iconst (v := -1) hx hb zd_Land_handFor_48 (by decide) ?_
        refine lv_icmp_eq (tgt := 62) hx hb zd_Land_handFor_49 (by decide) (fun c12 => ?_) (fun c12 => ?_)
        · have hf := zu_t c12 hf
          exact zl_Land_handFor_L62 B hret hlk hk14 r0 x1 x3 _ _ _ hP hS (lv_sub hl [0, 1, 3] rfl) hr0 hf
        · have hf := zu_f c12 hf
          refine lv_aload_n hx hb zd_Land_handFor_52 rfl (lv_at hl 0 rfl) ?_
          refine lv_iload_n hx hb zd_Land_handFor_53 rfl (lv_at hl 3 rfl) ?_
          refine lv_iload_n hx hb zd_Land_handFor_54 rfl (lv_at hl 2 rfl) ?_
          refine lv_iload_n hx hb zd_Land_handFor_55 rfl (lv_at hl 1 rfl) ?_
          obtain ⟨v13, hq14, hf⟩ := zu_b1_e hf
          refine zw_Land_isNearer (rest := []) B hP hS hr0 hq14 zq_353 (Nat.le_of_ble_eq_true rfl) (Nat.le_of_ble_eq_true rfl) hl.1 rfl (Nat.le_of_ble_eq_true rfl) zd_Land_handFor_56 (by decide) (fun H locs hP hS => ?_)
          clear hq14
          refine lv_if_eq (tgt := 64) hx hb zd_Land_handFor_59 (by decide) (fun c15 => ?_) (fun c15 => ?_)
          · have hf := zu_t c15 hf
            exact zl_Land_handFor_L64 B hret hlk hk14 r0 x1 x2 x3 _ _ _ hP hS (lv_sub hl [0, 1, 2, 3] rfl) hr0 hf
          · have hf := zu_f c15 hf
            exact zl_Land_handFor_L62 B hret hlk hk14 r0 x1 x3 _ _ _ hP hS (lv_sub hl [0, 1, 3] rfl) hr0 hf
theorem zl_Land_handFor_L14 {p : Program} {l : Launch} {e : Env} {s : State} {m : MethodId} {args : Array Value} {below : List Frame} {meth : Method} {c : Code} {D : va_G} {cA : Nat → ClassId} {ad : Nat → Nat} {A : Nat → Prop} (B : zu_B p s m args c zb_Land_handFor 4 "StonePost$Land" D cA ad A) (hret : meth.sig.returnType = (some .int)) (hlk : meth.locks = false) {X : IX} {Y : LX} {res : Int32} : ∀ (n : Nat) (r0 : Nat) (x1 : Int32) (x2 : Int32) (x3 : Int32) (H : Heap) (locs : List Loc) (ls : Array Slot), va_P D zu_cl (zu_pic cA ad X Y) H → va_S A s.heap H locs → lv_has ls 4 [(0, .ref (ad r0)), (1, .int x1), (2, .int x2), (3, .int x3)] → zu_kd r0 = 5 → fn_Land_handFor_L14 X n r0 x1 x2 x3 = some res → W p l e zR_Land_handFor s m args below meth c H locs 0 0 (MQ below (zu_Qi D cA ad A res X Y) args s 0 0 A) (F0 m 14 ls []) := by
  intro n
  induction n with
  | zero =>
    intro r0 x1 x2 x3 H locs ls hP hS hl hr0 hf
    exact (Option.some_ne_none _ hf.symm).elim
  | succ n ih =>
    intro r0 x1 x2 x3 H locs ls hP hS hl hr0 hf
    exact zl_Land_handFor_B14 B hret hlk ih r0 x1 x2 x3 H locs ls hP hS hl hr0 hf
set_option maxHeartbeats 4000000 in
theorem zl_Land_handFor {p : Program} {l : Launch} {e : Env} {s : State} {m : MethodId} {args : Array Value} {below : List Frame} {meth : Method} {c : Code} {D : va_G} {cA : Nat → ClassId} {ad : Nat → Nat} {A : Nat → Prop} (B : zu_B p s m args c zb_Land_handFor 4 "StonePost$Land" D cA ad A) (hret : meth.sig.returnType = (some .int)) (hlk : meth.locks = false) {X : IX} {Y : LX} {res : Int32} {r0 : Nat} {a1 : Int32} (H : Heap) (locs : List Loc) (ls : Array Slot) (hP : va_P D zu_cl (zu_pic cA ad X Y) H) (hS : va_S A s.heap H locs) (hl : lv_has ls 4 [(0, .ref (ad r0)), (1, .int a1)]) (hr0 : zu_kd r0 = 5) (hf : fn_Land_handFor X r0 a1 = some res) : W p l e zR_Land_handFor s m args below meth c H locs 0 0 (MQ below (zu_Qi D cA ad A res X Y) args s 0 0 A) (F0 m 0 ls []) := by
  obtain ⟨hx, hb, hml, hown, hts, hST⟩ := id B
  unfold fn_Land_handFor at hf
  refine lv_aload_n hx hb zd_Land_handFor_0 rfl (lv_at hl 0 rfl) ?_
  refine lv_iload_n hx hb zd_Land_handFor_1 rfl (lv_at hl 1 rfl) ?_
  obtain ⟨v1, hq2, hf⟩ := zu_b1_e hf
  refine zw_Land_staysOn (rest := []) B hP hS hr0 hq2 zq_334 (Nat.le_of_ble_eq_true rfl) (Nat.le_of_ble_eq_true rfl) hl.1 rfl (Nat.le_of_ble_eq_true rfl) zd_Land_handFor_2 (by decide) (fun H locs hP hS => ?_)
  clear hq2
  refine lv_if_eq (tgt := 10) hx hb zd_Land_handFor_5 (by decide) (fun c3 => ?_) (fun c3 => ?_)
  · have hf := zu_t c3 hf
    refine lv_iconst (v := -1) hx hb zd_Land_handFor_10 (by decide) ?_
    refine lv_istore_n (lv' := [(2, .int (-1 : Int32)), (0, .ref (ad r0)), (1, .int a1)]) hx hb zd_Land_handFor_11 rfl hl (by decide) rfl (fun ls hl => ?_)
    refine lv_iconst (v := 0) hx hb zd_Land_handFor_12 (by decide) ?_
    refine lv_istore_n (lv' := [(3, .int (0 : Int32)), (2, .int (-1 : Int32)), (0, .ref (ad r0)), (1, .int a1)]) hx hb zd_Land_handFor_13 rfl hl (by decide) rfl (fun ls hl => ?_)
    exact zl_Land_handFor_L14 B hret hlk 400 r0 a1 (-1 : Int32) (0 : Int32) _ _ _ hP hS (lv_sub hl [2, 3, 1, 0] rfl) hr0 hf
  · have hf := zu_f c3 hf
    refine lv_iconst (v := -1) hx hb zd_Land_handFor_8 (by decide) ?_
    obtain rfl := Option.some.inj hf
    exact zr_iret hx hb hret hlk hP hS zd_Land_handFor_9
theorem zC_Land_handFor (l : Launch) {D : va_G} {cA : Nat → ClassId} {ad : Nat → Nat} {A : Nat → Prop} {r0 : Nat} {a1 : Int32} {X : IX} {Y : LX} {res : Int32} (hr0 : zu_kd r0 = 5) (hf : fn_Land_handFor X r0 a1 = some res) : Met l zm_Land_handFor (zu_ws zm_Land_handFor zb_Land_handFor 4 (some .int)) zR_Land_handFor (va_Pc [.ref (ad r0), .int a1] (zu_Pre D cA ad A X Y)) (zu_Qi D cA ad A res X Y) 0 0 A := by
  refine Met.ofW (cc := zb_Land_handFor) (maxL := 4) (ret := (some .int)) (by decide +kernel) rfl ?_
  intro p e s m args below meth c s₁ B0 hml hv
  obtain ⟨rfl, hP, hST⟩ := hv
  have B : zu_B p s m _ c zb_Land_handFor 4 "StonePost$Land" D cA ad A := ⟨B0.exec, B0.bytes, hml, findClass_of_methodNamed B0.named, (fun w hw => atoms_spec (ws := zu_ws zm_Land_handFor zb_Land_handFor 4 (some .int)) B0.pre w (List.mem_cons_of_mem _ hw)), hST⟩
  have hl := lv_entry ([.ref (ad r0), .int a1]) (n := 4) (Nat.le_of_ble_eq_true rfl)
  rw [lg_entry_eq]
  generalize (lg_sl ([.ref (ad r0), .int a1]) ++ List.replicate (4 - (lg_sl ([.ref (ad r0), .int a1])).length) Slot.unset).toArray = ls at hl ⊢
  exact zl_Land_handFor B B0.returns B0.notSynchronized s.heap [] ls hP va_S.rf hl hr0 hf
theorem zw_Land_handFor {p : Program} {l : Launch} {e : Env} {R : Room} {s : State} {m : MethodId} {args : Array Value} {below : List Frame} {meth : Method} {c : Code} {H : Heap} {locs : List Loc} {cells slots : Nat} {Q : State → Prop} {cc : ByteArray} {pc nL : Nat} {ls : Array Slot} {rest st0 : List Value} {D : va_G} {cA : Nat → ClassId} {ad : Nat → Nat} {A : Nat → Prop} {X : IX} {Y : LX} {own : String} {index : Nat} {r0 : Nat} {a1 : Int32} {v1 : Int32} (B : zu_B p s m args c cc nL own D cA ad A) (hP : va_P D zu_cl (zu_pic cA ad X Y) H) (hS : va_S A s.heap H locs) (hr0 : zu_kd r0 = 5) (hq : fn_Land_handFor X r0 a1 = some v1) (m1 : Cond.methodLink own index zm_Land_handFor ∈ zu_TB) (hR1 : 3 + 1 ≤ R.frames) (hR2 : 8 + (4 + 11) + 66 ≤ R.locals) (hsz : ls.size = nL) (hst : st0 = .int a1 :: .ref (ad r0) :: rest) (hw : (rest.map fun v => v.category).sum ≤ 8) (hdg : decode cc pc = .ok (.invokevirtual index, 3)) (h00 : cells ≤ R.cells ∧ slots ≤ R.slots) (kk : ∀ (H1 : Heap) (locs1 : List Loc), va_P D zu_cl (zu_pic cA ad X Y) H1 → va_S A s.heap H1 locs1 → W p l e R s m args below meth c H1 locs1 cells slots Q (F0 m (pc + 3) ls (.int v1 :: rest))) : W p l e R s m args below meth c H locs cells slots Q (F0 m pc ls st0) := by
  subst hst
  exact zr_cVi (As := [.int a1]) (rest := rest) (n := 1) (C := "StonePost$Land") (T := zt_Land) (N := 10) B hP hS (zC_Land_handFor l hr0 hq) (K := 5) hr0 (by decide) (by decide) rfl rfl m1 zq_331 zq_332 zq_2 zq_333 (by decide +kernel) ⟨hR1, hR2⟩ rfl rfl rfl hsz rfl hw hdg h00 kk
abbrev zR_Post_next : Room := { frames := 4, cells := 0, slots := 0, locals := 89 }
theorem zd_Post_next_0 : decode zb_Post_next 0 = .ok (.iload_n 1, 1) := by decide +kernel
theorem zd_Post_next_1 : decode zb_Post_next 1 = .ok (.invokestatic 47, 3) := by decide +kernel
theorem zd_Post_next_4 : decode zb_Post_next 4 = .ok (.ifCond .ne 10, 3) := by decide +kernel
theorem zd_Post_next_7 : decode zb_Post_next 7 = .ok (.aload_n 0, 1) := by decide +kernel
theorem zd_Post_next_8 : decode zb_Post_next 8 = .ok (.ldc 55, 2) := by decide +kernel
theorem zd_Post_next_10 : decode zb_Post_next 10 = .ok (.invokevirtual 56, 3) := by decide +kernel
theorem zd_Post_next_13 : decode zb_Post_next 13 = .ok (.ireturn, 1) := by decide +kernel
theorem zd_Post_next_14 : decode zb_Post_next 14 = .ok (.aload_n 0, 1) := by decide +kernel
theorem zd_Post_next_15 : decode zb_Post_next 15 = .ok (.getfield 10, 3) := by decide +kernel
theorem zd_Post_next_18 : decode zb_Post_next 18 = .ok (.iload_n 1, 1) := by decide +kernel
theorem zd_Post_next_19 : decode zb_Post_next 19 = .ok (.invokevirtual 117, 3) := by decide +kernel
theorem zd_Post_next_22 : decode zb_Post_next 22 = .ok (.istore_n 2, 1) := by decide +kernel
theorem zd_Post_next_23 : decode zb_Post_next 23 = .ok (.iload_n 2, 1) := by decide +kernel
theorem zd_Post_next_24 : decode zb_Post_next 24 = .ok (.iconst (-1), 1) := by decide +kernel
theorem zd_Post_next_25 : decode zb_Post_next 25 = .ok (.if_icmp .ne 12, 3) := by decide +kernel
theorem zd_Post_next_28 : decode zb_Post_next 28 = .ok (.aload_n 0, 1) := by decide +kernel
theorem zd_Post_next_29 : decode zb_Post_next 29 = .ok (.ldc 120, 2) := by decide +kernel
theorem zd_Post_next_31 : decode zb_Post_next 31 = .ok (.invokevirtual 56, 3) := by decide +kernel
theorem zd_Post_next_34 : decode zb_Post_next 34 = .ok (.goto 4, 3) := by decide +kernel
theorem zd_Post_next_37 : decode zb_Post_next 37 = .ok (.iload_n 2, 1) := by decide +kernel
theorem zd_Post_next_38 : decode zb_Post_next 38 = .ok (.ireturn, 1) := by decide +kernel
set_option maxHeartbeats 4000000 in
theorem zl_Post_next_L38 {p : Program} {l : Launch} {e : Env} {s : State} {m : MethodId} {args : Array Value} {below : List Frame} {meth : Method} {c : Code} {D : va_G} {cA : Nat → ClassId} {ad : Nat → Nat} {A : Nat → Prop} (B : zu_B p s m args c zb_Post_next 3 "StonePost" D cA ad A) (hret : meth.sig.returnType = (some .int)) (hlk : meth.locks = false) {Y : LX} {res : Int32 × IX} (y0 : Int32) (X : IX) (H : Heap) (locs : List Loc) (ls : Array Slot) (hP : va_P D zu_cl (zu_pic cA ad X Y) H) (hS : va_S A s.heap H locs) (hl : lv_has ls 3 []) (hf : fn_Post_next_L38 y0 X = some res) : W p l e zR_Post_next s m args below meth c H locs 0 0 (MQ below (zu_Qi D cA ad A res.1 res.2 Y) args s 0 0 A) (F0 m 38 ls [.int y0]) := by
  obtain ⟨hx, hb, hml, hown, hts, hST⟩ := id B
  unfold fn_Post_next_L38 at hf
  obtain rfl := Option.some.inj hf
  exact zr_iret hx hb hret hlk hP hS zd_Post_next_38
set_option maxHeartbeats 4000000 in
theorem zl_Post_next {p : Program} {l : Launch} {e : Env} {s : State} {m : MethodId} {args : Array Value} {below : List Frame} {meth : Method} {c : Code} {D : va_G} {cA : Nat → ClassId} {ad : Nat → Nat} {A : Nat → Prop} (B : zu_B p s m args c zb_Post_next 3 "StonePost" D cA ad A) (hret : meth.sig.returnType = (some .int)) (hlk : meth.locks = false) {Y : LX} {res : Int32 × IX} {a1 : Int32} {X : IX} (H : Heap) (locs : List Loc) (ls : Array Slot) (hP : va_P D zu_cl (zu_pic cA ad X Y) H) (hS : va_S A s.heap H locs) (hl : lv_has ls 3 [(0, .ref (ad 0)), (1, .int a1)]) (hf : fn_Post_next a1 X = some res) : W p l e zR_Post_next s m args below meth c H locs 0 0 (MQ below (zu_Qi D cA ad A res.1 res.2 Y) args s 0 0 A) (F0 m 0 ls []) := by
  obtain ⟨hx, hb, hml, hown, hts, hST⟩ := id B
  unfold fn_Post_next at hf
  refine lv_iload_n hx hb zd_Post_next_0 rfl (lv_at hl 1 rfl) ?_
  obtain ⟨v1, hq2, hf⟩ := zu_b1_e hf
  refine zw_Post_isCell (rest := []) B hP hS hq2 zq_220 (Nat.le_of_ble_eq_true rfl) (Nat.le_of_ble_eq_true rfl) hl.1 rfl (Nat.le_of_ble_eq_true rfl) zd_Post_next_1 (by decide) (fun H locs hP hS => ?_)
  clear hq2
  refine lv_if_ne (tgt := 14) hx hb zd_Post_next_4 (by decide) (fun c3 => ?_) (fun c3 => ?_)
  · have hf := zu_f c3 hf
    refine lv_aload_n hx hb zd_Post_next_14 rfl (lv_at hl 0 rfl) ?_
    refine zg_Post_land B hP rfl zq_191 zd_Post_next_15 ?_
    refine lv_iload_n hx hb zd_Post_next_18 rfl (lv_at hl 1 rfl) ?_
    obtain ⟨v4, hq5, hf⟩ := zu_b1_e hf
    refine zw_Land_handFor (rest := []) B hP hS rfl hq5 zq_330 (Nat.le_of_ble_eq_true rfl) (Nat.le_of_ble_eq_true rfl) hl.1 rfl (Nat.le_of_ble_eq_true rfl) zd_Post_next_19 (by decide) (fun H locs hP hS => ?_)
    clear hq5
    refine lv_istore_n (lv' := [(2, .int v4), (0, .ref (ad 0)), (1, .int a1)]) hx hb zd_Post_next_22 rfl hl (by decide) rfl (fun ls hl => ?_)
    refine lv_iload_n hx hb zd_Post_next_23 rfl (lv_at hl 0 rfl) ?_
    refine lv_iconst (v := -1) hx hb zd_Post_next_24 (by decide) ?_
    refine lv_icmp_ne (tgt := 37) hx hb zd_Post_next_25 (by decide) (fun c6 => ?_) (fun c6 => ?_)
    · have hf := zu_f c6 hf
      refine lv_iload_n hx hb zd_Post_next_37 rfl (lv_at hl 0 rfl) ?_
      exact zl_Post_next_L38 B hret hlk v4 X _ _ _ hP hS (lv_sub hl [] rfl) hf
    · have hf := zu_t c6 hf
      refine lv_aload_n hx hb zd_Post_next_28 rfl (lv_at hl 1 rfl) ?_
      refine lv_ldc (v := -1000004) hx hb hown (hts _ zq_357) zd_Post_next_29 ?_
      obtain ⟨v7, X8, hq9, hf⟩ := zu_b2_e hf
      refine zw_Post_finding (rest := []) B hP hS hq9 zq_227 (Nat.le_of_ble_eq_true rfl) (Nat.le_of_ble_eq_true rfl) hl.1 rfl (Nat.le_of_ble_eq_true rfl) zd_Post_next_31 (by decide) (fun H locs hP hS => ?_)
      clear hq9
      refine lv_goto (tgt := 38) hx hb zd_Post_next_34 (by decide) ?_
      exact zl_Post_next_L38 B hret hlk v7 X8 _ _ _ hP hS (lv_sub hl [] rfl) hf
  · have hf := zu_t c3 hf
    refine lv_aload_n hx hb zd_Post_next_7 rfl (lv_at hl 0 rfl) ?_
    refine lv_ldc (v := -1000001) hx hb hown (hts _ zq_226) zd_Post_next_8 ?_
    obtain ⟨v10, X11, hq12, hf⟩ := zu_b2_e hf
    refine zw_Post_finding (rest := []) B hP hS hq12 zq_227 (Nat.le_of_ble_eq_true rfl) (Nat.le_of_ble_eq_true rfl) hl.1 rfl (Nat.le_of_ble_eq_true rfl) zd_Post_next_10 (by decide) (fun H locs hP hS => ?_)
    clear hq12
    obtain rfl := Option.some.inj hf
    exact zr_iret hx hb hret hlk hP hS zd_Post_next_13
theorem zC_Post_next (l : Launch) {D : va_G} {cA : Nat → ClassId} {ad : Nat → Nat} {A : Nat → Prop} {a1 : Int32} {X : IX} {Y : LX} {res : Int32 × IX} (hf : fn_Post_next a1 X = some res) : Met l zm_Post_next (zu_ws zm_Post_next zb_Post_next 3 (some .int)) zR_Post_next (va_Pc [.ref (ad 0), .int a1] (zu_Pre D cA ad A X Y)) (zu_Qi D cA ad A res.1 res.2 Y) 0 0 A := by
  refine Met.ofW (cc := zb_Post_next) (maxL := 3) (ret := (some .int)) (by decide +kernel) rfl ?_
  intro p e s m args below meth c s₁ B0 hml hv
  obtain ⟨rfl, hP, hST⟩ := hv
  have B : zu_B p s m _ c zb_Post_next 3 "StonePost" D cA ad A := ⟨B0.exec, B0.bytes, hml, findClass_of_methodNamed B0.named, (fun w hw => atoms_spec (ws := zu_ws zm_Post_next zb_Post_next 3 (some .int)) B0.pre w (List.mem_cons_of_mem _ hw)), hST⟩
  have hl := lv_entry ([.ref (ad 0), .int a1]) (n := 3) (Nat.le_of_ble_eq_true rfl)
  rw [lg_entry_eq]
  generalize (lg_sl ([.ref (ad 0), .int a1]) ++ List.replicate (3 - (lg_sl ([.ref (ad 0), .int a1])).length) Slot.unset).toArray = ls at hl ⊢
  exact zl_Post_next B B0.returns B0.notSynchronized s.heap [] ls hP va_S.rf hl  hf
theorem zw_Post_next {p : Program} {l : Launch} {e : Env} {R : Room} {s : State} {m : MethodId} {args : Array Value} {below : List Frame} {meth : Method} {c : Code} {H : Heap} {locs : List Loc} {cells slots : Nat} {Q : State → Prop} {cc : ByteArray} {pc nL : Nat} {ls : Array Slot} {rest st0 : List Value} {D : va_G} {cA : Nat → ClassId} {ad : Nat → Nat} {A : Nat → Prop} {X : IX} {Y : LX} {own : String} {index : Nat} {a1 : Int32} {v1 : Int32} {X1 : IX} (B : zu_B p s m args c cc nL own D cA ad A) (hP : va_P D zu_cl (zu_pic cA ad X Y) H) (hS : va_S A s.heap H locs) (hq : fn_Post_next a1 X = some (v1, X1)) (m1 : Cond.methodLink own index zm_Post_next ∈ zu_TB) (hR1 : 4 + 1 ≤ R.frames) (hR2 : 8 + (3 + 11) + 89 ≤ R.locals) (hsz : ls.size = nL) (hst : st0 = .int a1 :: .ref (ad 0) :: rest) (hw : (rest.map fun v => v.category).sum ≤ 8) (hdg : decode cc pc = .ok (.invokevirtual index, 3)) (h00 : cells ≤ R.cells ∧ slots ≤ R.slots) (kk : ∀ (H1 : Heap) (locs1 : List Loc), va_P D zu_cl (zu_pic cA ad X1 Y) H1 → va_S A s.heap H1 locs1 → W p l e R s m args below meth c H1 locs1 cells slots Q (F0 m (pc + 3) ls (.int v1 :: rest))) : W p l e R s m args below meth c H locs cells slots Q (F0 m pc ls st0) := by
  subst hst
  exact zr_cVi (As := [.int a1]) (rest := rest) (n := 1) (C := "StonePost") (T := zt_Post) (N := 8) B hP hS (zC_Post_next l  hq) (K := 1) rfl (by decide) (by decide) rfl rfl m1 zq_327 zq_328 zq_1 zq_329 (by decide +kernel) ⟨hR1, hR2⟩ rfl rfl rfl hsz rfl hw hdg h00 kk
abbrev zR_Land_addLetter : Room := { frames := 0, cells := 0, slots := 0, locals := 0 }
theorem zd_Land_addLetter_0 : decode zb_Land_addLetter 0 = .ok (.aload_n 0, 1) := by decide +kernel
theorem zd_Land_addLetter_1 : decode zb_Land_addLetter 1 = .ok (.getfield 56, 3) := by decide +kernel
theorem zd_Land_addLetter_4 : decode zb_Land_addLetter 4 = .ok (.bipush 12, 2) := by decide +kernel
theorem zd_Land_addLetter_6 : decode zb_Land_addLetter 6 = .ok (.if_icmp .lt 5, 3) := by decide +kernel
theorem zd_Land_addLetter_9 : decode zb_Land_addLetter 9 = .ok (.iconst (-1), 1) := by decide +kernel
theorem zd_Land_addLetter_10 : decode zb_Land_addLetter 10 = .ok (.ireturn, 1) := by decide +kernel
theorem zd_Land_addLetter_11 : decode zb_Land_addLetter 11 = .ok (.aload_n 0, 1) := by decide +kernel
theorem zd_Land_addLetter_12 : decode zb_Land_addLetter 12 = .ok (.getfield 21, 3) := by decide +kernel
theorem zd_Land_addLetter_15 : decode zb_Land_addLetter 15 = .ok (.aload_n 0, 1) := by decide +kernel
theorem zd_Land_addLetter_16 : decode zb_Land_addLetter 16 = .ok (.getfield 56, 3) := by decide +kernel
theorem zd_Land_addLetter_19 : decode zb_Land_addLetter 19 = .ok (.iload_n 1, 1) := by decide +kernel
theorem zd_Land_addLetter_20 : decode zb_Land_addLetter 20 = .ok (.iastore, 1) := by decide +kernel
theorem zd_Land_addLetter_21 : decode zb_Land_addLetter 21 = .ok (.aload_n 0, 1) := by decide +kernel
theorem zd_Land_addLetter_22 : decode zb_Land_addLetter 22 = .ok (.dup, 1) := by decide +kernel
theorem zd_Land_addLetter_23 : decode zb_Land_addLetter 23 = .ok (.getfield 56, 3) := by decide +kernel
theorem zd_Land_addLetter_26 : decode zb_Land_addLetter 26 = .ok (.iconst 1, 1) := by decide +kernel
theorem zd_Land_addLetter_27 : decode zb_Land_addLetter 27 = .ok (.iadd, 1) := by decide +kernel
theorem zd_Land_addLetter_28 : decode zb_Land_addLetter 28 = .ok (.putfield 56, 3) := by decide +kernel
theorem zd_Land_addLetter_31 : decode zb_Land_addLetter 31 = .ok (.aload_n 0, 1) := by decide +kernel
theorem zd_Land_addLetter_32 : decode zb_Land_addLetter 32 = .ok (.getfield 56, 3) := by decide +kernel
theorem zd_Land_addLetter_35 : decode zb_Land_addLetter 35 = .ok (.iconst 1, 1) := by decide +kernel
theorem zd_Land_addLetter_36 : decode zb_Land_addLetter 36 = .ok (.isub, 1) := by decide +kernel
theorem zd_Land_addLetter_37 : decode zb_Land_addLetter 37 = .ok (.ireturn, 1) := by decide +kernel
set_option maxHeartbeats 4000000 in
theorem zl_Land_addLetter {p : Program} {l : Launch} {e : Env} {s : State} {m : MethodId} {args : Array Value} {below : List Frame} {meth : Method} {c : Code} {D : va_G} {cA : Nat → ClassId} {ad : Nat → Nat} {A : Nat → Prop} (B : zu_B p s m args c zb_Land_addLetter 2 "StonePost$Land" D cA ad A) (hret : meth.sig.returnType = (some .int)) (hlk : meth.locks = false) {Y : LX} {res : Int32 × IX} {r0 : Nat} {a1 : Int32} {X : IX} (H : Heap) (locs : List Loc) (ls : Array Slot) (hP : va_P D zu_cl (zu_pic cA ad X Y) H) (hS : va_S A s.heap H locs) (hl : lv_has ls 2 [(0, .ref (ad r0)), (1, .int a1)]) (hr0 : zu_kd r0 = 5) (hf : fn_Land_addLetter r0 a1 X = some res) : W p l e zR_Land_addLetter s m args below meth c H locs 0 0 (MQ below (zu_Qi D cA ad A res.1 res.2 Y) args s 0 0 A) (F0 m 0 ls []) := by
  obtain ⟨hx, hb, hml, hown, hts, hST⟩ := id B
  unfold fn_Land_addLetter at hf
  refine lv_aload_n hx hb zd_Land_addLetter_0 rfl (lv_at hl 0 rfl) ?_
  refine zg_Land_letterCount B hP hr0 zq_64 zd_Land_addLetter_1 ?_
  refine lv_bipush (v := 12) hx hb zd_Land_addLetter_4 (by decide) ?_
  refine lv_icmp_lt (tgt := 11) hx hb zd_Land_addLetter_6 (by decide) (fun c1 => ?_) (fun c1 => ?_)
  · have hf := zu_t c1 hf
    refine lv_aload_n hx hb zd_Land_addLetter_11 rfl (lv_at hl 0 rfl) ?_
    refine zg_Land_letterCells B hP hr0 zq_57 zd_Land_addLetter_12 ?_
    refine lv_aload_n hx hb zd_Land_addLetter_15 rfl (lv_at hl 0 rfl) ?_
    refine zg_Land_letterCount B hP hr0 zq_64 zd_Land_addLetter_16 ?_
    refine lv_iload_n hx hb zd_Land_addLetter_19 rfl (lv_at hl 1 rfl) ?_
    obtain ⟨hg2, hf⟩ := zu_gd_e hf
    refine zr_iast rfl B hP hS hf (zk_Land_letterCells hr0) (by decide) rfl hg2 zd_Land_addLetter_20 (fun X3 H locs hf hP hS => ?_)
    refine lv_aload_n hx hb zd_Land_addLetter_21 rfl (lv_at hl 0 rfl) ?_
    refine lv_dup hx hb zd_Land_addLetter_22 rfl ?_
    refine zg_Land_letterCount B hP hr0 zq_64 zd_Land_addLetter_23 ?_
    refine lv_iconst (v := 1) hx hb zd_Land_addLetter_26 (by decide) ?_
    refine lv_iadd hx hb zd_Land_addLetter_27 ?_
    refine zp_Land_letterCount B hP hS hf hr0 zq_64 zd_Land_addLetter_28 (fun X4 H locs hf hP hS => ?_)
    refine lv_aload_n hx hb zd_Land_addLetter_31 rfl (lv_at hl 0 rfl) ?_
    refine zg_Land_letterCount B hP hr0 zq_64 zd_Land_addLetter_32 ?_
    refine lv_iconst (v := 1) hx hb zd_Land_addLetter_35 (by decide) ?_
    refine lv_isub hx hb zd_Land_addLetter_36 ?_
    obtain rfl := Option.some.inj hf
    exact zr_iret hx hb hret hlk hP hS zd_Land_addLetter_37
  · have hf := zu_f c1 hf
    refine lv_iconst (v := -1) hx hb zd_Land_addLetter_9 (by decide) ?_
    obtain rfl := Option.some.inj hf
    exact zr_iret hx hb hret hlk hP hS zd_Land_addLetter_10
theorem zC_Land_addLetter (l : Launch) {D : va_G} {cA : Nat → ClassId} {ad : Nat → Nat} {A : Nat → Prop} {r0 : Nat} {a1 : Int32} {X : IX} {Y : LX} {res : Int32 × IX} (hr0 : zu_kd r0 = 5) (hf : fn_Land_addLetter r0 a1 X = some res) : Met l zm_Land_addLetter (zu_ws zm_Land_addLetter zb_Land_addLetter 2 (some .int)) zR_Land_addLetter (va_Pc [.ref (ad r0), .int a1] (zu_Pre D cA ad A X Y)) (zu_Qi D cA ad A res.1 res.2 Y) 0 0 A := by
  refine Met.ofW (cc := zb_Land_addLetter) (maxL := 2) (ret := (some .int)) (by decide +kernel) rfl ?_
  intro p e s m args below meth c s₁ B0 hml hv
  obtain ⟨rfl, hP, hST⟩ := hv
  have B : zu_B p s m _ c zb_Land_addLetter 2 "StonePost$Land" D cA ad A := ⟨B0.exec, B0.bytes, hml, findClass_of_methodNamed B0.named, (fun w hw => atoms_spec (ws := zu_ws zm_Land_addLetter zb_Land_addLetter 2 (some .int)) B0.pre w (List.mem_cons_of_mem _ hw)), hST⟩
  have hl := lv_entry ([.ref (ad r0), .int a1]) (n := 2) (Nat.le_of_ble_eq_true rfl)
  rw [lg_entry_eq]
  generalize (lg_sl ([.ref (ad r0), .int a1]) ++ List.replicate (2 - (lg_sl ([.ref (ad r0), .int a1])).length) Slot.unset).toArray = ls at hl ⊢
  exact zl_Land_addLetter B B0.returns B0.notSynchronized s.heap [] ls hP va_S.rf hl hr0 hf
theorem zw_Land_addLetter {p : Program} {l : Launch} {e : Env} {R : Room} {s : State} {m : MethodId} {args : Array Value} {below : List Frame} {meth : Method} {c : Code} {H : Heap} {locs : List Loc} {cells slots : Nat} {Q : State → Prop} {cc : ByteArray} {pc nL : Nat} {ls : Array Slot} {rest st0 : List Value} {D : va_G} {cA : Nat → ClassId} {ad : Nat → Nat} {A : Nat → Prop} {X : IX} {Y : LX} {own : String} {index : Nat} {r0 : Nat} {a1 : Int32} {v1 : Int32} {X1 : IX} (B : zu_B p s m args c cc nL own D cA ad A) (hP : va_P D zu_cl (zu_pic cA ad X Y) H) (hS : va_S A s.heap H locs) (hr0 : zu_kd r0 = 5) (hq : fn_Land_addLetter r0 a1 X = some (v1, X1)) (m1 : Cond.methodLink own index zm_Land_addLetter ∈ zu_TB) (hR1 : 0 + 1 ≤ R.frames) (hR2 : 8 + (2 + 11) + 0 ≤ R.locals) (hsz : ls.size = nL) (hst : st0 = .int a1 :: .ref (ad r0) :: rest) (hw : (rest.map fun v => v.category).sum ≤ 8) (hdg : decode cc pc = .ok (.invokevirtual index, 3)) (h00 : cells ≤ R.cells ∧ slots ≤ R.slots) (kk : ∀ (H1 : Heap) (locs1 : List Loc), va_P D zu_cl (zu_pic cA ad X1 Y) H1 → va_S A s.heap H1 locs1 → W p l e R s m args below meth c H1 locs1 cells slots Q (F0 m (pc + 3) ls (.int v1 :: rest))) : W p l e R s m args below meth c H locs cells slots Q (F0 m pc ls st0) := by
  subst hst
  exact zr_cVi (As := [.int a1]) (rest := rest) (n := 1) (C := "StonePost$Land") (T := zt_Land) (N := 10) B hP hS (zC_Land_addLetter l hr0 hq) (K := 5) hr0 (by decide) (by decide) rfl rfl m1 zq_363 zq_364 zq_2 zq_365 (by decide +kernel) ⟨hR1, hR2⟩ rfl rfl rfl hsz rfl hw hdg h00 kk
abbrev zR_Post_letter : Room := { frames := 2, cells := 0, slots := 0, locals := 44 }
theorem zd_Post_letter_0 : decode zb_Post_letter 0 = .ok (.iload_n 1, 1) := by decide +kernel
theorem zd_Post_letter_1 : decode zb_Post_letter 1 = .ok (.invokestatic 47, 3) := by decide +kernel
theorem zd_Post_letter_4 : decode zb_Post_letter 4 = .ok (.ifCond .ne 10, 3) := by decide +kernel
theorem zd_Post_letter_7 : decode zb_Post_letter 7 = .ok (.aload_n 0, 1) := by decide +kernel
theorem zd_Post_letter_8 : decode zb_Post_letter 8 = .ok (.ldc 55, 2) := by decide +kernel
theorem zd_Post_letter_10 : decode zb_Post_letter 10 = .ok (.invokevirtual 56, 3) := by decide +kernel
theorem zd_Post_letter_13 : decode zb_Post_letter 13 = .ok (.ireturn, 1) := by decide +kernel
theorem zd_Post_letter_14 : decode zb_Post_letter 14 = .ok (.aload_n 0, 1) := by decide +kernel
theorem zd_Post_letter_15 : decode zb_Post_letter 15 = .ok (.getfield 10, 3) := by decide +kernel
theorem zd_Post_letter_18 : decode zb_Post_letter 18 = .ok (.iload_n 1, 1) := by decide +kernel
theorem zd_Post_letter_19 : decode zb_Post_letter 19 = .ok (.invokevirtual 121, 3) := by decide +kernel
theorem zd_Post_letter_22 : decode zb_Post_letter 22 = .ok (.istore_n 2, 1) := by decide +kernel
theorem zd_Post_letter_23 : decode zb_Post_letter 23 = .ok (.iload_n 2, 1) := by decide +kernel
theorem zd_Post_letter_24 : decode zb_Post_letter 24 = .ok (.iconst (-1), 1) := by decide +kernel
theorem zd_Post_letter_25 : decode zb_Post_letter 25 = .ok (.if_icmp .ne 12, 3) := by decide +kernel
theorem zd_Post_letter_28 : decode zb_Post_letter 28 = .ok (.aload_n 0, 1) := by decide +kernel
theorem zd_Post_letter_29 : decode zb_Post_letter 29 = .ok (.ldc 81, 2) := by decide +kernel
theorem zd_Post_letter_31 : decode zb_Post_letter 31 = .ok (.invokevirtual 56, 3) := by decide +kernel
theorem zd_Post_letter_34 : decode zb_Post_letter 34 = .ok (.goto 4, 3) := by decide +kernel
theorem zd_Post_letter_37 : decode zb_Post_letter 37 = .ok (.iload_n 2, 1) := by decide +kernel
theorem zd_Post_letter_38 : decode zb_Post_letter 38 = .ok (.ireturn, 1) := by decide +kernel
set_option maxHeartbeats 4000000 in
theorem zl_Post_letter_L38 {p : Program} {l : Launch} {e : Env} {s : State} {m : MethodId} {args : Array Value} {below : List Frame} {meth : Method} {c : Code} {D : va_G} {cA : Nat → ClassId} {ad : Nat → Nat} {A : Nat → Prop} (B : zu_B p s m args c zb_Post_letter 3 "StonePost" D cA ad A) (hret : meth.sig.returnType = (some .int)) (hlk : meth.locks = false) {Y : LX} {res : Int32 × IX} (y0 : Int32) (X : IX) (H : Heap) (locs : List Loc) (ls : Array Slot) (hP : va_P D zu_cl (zu_pic cA ad X Y) H) (hS : va_S A s.heap H locs) (hl : lv_has ls 3 []) (hf : fn_Post_letter_L38 y0 X = some res) : W p l e zR_Post_letter s m args below meth c H locs 0 0 (MQ below (zu_Qi D cA ad A res.1 res.2 Y) args s 0 0 A) (F0 m 38 ls [.int y0]) := by
  obtain ⟨hx, hb, hml, hown, hts, hST⟩ := id B
  unfold fn_Post_letter_L38 at hf
  obtain rfl := Option.some.inj hf
  exact zr_iret hx hb hret hlk hP hS zd_Post_letter_38
set_option maxHeartbeats 4000000 in
theorem zl_Post_letter {p : Program} {l : Launch} {e : Env} {s : State} {m : MethodId} {args : Array Value} {below : List Frame} {meth : Method} {c : Code} {D : va_G} {cA : Nat → ClassId} {ad : Nat → Nat} {A : Nat → Prop} (B : zu_B p s m args c zb_Post_letter 3 "StonePost" D cA ad A) (hret : meth.sig.returnType = (some .int)) (hlk : meth.locks = false) {Y : LX} {res : Int32 × IX} {a1 : Int32} {X : IX} (H : Heap) (locs : List Loc) (ls : Array Slot) (hP : va_P D zu_cl (zu_pic cA ad X Y) H) (hS : va_S A s.heap H locs) (hl : lv_has ls 3 [(0, .ref (ad 0)), (1, .int a1)]) (hf : fn_Post_letter a1 X = some res) : W p l e zR_Post_letter s m args below meth c H locs 0 0 (MQ below (zu_Qi D cA ad A res.1 res.2 Y) args s 0 0 A) (F0 m 0 ls []) := by
  obtain ⟨hx, hb, hml, hown, hts, hST⟩ := id B
  unfold fn_Post_letter at hf
  refine lv_iload_n hx hb zd_Post_letter_0 rfl (lv_at hl 1 rfl) ?_
  obtain ⟨v1, hq2, hf⟩ := zu_b1_e hf
  refine zw_Post_isCell (rest := []) B hP hS hq2 zq_220 (Nat.le_of_ble_eq_true rfl) (Nat.le_of_ble_eq_true rfl) hl.1 rfl (Nat.le_of_ble_eq_true rfl) zd_Post_letter_1 (by decide) (fun H locs hP hS => ?_)
  clear hq2
  refine lv_if_ne (tgt := 14) hx hb zd_Post_letter_4 (by decide) (fun c3 => ?_) (fun c3 => ?_)
  · have hf := zu_f c3 hf
    refine lv_aload_n hx hb zd_Post_letter_14 rfl (lv_at hl 0 rfl) ?_
    refine zg_Post_land B hP rfl zq_191 zd_Post_letter_15 ?_
    refine lv_iload_n hx hb zd_Post_letter_18 rfl (lv_at hl 1 rfl) ?_
    obtain ⟨v4, X5, hq6, hf⟩ := zu_b2_e hf
    refine zw_Land_addLetter (rest := []) B hP hS rfl hq6 zq_362 (Nat.le_of_ble_eq_true rfl) (Nat.le_of_ble_eq_true rfl) hl.1 rfl (Nat.le_of_ble_eq_true rfl) zd_Post_letter_19 (by decide) (fun H locs hP hS => ?_)
    clear hq6
    refine lv_istore_n (lv' := [(2, .int v4), (0, .ref (ad 0)), (1, .int a1)]) hx hb zd_Post_letter_22 rfl hl (by decide) rfl (fun ls hl => ?_)
    refine lv_iload_n hx hb zd_Post_letter_23 rfl (lv_at hl 0 rfl) ?_
    refine lv_iconst (v := -1) hx hb zd_Post_letter_24 (by decide) ?_
    refine lv_icmp_ne (tgt := 37) hx hb zd_Post_letter_25 (by decide) (fun c7 => ?_) (fun c7 => ?_)
    · have hf := zu_f c7 hf
      refine lv_iload_n hx hb zd_Post_letter_37 rfl (lv_at hl 0 rfl) ?_
      exact zl_Post_letter_L38 B hret hlk v4 X5 _ _ _ hP hS (lv_sub hl [] rfl) hf
    · have hf := zu_t c7 hf
      refine lv_aload_n hx hb zd_Post_letter_28 rfl (lv_at hl 1 rfl) ?_
      refine lv_ldc (v := -1000002) hx hb hown (hts _ zq_260) zd_Post_letter_29 ?_
      obtain ⟨v8, X9, hq10, hf⟩ := zu_b2_e hf
      refine zw_Post_finding (rest := []) B hP hS hq10 zq_227 (Nat.le_of_ble_eq_true rfl) (Nat.le_of_ble_eq_true rfl) hl.1 rfl (Nat.le_of_ble_eq_true rfl) zd_Post_letter_31 (by decide) (fun H locs hP hS => ?_)
      clear hq10
      refine lv_goto (tgt := 38) hx hb zd_Post_letter_34 (by decide) ?_
      exact zl_Post_letter_L38 B hret hlk v8 X9 _ _ _ hP hS (lv_sub hl [] rfl) hf
  · have hf := zu_t c3 hf
    refine lv_aload_n hx hb zd_Post_letter_7 rfl (lv_at hl 0 rfl) ?_
    refine lv_ldc (v := -1000001) hx hb hown (hts _ zq_226) zd_Post_letter_8 ?_
    obtain ⟨v11, X12, hq13, hf⟩ := zu_b2_e hf
    refine zw_Post_finding (rest := []) B hP hS hq13 zq_227 (Nat.le_of_ble_eq_true rfl) (Nat.le_of_ble_eq_true rfl) hl.1 rfl (Nat.le_of_ble_eq_true rfl) zd_Post_letter_10 (by decide) (fun H locs hP hS => ?_)
    clear hq13
    obtain rfl := Option.some.inj hf
    exact zr_iret hx hb hret hlk hP hS zd_Post_letter_13
theorem zC_Post_letter (l : Launch) {D : va_G} {cA : Nat → ClassId} {ad : Nat → Nat} {A : Nat → Prop} {a1 : Int32} {X : IX} {Y : LX} {res : Int32 × IX} (hf : fn_Post_letter a1 X = some res) : Met l zm_Post_letter (zu_ws zm_Post_letter zb_Post_letter 3 (some .int)) zR_Post_letter (va_Pc [.ref (ad 0), .int a1] (zu_Pre D cA ad A X Y)) (zu_Qi D cA ad A res.1 res.2 Y) 0 0 A := by
  refine Met.ofW (cc := zb_Post_letter) (maxL := 3) (ret := (some .int)) (by decide +kernel) rfl ?_
  intro p e s m args below meth c s₁ B0 hml hv
  obtain ⟨rfl, hP, hST⟩ := hv
  have B : zu_B p s m _ c zb_Post_letter 3 "StonePost" D cA ad A := ⟨B0.exec, B0.bytes, hml, findClass_of_methodNamed B0.named, (fun w hw => atoms_spec (ws := zu_ws zm_Post_letter zb_Post_letter 3 (some .int)) B0.pre w (List.mem_cons_of_mem _ hw)), hST⟩
  have hl := lv_entry ([.ref (ad 0), .int a1]) (n := 3) (Nat.le_of_ble_eq_true rfl)
  rw [lg_entry_eq]
  generalize (lg_sl ([.ref (ad 0), .int a1]) ++ List.replicate (3 - (lg_sl ([.ref (ad 0), .int a1])).length) Slot.unset).toArray = ls at hl ⊢
  exact zl_Post_letter B B0.returns B0.notSynchronized s.heap [] ls hP va_S.rf hl  hf
theorem zw_Post_letter {p : Program} {l : Launch} {e : Env} {R : Room} {s : State} {m : MethodId} {args : Array Value} {below : List Frame} {meth : Method} {c : Code} {H : Heap} {locs : List Loc} {cells slots : Nat} {Q : State → Prop} {cc : ByteArray} {pc nL : Nat} {ls : Array Slot} {rest st0 : List Value} {D : va_G} {cA : Nat → ClassId} {ad : Nat → Nat} {A : Nat → Prop} {X : IX} {Y : LX} {own : String} {index : Nat} {a1 : Int32} {v1 : Int32} {X1 : IX} (B : zu_B p s m args c cc nL own D cA ad A) (hP : va_P D zu_cl (zu_pic cA ad X Y) H) (hS : va_S A s.heap H locs) (hq : fn_Post_letter a1 X = some (v1, X1)) (m1 : Cond.methodLink own index zm_Post_letter ∈ zu_TB) (hR1 : 2 + 1 ≤ R.frames) (hR2 : 8 + (3 + 11) + 44 ≤ R.locals) (hsz : ls.size = nL) (hst : st0 = .int a1 :: .ref (ad 0) :: rest) (hw : (rest.map fun v => v.category).sum ≤ 8) (hdg : decode cc pc = .ok (.invokevirtual index, 3)) (h00 : cells ≤ R.cells ∧ slots ≤ R.slots) (kk : ∀ (H1 : Heap) (locs1 : List Loc), va_P D zu_cl (zu_pic cA ad X1 Y) H1 → va_S A s.heap H1 locs1 → W p l e R s m args below meth c H1 locs1 cells slots Q (F0 m (pc + 3) ls (.int v1 :: rest))) : W p l e R s m args below meth c H locs cells slots Q (F0 m pc ls st0) := by
  subst hst
  exact zr_cVi (As := [.int a1]) (rest := rest) (n := 1) (C := "StonePost") (T := zt_Post) (N := 8) B hP hS (zC_Post_letter l  hq) (K := 1) rfl (by decide) (by decide) rfl rfl m1 zq_359 zq_360 zq_1 zq_361 (by decide +kernel) ⟨hR1, hR2⟩ rfl rfl rfl hsz rfl hw hdg h00 kk
abbrev zR_Post_isLetter : Room := { frames := 1, cells := 0, slots := 0, locals := 22 }
theorem zd_Post_isLetter_0 : decode zb_Post_isLetter 0 = .ok (.iload_n 1, 1) := by decide +kernel
theorem zd_Post_isLetter_1 : decode zb_Post_isLetter 1 = .ok (.iconst 0, 1) := by decide +kernel
theorem zd_Post_isLetter_2 : decode zb_Post_isLetter 2 = .ok (.aload_n 0, 1) := by decide +kernel
theorem zd_Post_isLetter_3 : decode zb_Post_isLetter 3 = .ok (.getfield 10, 3) := by decide +kernel
theorem zd_Post_isLetter_6 : decode zb_Post_isLetter 6 = .ok (.getfield 130, 3) := by decide +kernel
theorem zd_Post_isLetter_9 : decode zb_Post_isLetter 9 = .ok (.iconst 1, 1) := by decide +kernel
theorem zd_Post_isLetter_10 : decode zb_Post_isLetter 10 = .ok (.isub, 1) := by decide +kernel
theorem zd_Post_isLetter_11 : decode zb_Post_isLetter 11 = .ok (.invokestatic 51, 3) := by decide +kernel
theorem zd_Post_isLetter_14 : decode zb_Post_isLetter 14 = .ok (.ireturn, 1) := by decide +kernel
set_option maxHeartbeats 4000000 in
theorem zl_Post_isLetter {p : Program} {l : Launch} {e : Env} {s : State} {m : MethodId} {args : Array Value} {below : List Frame} {meth : Method} {c : Code} {D : va_G} {cA : Nat → ClassId} {ad : Nat → Nat} {A : Nat → Prop} (B : zu_B p s m args c zb_Post_isLetter 2 "StonePost" D cA ad A) (hret : meth.sig.returnType = (some .boolean)) (hlk : meth.locks = false) {X : IX} {Y : LX} {res : Int32} {a1 : Int32} (H : Heap) (locs : List Loc) (ls : Array Slot) (hP : va_P D zu_cl (zu_pic cA ad X Y) H) (hS : va_S A s.heap H locs) (hl : lv_has ls 2 [(0, .ref (ad 0)), (1, .int a1)]) (hf : fn_Post_isLetter X a1 = some res) : W p l e zR_Post_isLetter s m args below meth c H locs 0 0 (MQ below (zu_Qi D cA ad A res X Y) args s 0 0 A) (F0 m 0 ls []) := by
  obtain ⟨hx, hb, hml, hown, hts, hST⟩ := id B
  unfold fn_Post_isLetter at hf
  refine lv_iload_n hx hb zd_Post_isLetter_0 rfl (lv_at hl 1 rfl) ?_
  refine lv_iconst (v := 0) hx hb zd_Post_isLetter_1 (by decide) ?_
  refine lv_aload_n hx hb zd_Post_isLetter_2 rfl (lv_at hl 0 rfl) ?_
  refine zg_Post_land B hP rfl zq_191 zd_Post_isLetter_3 ?_
  refine zg_Land_letterCount B hP rfl zq_66 zd_Post_isLetter_6 ?_
  refine lv_iconst (v := 1) hx hb zd_Post_isLetter_9 (by decide) ?_
  refine lv_isub hx hb zd_Post_isLetter_10 ?_
  obtain ⟨v1, hq2, hf⟩ := zu_b1_e hf
  refine zw_Post_isWithin (rest := []) B hP hS hq2 zq_223 (Nat.le_of_ble_eq_true rfl) (Nat.le_of_ble_eq_true rfl) hl.1 rfl (Nat.le_of_ble_eq_true rfl) zd_Post_isLetter_11 (by decide) (fun H locs hP hS => ?_)
  clear hq2
  obtain ⟨hg3, hf⟩ := zu_gd_e hf
  obtain rfl := Option.some.inj hf
  exact zr_zret hx hb hret hlk hP hS hg3 zd_Post_isLetter_14
theorem zC_Post_isLetter (l : Launch) {D : va_G} {cA : Nat → ClassId} {ad : Nat → Nat} {A : Nat → Prop} {a1 : Int32} {X : IX} {Y : LX} {res : Int32} (hf : fn_Post_isLetter X a1 = some res) : Met l zm_Post_isLetter (zu_ws zm_Post_isLetter zb_Post_isLetter 2 (some .boolean)) zR_Post_isLetter (va_Pc [.ref (ad 0), .int a1] (zu_Pre D cA ad A X Y)) (zu_Qi D cA ad A res X Y) 0 0 A := by
  refine Met.ofW (cc := zb_Post_isLetter) (maxL := 2) (ret := (some .boolean)) (by decide +kernel) rfl ?_
  intro p e s m args below meth c s₁ B0 hml hv
  obtain ⟨rfl, hP, hST⟩ := hv
  have B : zu_B p s m _ c zb_Post_isLetter 2 "StonePost" D cA ad A := ⟨B0.exec, B0.bytes, hml, findClass_of_methodNamed B0.named, (fun w hw => atoms_spec (ws := zu_ws zm_Post_isLetter zb_Post_isLetter 2 (some .boolean)) B0.pre w (List.mem_cons_of_mem _ hw)), hST⟩
  have hl := lv_entry ([.ref (ad 0), .int a1]) (n := 2) (Nat.le_of_ble_eq_true rfl)
  rw [lg_entry_eq]
  generalize (lg_sl ([.ref (ad 0), .int a1]) ++ List.replicate (2 - (lg_sl ([.ref (ad 0), .int a1])).length) Slot.unset).toArray = ls at hl ⊢
  exact zl_Post_isLetter B B0.returns B0.notSynchronized s.heap [] ls hP va_S.rf hl  hf
theorem zw_Post_isLetter {p : Program} {l : Launch} {e : Env} {R : Room} {s : State} {m : MethodId} {args : Array Value} {below : List Frame} {meth : Method} {c : Code} {H : Heap} {locs : List Loc} {cells slots : Nat} {Q : State → Prop} {cc : ByteArray} {pc nL : Nat} {ls : Array Slot} {rest st0 : List Value} {D : va_G} {cA : Nat → ClassId} {ad : Nat → Nat} {A : Nat → Prop} {X : IX} {Y : LX} {own : String} {index : Nat} {a1 : Int32} {v1 : Int32} (B : zu_B p s m args c cc nL own D cA ad A) (hP : va_P D zu_cl (zu_pic cA ad X Y) H) (hS : va_S A s.heap H locs) (hq : fn_Post_isLetter X a1 = some v1) (m1 : Cond.methodLink own index zm_Post_isLetter ∈ zu_TB) (hR1 : 1 + 1 ≤ R.frames) (hR2 : 8 + (2 + 11) + 22 ≤ R.locals) (hsz : ls.size = nL) (hst : st0 = .int a1 :: .ref (ad 0) :: rest) (hw : (rest.map fun v => v.category).sum ≤ 8) (hdg : decode cc pc = .ok (.invokevirtual index, 3)) (h00 : cells ≤ R.cells ∧ slots ≤ R.slots) (kk : ∀ (H1 : Heap) (locs1 : List Loc), va_P D zu_cl (zu_pic cA ad X Y) H1 → va_S A s.heap H1 locs1 → W p l e R s m args below meth c H1 locs1 cells slots Q (F0 m (pc + 3) ls (.int v1 :: rest))) : W p l e R s m args below meth c H locs cells slots Q (F0 m pc ls st0) := by
  subst hst
  exact zr_cVi (As := [.int a1]) (rest := rest) (n := 1) (C := "StonePost") (T := zt_Post) (N := 8) B hP hS (zC_Post_isLetter l  hq) (K := 1) rfl (by decide) (by decide) rfl rfl m1 zq_372 zqP_5 zq_1 zq_373 (by decide +kernel) ⟨hR1, hR2⟩ rfl rfl rfl hsz rfl hw hdg h00 kk
abbrev zR_Post_where : Room := { frames := 2, cells := 0, slots := 0, locals := 44 }
theorem zd_Post_where_0 : decode zb_Post_where 0 = .ok (.aload_n 0, 1) := by decide +kernel
theorem zd_Post_where_1 : decode zb_Post_where 1 = .ok (.iload_n 1, 1) := by decide +kernel
theorem zd_Post_where_2 : decode zb_Post_where 2 = .ok (.invokevirtual 124, 3) := by decide +kernel
theorem zd_Post_where_5 : decode zb_Post_where 5 = .ok (.ifCond .eq 15, 3) := by decide +kernel
theorem zd_Post_where_8 : decode zb_Post_where 8 = .ok (.aload_n 0, 1) := by decide +kernel
theorem zd_Post_where_9 : decode zb_Post_where 9 = .ok (.getfield 10, 3) := by decide +kernel
theorem zd_Post_where_12 : decode zb_Post_where 12 = .ok (.getfield 127, 3) := by decide +kernel
theorem zd_Post_where_15 : decode zb_Post_where 15 = .ok (.iload_n 1, 1) := by decide +kernel
theorem zd_Post_where_16 : decode zb_Post_where 16 = .ok (.iaload, 1) := by decide +kernel
theorem zd_Post_where_17 : decode zb_Post_where 17 = .ok (.goto 9, 3) := by decide +kernel
theorem zd_Post_where_20 : decode zb_Post_where 20 = .ok (.aload_n 0, 1) := by decide +kernel
theorem zd_Post_where_21 : decode zb_Post_where 21 = .ok (.ldc 55, 2) := by decide +kernel
theorem zd_Post_where_23 : decode zb_Post_where 23 = .ok (.invokevirtual 56, 3) := by decide +kernel
theorem zd_Post_where_26 : decode zb_Post_where 26 = .ok (.ireturn, 1) := by decide +kernel
set_option maxHeartbeats 4000000 in
theorem zl_Post_where_L26 {p : Program} {l : Launch} {e : Env} {s : State} {m : MethodId} {args : Array Value} {below : List Frame} {meth : Method} {c : Code} {D : va_G} {cA : Nat → ClassId} {ad : Nat → Nat} {A : Nat → Prop} (B : zu_B p s m args c zb_Post_where 2 "StonePost" D cA ad A) (hret : meth.sig.returnType = (some .int)) (hlk : meth.locks = false) {Y : LX} {res : Int32 × IX} (y0 : Int32) (X : IX) (H : Heap) (locs : List Loc) (ls : Array Slot) (hP : va_P D zu_cl (zu_pic cA ad X Y) H) (hS : va_S A s.heap H locs) (hl : lv_has ls 2 []) (hf : fn_Post_where_L26 y0 X = some res) : W p l e zR_Post_where s m args below meth c H locs 0 0 (MQ below (zu_Qi D cA ad A res.1 res.2 Y) args s 0 0 A) (F0 m 26 ls [.int y0]) := by
  obtain ⟨hx, hb, hml, hown, hts, hST⟩ := id B
  unfold fn_Post_where_L26 at hf
  obtain rfl := Option.some.inj hf
  exact zr_iret hx hb hret hlk hP hS zd_Post_where_26
set_option maxHeartbeats 4000000 in
theorem zl_Post_where {p : Program} {l : Launch} {e : Env} {s : State} {m : MethodId} {args : Array Value} {below : List Frame} {meth : Method} {c : Code} {D : va_G} {cA : Nat → ClassId} {ad : Nat → Nat} {A : Nat → Prop} (B : zu_B p s m args c zb_Post_where 2 "StonePost" D cA ad A) (hret : meth.sig.returnType = (some .int)) (hlk : meth.locks = false) {Y : LX} {res : Int32 × IX} {a1 : Int32} {X : IX} (H : Heap) (locs : List Loc) (ls : Array Slot) (hP : va_P D zu_cl (zu_pic cA ad X Y) H) (hS : va_S A s.heap H locs) (hl : lv_has ls 2 [(0, .ref (ad 0)), (1, .int a1)]) (hf : fn_Post_where a1 X = some res) : W p l e zR_Post_where s m args below meth c H locs 0 0 (MQ below (zu_Qi D cA ad A res.1 res.2 Y) args s 0 0 A) (F0 m 0 ls []) := by
  obtain ⟨hx, hb, hml, hown, hts, hST⟩ := id B
  unfold fn_Post_where at hf
  refine lv_aload_n hx hb zd_Post_where_0 rfl (lv_at hl 0 rfl) ?_
  refine lv_iload_n hx hb zd_Post_where_1 rfl (lv_at hl 1 rfl) ?_
  obtain ⟨v1, hq2, hf⟩ := zu_b1_e hf
  refine zw_Post_isLetter (rest := []) B hP hS hq2 zq_370 (Nat.le_of_ble_eq_true rfl) (Nat.le_of_ble_eq_true rfl) hl.1 rfl (Nat.le_of_ble_eq_true rfl) zd_Post_where_2 (by decide) (fun H locs hP hS => ?_)
  clear hq2
  refine lv_if_eq (tgt := 20) hx hb zd_Post_where_5 (by decide) (fun c3 => ?_) (fun c3 => ?_)
  · have hf := zu_t c3 hf
    refine lv_aload_n hx hb zd_Post_where_20 rfl (lv_at hl 0 rfl) ?_
    refine lv_ldc (v := -1000001) hx hb hown (hts _ zq_226) zd_Post_where_21 ?_
    obtain ⟨v4, X5, hq6, hf⟩ := zu_b2_e hf
    refine zw_Post_finding (rest := []) B hP hS hq6 zq_227 (Nat.le_of_ble_eq_true rfl) (Nat.le_of_ble_eq_true rfl) hl.1 rfl (Nat.le_of_ble_eq_true rfl) zd_Post_where_23 (by decide) (fun H locs hP hS => ?_)
    clear hq6
    exact zl_Post_where_L26 B hret hlk v4 X5 _ _ _ hP hS (lv_sub hl [] rfl) hf
  · have hf := zu_f c3 hf
    refine lv_aload_n hx hb zd_Post_where_8 rfl (lv_at hl 0 rfl) ?_
    refine zg_Post_land B hP rfl zq_191 zd_Post_where_9 ?_
    refine zg_Land_letterCells B hP rfl zq_58 zd_Post_where_12 ?_
    refine lv_iload_n hx hb zd_Post_where_15 rfl (lv_at hl 1 rfl) ?_
    obtain ⟨hg7, hf⟩ := zu_gd_e hf
    refine zr_iald rfl B hP (zk_Land_letterCells rfl) (by decide) rfl hg7 zd_Post_where_16 ?_
    refine lv_goto (tgt := 26) hx hb zd_Post_where_17 (by decide) ?_
    exact zl_Post_where_L26 B hret hlk (X (20 + 9) (a1.toNatClampNeg)) X _ _ _ hP hS (lv_sub hl [] rfl) hf
theorem zC_Post_where (l : Launch) {D : va_G} {cA : Nat → ClassId} {ad : Nat → Nat} {A : Nat → Prop} {a1 : Int32} {X : IX} {Y : LX} {res : Int32 × IX} (hf : fn_Post_where a1 X = some res) : Met l zm_Post_where (zu_ws zm_Post_where zb_Post_where 2 (some .int)) zR_Post_where (va_Pc [.ref (ad 0), .int a1] (zu_Pre D cA ad A X Y)) (zu_Qi D cA ad A res.1 res.2 Y) 0 0 A := by
  refine Met.ofW (cc := zb_Post_where) (maxL := 2) (ret := (some .int)) (by decide +kernel) rfl ?_
  intro p e s m args below meth c s₁ B0 hml hv
  obtain ⟨rfl, hP, hST⟩ := hv
  have B : zu_B p s m _ c zb_Post_where 2 "StonePost" D cA ad A := ⟨B0.exec, B0.bytes, hml, findClass_of_methodNamed B0.named, (fun w hw => atoms_spec (ws := zu_ws zm_Post_where zb_Post_where 2 (some .int)) B0.pre w (List.mem_cons_of_mem _ hw)), hST⟩
  have hl := lv_entry ([.ref (ad 0), .int a1]) (n := 2) (Nat.le_of_ble_eq_true rfl)
  rw [lg_entry_eq]
  generalize (lg_sl ([.ref (ad 0), .int a1]) ++ List.replicate (2 - (lg_sl ([.ref (ad 0), .int a1])).length) Slot.unset).toArray = ls at hl ⊢
  exact zl_Post_where B B0.returns B0.notSynchronized s.heap [] ls hP va_S.rf hl  hf
theorem zw_Post_where {p : Program} {l : Launch} {e : Env} {R : Room} {s : State} {m : MethodId} {args : Array Value} {below : List Frame} {meth : Method} {c : Code} {H : Heap} {locs : List Loc} {cells slots : Nat} {Q : State → Prop} {cc : ByteArray} {pc nL : Nat} {ls : Array Slot} {rest st0 : List Value} {D : va_G} {cA : Nat → ClassId} {ad : Nat → Nat} {A : Nat → Prop} {X : IX} {Y : LX} {own : String} {index : Nat} {a1 : Int32} {v1 : Int32} {X1 : IX} (B : zu_B p s m args c cc nL own D cA ad A) (hP : va_P D zu_cl (zu_pic cA ad X Y) H) (hS : va_S A s.heap H locs) (hq : fn_Post_where a1 X = some (v1, X1)) (m1 : Cond.methodLink own index zm_Post_where ∈ zu_TB) (hR1 : 2 + 1 ≤ R.frames) (hR2 : 8 + (2 + 11) + 44 ≤ R.locals) (hsz : ls.size = nL) (hst : st0 = .int a1 :: .ref (ad 0) :: rest) (hw : (rest.map fun v => v.category).sum ≤ 8) (hdg : decode cc pc = .ok (.invokevirtual index, 3)) (h00 : cells ≤ R.cells ∧ slots ≤ R.slots) (kk : ∀ (H1 : Heap) (locs1 : List Loc), va_P D zu_cl (zu_pic cA ad X1 Y) H1 → va_S A s.heap H1 locs1 → W p l e R s m args below meth c H1 locs1 cells slots Q (F0 m (pc + 3) ls (.int v1 :: rest))) : W p l e R s m args below meth c H locs cells slots Q (F0 m pc ls st0) := by
  subst hst
  exact zr_cVi (As := [.int a1]) (rest := rest) (n := 1) (C := "StonePost") (T := zt_Post) (N := 8) B hP hS (zC_Post_where l  hq) (K := 1) rfl (by decide) (by decide) rfl rfl m1 zq_367 zq_368 zq_1 zq_369 (by decide +kernel) ⟨hR1, hR2⟩ rfl rfl rfl hsz rfl hw hdg h00 kk
abbrev zR_Post_take : Room := { frames := 2, cells := 0, slots := 0, locals := 44 }
theorem zd_Post_take_0 : decode zb_Post_take 0 = .ok (.aload_n 0, 1) := by decide +kernel
theorem zd_Post_take_1 : decode zb_Post_take 1 = .ok (.iload_n 1, 1) := by decide +kernel
theorem zd_Post_take_2 : decode zb_Post_take 2 = .ok (.invokevirtual 124, 3) := by decide +kernel
theorem zd_Post_take_5 : decode zb_Post_take 5 = .ok (.ifCond .ne 10, 3) := by decide +kernel
theorem zd_Post_take_8 : decode zb_Post_take 8 = .ok (.aload_n 0, 1) := by decide +kernel
theorem zd_Post_take_9 : decode zb_Post_take 9 = .ok (.ldc 55, 2) := by decide +kernel
theorem zd_Post_take_11 : decode zb_Post_take 11 = .ok (.invokevirtual 56, 3) := by decide +kernel
theorem zd_Post_take_14 : decode zb_Post_take 14 = .ok (.ireturn, 1) := by decide +kernel
theorem zd_Post_take_15 : decode zb_Post_take 15 = .ok (.aload_n 0, 1) := by decide +kernel
theorem zd_Post_take_16 : decode zb_Post_take 16 = .ok (.getfield 10, 3) := by decide +kernel
theorem zd_Post_take_19 : decode zb_Post_take 19 = .ok (.getfield 127, 3) := by decide +kernel
theorem zd_Post_take_22 : decode zb_Post_take 22 = .ok (.iload_n 1, 1) := by decide +kernel
theorem zd_Post_take_23 : decode zb_Post_take 23 = .ok (.iaload, 1) := by decide +kernel
theorem zd_Post_take_24 : decode zb_Post_take 24 = .ok (.istore_n 2, 1) := by decide +kernel
theorem zd_Post_take_25 : decode zb_Post_take 25 = .ok (.aload_n 0, 1) := by decide +kernel
theorem zd_Post_take_26 : decode zb_Post_take 26 = .ok (.getfield 10, 3) := by decide +kernel
theorem zd_Post_take_29 : decode zb_Post_take 29 = .ok (.dup, 1) := by decide +kernel
theorem zd_Post_take_30 : decode zb_Post_take 30 = .ok (.getfield 130, 3) := by decide +kernel
theorem zd_Post_take_33 : decode zb_Post_take 33 = .ok (.iconst 1, 1) := by decide +kernel
theorem zd_Post_take_34 : decode zb_Post_take 34 = .ok (.isub, 1) := by decide +kernel
theorem zd_Post_take_35 : decode zb_Post_take 35 = .ok (.putfield 130, 3) := by decide +kernel
theorem zd_Post_take_38 : decode zb_Post_take 38 = .ok (.iload_n 1, 1) := by decide +kernel
theorem zd_Post_take_39 : decode zb_Post_take 39 = .ok (.istore_n 3, 1) := by decide +kernel
theorem zd_Post_take_40 : decode zb_Post_take 40 = .ok (.iload_n 3, 1) := by decide +kernel
theorem zd_Post_take_41 : decode zb_Post_take 41 = .ok (.aload_n 0, 1) := by decide +kernel
theorem zd_Post_take_42 : decode zb_Post_take 42 = .ok (.getfield 10, 3) := by decide +kernel
theorem zd_Post_take_45 : decode zb_Post_take 45 = .ok (.getfield 130, 3) := by decide +kernel
theorem zd_Post_take_48 : decode zb_Post_take 48 = .ok (.if_icmp .ge 29, 3) := by decide +kernel
theorem zd_Post_take_51 : decode zb_Post_take 51 = .ok (.aload_n 0, 1) := by decide +kernel
theorem zd_Post_take_52 : decode zb_Post_take 52 = .ok (.getfield 10, 3) := by decide +kernel
theorem zd_Post_take_55 : decode zb_Post_take 55 = .ok (.getfield 127, 3) := by decide +kernel
theorem zd_Post_take_58 : decode zb_Post_take 58 = .ok (.iload_n 3, 1) := by decide +kernel
theorem zd_Post_take_59 : decode zb_Post_take 59 = .ok (.aload_n 0, 1) := by decide +kernel
theorem zd_Post_take_60 : decode zb_Post_take 60 = .ok (.getfield 10, 3) := by decide +kernel
theorem zd_Post_take_63 : decode zb_Post_take 63 = .ok (.getfield 127, 3) := by decide +kernel
theorem zd_Post_take_66 : decode zb_Post_take 66 = .ok (.iload_n 3, 1) := by decide +kernel
theorem zd_Post_take_67 : decode zb_Post_take 67 = .ok (.iconst 1, 1) := by decide +kernel
theorem zd_Post_take_68 : decode zb_Post_take 68 = .ok (.iadd, 1) := by decide +kernel
theorem zd_Post_take_69 : decode zb_Post_take 69 = .ok (.iaload, 1) := by decide +kernel
theorem zd_Post_take_70 : decode zb_Post_take 70 = .ok (.iastore, 1) := by decide +kernel
theorem zd_Post_take_71 : decode zb_Post_take 71 = .ok (.iinc 3 1, 3) := by decide +kernel
theorem zd_Post_take_74 : decode zb_Post_take 74 = .ok (.goto (-34), 3) := by decide +kernel
theorem zd_Post_take_77 : decode zb_Post_take 77 = .ok (.iload_n 2, 1) := by decide +kernel
theorem zd_Post_take_78 : decode zb_Post_take 78 = .ok (.ireturn, 1) := by decide +kernel
set_option maxHeartbeats 4000000 in
theorem zl_Post_take_B40 {p : Program} {l : Launch} {e : Env} {s : State} {m : MethodId} {args : Array Value} {below : List Frame} {meth : Method} {c : Code} {D : va_G} {cA : Nat → ClassId} {ad : Nat → Nat} {A : Nat → Prop} (B : zu_B p s m args c zb_Post_take 4 "StonePost" D cA ad A) (hret : meth.sig.returnType = (some .int)) (hlk : meth.locks = false) {Y : LX} {res : Int32 × IX} {k40 : Int32 → Int32 → IX → Option (Int32 × IX)} (hk40 : ∀ (x2 : Int32) (x3 : Int32) (X : IX) (H : Heap) (locs : List Loc) (ls : Array Slot), va_P D zu_cl (zu_pic cA ad X Y) H → va_S A s.heap H locs → lv_has ls 4 [(0, .ref (ad 0)), (2, .int x2), (3, .int x3)] → k40 x2 x3 X = some res → W p l e zR_Post_take s m args below meth c H locs 0 0 (MQ below (zu_Qi D cA ad A res.1 res.2 Y) args s 0 0 A) (F0 m 40 ls [])) (x2 : Int32) (x3 : Int32) (X : IX) (H : Heap) (locs : List Loc) (ls : Array Slot) (hP : va_P D zu_cl (zu_pic cA ad X Y) H) (hS : va_S A s.heap H locs) (hl : lv_has ls 4 [(0, .ref (ad 0)), (2, .int x2), (3, .int x3)]) (hf : fn_Post_take_B40 k40 x2 x3 X = some res) : W p l e zR_Post_take s m args below meth c H locs 0 0 (MQ below (zu_Qi D cA ad A res.1 res.2 Y) args s 0 0 A) (F0 m 40 ls []) := by
  obtain ⟨hx, hb, hml, hown, hts, hST⟩ := id B
  unfold fn_Post_take_B40 at hf
  refine lv_iload_n hx hb zd_Post_take_40 rfl (lv_at hl 2 rfl) ?_
  refine lv_aload_n hx hb zd_Post_take_41 rfl (lv_at hl 0 rfl) ?_
  refine zg_Post_land B hP rfl zq_191 zd_Post_take_42 ?_
  refine zg_Land_letterCount B hP rfl zq_66 zd_Post_take_45 ?_
  refine lv_icmp_ge (tgt := 77) hx hb zd_Post_take_48 (by decide) (fun c10 => ?_) (fun c10 => ?_)
  · have hf := zu_t c10 hf
    refine lv_iload_n hx hb zd_Post_take_77 rfl (lv_at hl 1 rfl) ?_
    obtain rfl := Option.some.inj hf
    exact zr_iret hx hb hret hlk hP hS zd_Post_take_78
  · have hf := zu_f c10 hf
    refine lv_aload_n hx hb zd_Post_take_51 rfl (lv_at hl 0 rfl) ?_
    refine zg_Post_land B hP rfl zq_191 zd_Post_take_52 ?_
    refine zg_Land_letterCells B hP rfl zq_58 zd_Post_take_55 ?_
    refine lv_iload_n hx hb zd_Post_take_58 rfl (lv_at hl 2 rfl) ?_
    refine lv_aload_n hx hb zd_Post_take_59 rfl (lv_at hl 0 rfl) ?_
    refine zg_Post_land B hP rfl zq_191 zd_Post_take_60 ?_
    refine zg_Land_letterCells B hP rfl zq_58 zd_Post_take_63 ?_
    refine lv_iload_n hx hb zd_Post_take_66 rfl (lv_at hl 2 rfl) ?_
    refine lv_iconst (v := 1) hx hb zd_Post_take_67 (by decide) ?_
    refine lv_iadd hx hb zd_Post_take_68 ?_
    obtain ⟨hg11, hf⟩ := zu_gd_e hf
    refine zr_iald rfl B hP (zk_Land_letterCells rfl) (by decide) rfl hg11 zd_Post_take_69 ?_
    obtain ⟨hg12, hf⟩ := zu_gd_e hf
    refine zr_iast rfl B hP hS hf (zk_Land_letterCells rfl) (by decide) rfl hg12 zd_Post_take_70 (fun X13 H locs hf hP hS => ?_)
    obtain ⟨v14, ev14, hf⟩ := zu_nx_e hf
    refine lv_iinc (v := v14) (lv' := [(3, .int v14), (0, .ref (ad 0)), (2, .int x2)]) hx hb zd_Post_take_71 hl (k := 2) rfl (by rw [ev14]; rfl) (by decide) rfl (fun ls hl => ?_)
    clear ev14
    refine lv_goto (tgt := 40) hx hb zd_Post_take_74 (by decide) ?_
    exact hk40 x2 v14 X13 _ _ _ hP hS (lv_sub hl [1, 2, 0] rfl) hf
theorem zl_Post_take_L40 {p : Program} {l : Launch} {e : Env} {s : State} {m : MethodId} {args : Array Value} {below : List Frame} {meth : Method} {c : Code} {D : va_G} {cA : Nat → ClassId} {ad : Nat → Nat} {A : Nat → Prop} (B : zu_B p s m args c zb_Post_take 4 "StonePost" D cA ad A) (hret : meth.sig.returnType = (some .int)) (hlk : meth.locks = false) {Y : LX} {res : Int32 × IX} : ∀ (n : Nat) (x2 : Int32) (x3 : Int32) (X : IX) (H : Heap) (locs : List Loc) (ls : Array Slot), va_P D zu_cl (zu_pic cA ad X Y) H → va_S A s.heap H locs → lv_has ls 4 [(0, .ref (ad 0)), (2, .int x2), (3, .int x3)] → fn_Post_take_L40 n x2 x3 X = some res → W p l e zR_Post_take s m args below meth c H locs 0 0 (MQ below (zu_Qi D cA ad A res.1 res.2 Y) args s 0 0 A) (F0 m 40 ls []) := by
  intro n
  induction n with
  | zero =>
    intro x2 x3 X H locs ls hP hS hl hf
    exact (Option.some_ne_none _ hf.symm).elim
  | succ n ih =>
    intro x2 x3 X H locs ls hP hS hl hf
    exact zl_Post_take_B40 B hret hlk ih x2 x3 X H locs ls hP hS hl  hf
set_option maxHeartbeats 4000000 in
theorem zl_Post_take {p : Program} {l : Launch} {e : Env} {s : State} {m : MethodId} {args : Array Value} {below : List Frame} {meth : Method} {c : Code} {D : va_G} {cA : Nat → ClassId} {ad : Nat → Nat} {A : Nat → Prop} (B : zu_B p s m args c zb_Post_take 4 "StonePost" D cA ad A) (hret : meth.sig.returnType = (some .int)) (hlk : meth.locks = false) {Y : LX} {res : Int32 × IX} {a1 : Int32} {X : IX} (H : Heap) (locs : List Loc) (ls : Array Slot) (hP : va_P D zu_cl (zu_pic cA ad X Y) H) (hS : va_S A s.heap H locs) (hl : lv_has ls 4 [(0, .ref (ad 0)), (1, .int a1)]) (hf : fn_Post_take a1 X = some res) : W p l e zR_Post_take s m args below meth c H locs 0 0 (MQ below (zu_Qi D cA ad A res.1 res.2 Y) args s 0 0 A) (F0 m 0 ls []) := by
  obtain ⟨hx, hb, hml, hown, hts, hST⟩ := id B
  unfold fn_Post_take at hf
  refine lv_aload_n hx hb zd_Post_take_0 rfl (lv_at hl 0 rfl) ?_
  refine lv_iload_n hx hb zd_Post_take_1 rfl (lv_at hl 1 rfl) ?_
  obtain ⟨v1, hq2, hf⟩ := zu_b1_e hf
  refine zw_Post_isLetter (rest := []) B hP hS hq2 zq_370 (Nat.le_of_ble_eq_true rfl) (Nat.le_of_ble_eq_true rfl) hl.1 rfl (Nat.le_of_ble_eq_true rfl) zd_Post_take_2 (by decide) (fun H locs hP hS => ?_)
  clear hq2
  refine lv_if_ne (tgt := 15) hx hb zd_Post_take_5 (by decide) (fun c3 => ?_) (fun c3 => ?_)
  · have hf := zu_f c3 hf
    refine lv_aload_n hx hb zd_Post_take_15 rfl (lv_at hl 0 rfl) ?_
    refine zg_Post_land B hP rfl zq_191 zd_Post_take_16 ?_
    refine zg_Land_letterCells B hP rfl zq_58 zd_Post_take_19 ?_
    refine lv_iload_n hx hb zd_Post_take_22 rfl (lv_at hl 1 rfl) ?_
    obtain ⟨hg4, hf⟩ := zu_gd_e hf
    refine zr_iald rfl B hP (zk_Land_letterCells rfl) (by decide) rfl hg4 zd_Post_take_23 ?_
    refine zr_nxi hf (fun v5 hf => ?_)
    refine lv_istore_n (lv' := [(2, .int v5), (0, .ref (ad 0)), (1, .int a1)]) hx hb zd_Post_take_24 rfl hl (by decide) rfl (fun ls hl => ?_)
    refine lv_aload_n hx hb zd_Post_take_25 rfl (lv_at hl 1 rfl) ?_
    refine zg_Post_land B hP rfl zq_191 zd_Post_take_26 ?_
    refine lv_dup hx hb zd_Post_take_29 rfl ?_
    refine zg_Land_letterCount B hP rfl zq_66 zd_Post_take_30 ?_
    refine lv_iconst (v := 1) hx hb zd_Post_take_33 (by decide) ?_
    refine lv_isub hx hb zd_Post_take_34 ?_
    refine zp_Land_letterCount B hP hS hf rfl zq_66 zd_Post_take_35 (fun X6 H locs hf hP hS => ?_)
    refine lv_iload_n hx hb zd_Post_take_38 rfl (lv_at hl 2 rfl) ?_
    refine lv_istore_n (lv' := [(3, .int a1), (2, .int v5), (0, .ref (ad 0)), (1, .int a1)]) hx hb zd_Post_take_39 rfl hl (by decide) rfl (fun ls hl => ?_)
    exact zl_Post_take_L40 B hret hlk 400 v5 a1 X6 _ _ _ hP hS (lv_sub hl [2, 1, 0] rfl) hf
  · have hf := zu_t c3 hf
    refine lv_aload_n hx hb zd_Post_take_8 rfl (lv_at hl 0 rfl) ?_
    refine lv_ldc (v := -1000001) hx hb hown (hts _ zq_226) zd_Post_take_9 ?_
    obtain ⟨v7, X8, hq9, hf⟩ := zu_b2_e hf
    refine zw_Post_finding (rest := []) B hP hS hq9 zq_227 (Nat.le_of_ble_eq_true rfl) (Nat.le_of_ble_eq_true rfl) hl.1 rfl (Nat.le_of_ble_eq_true rfl) zd_Post_take_11 (by decide) (fun H locs hP hS => ?_)
    clear hq9
    obtain rfl := Option.some.inj hf
    exact zr_iret hx hb hret hlk hP hS zd_Post_take_14
theorem zC_Post_take (l : Launch) {D : va_G} {cA : Nat → ClassId} {ad : Nat → Nat} {A : Nat → Prop} {a1 : Int32} {X : IX} {Y : LX} {res : Int32 × IX} (hf : fn_Post_take a1 X = some res) : Met l zm_Post_take (zu_ws zm_Post_take zb_Post_take 4 (some .int)) zR_Post_take (va_Pc [.ref (ad 0), .int a1] (zu_Pre D cA ad A X Y)) (zu_Qi D cA ad A res.1 res.2 Y) 0 0 A := by
  refine Met.ofW (cc := zb_Post_take) (maxL := 4) (ret := (some .int)) (by decide +kernel) rfl ?_
  intro p e s m args below meth c s₁ B0 hml hv
  obtain ⟨rfl, hP, hST⟩ := hv
  have B : zu_B p s m _ c zb_Post_take 4 "StonePost" D cA ad A := ⟨B0.exec, B0.bytes, hml, findClass_of_methodNamed B0.named, (fun w hw => atoms_spec (ws := zu_ws zm_Post_take zb_Post_take 4 (some .int)) B0.pre w (List.mem_cons_of_mem _ hw)), hST⟩
  have hl := lv_entry ([.ref (ad 0), .int a1]) (n := 4) (Nat.le_of_ble_eq_true rfl)
  rw [lg_entry_eq]
  generalize (lg_sl ([.ref (ad 0), .int a1]) ++ List.replicate (4 - (lg_sl ([.ref (ad 0), .int a1])).length) Slot.unset).toArray = ls at hl ⊢
  exact zl_Post_take B B0.returns B0.notSynchronized s.heap [] ls hP va_S.rf hl  hf
theorem zw_Post_take {p : Program} {l : Launch} {e : Env} {R : Room} {s : State} {m : MethodId} {args : Array Value} {below : List Frame} {meth : Method} {c : Code} {H : Heap} {locs : List Loc} {cells slots : Nat} {Q : State → Prop} {cc : ByteArray} {pc nL : Nat} {ls : Array Slot} {rest st0 : List Value} {D : va_G} {cA : Nat → ClassId} {ad : Nat → Nat} {A : Nat → Prop} {X : IX} {Y : LX} {own : String} {index : Nat} {a1 : Int32} {v1 : Int32} {X1 : IX} (B : zu_B p s m args c cc nL own D cA ad A) (hP : va_P D zu_cl (zu_pic cA ad X Y) H) (hS : va_S A s.heap H locs) (hq : fn_Post_take a1 X = some (v1, X1)) (m1 : Cond.methodLink own index zm_Post_take ∈ zu_TB) (hR1 : 2 + 1 ≤ R.frames) (hR2 : 8 + (4 + 11) + 44 ≤ R.locals) (hsz : ls.size = nL) (hst : st0 = .int a1 :: .ref (ad 0) :: rest) (hw : (rest.map fun v => v.category).sum ≤ 8) (hdg : decode cc pc = .ok (.invokevirtual index, 3)) (h00 : cells ≤ R.cells ∧ slots ≤ R.slots) (kk : ∀ (H1 : Heap) (locs1 : List Loc), va_P D zu_cl (zu_pic cA ad X1 Y) H1 → va_S A s.heap H1 locs1 → W p l e R s m args below meth c H1 locs1 cells slots Q (F0 m (pc + 3) ls (.int v1 :: rest))) : W p l e R s m args below meth c H locs cells slots Q (F0 m pc ls st0) := by
  subst hst
  exact zr_cVi (As := [.int a1]) (rest := rest) (n := 1) (C := "StonePost") (T := zt_Post) (N := 8) B hP hS (zC_Post_take l  hq) (K := 1) rfl (by decide) (by decide) rfl rfl m1 zq_375 zq_376 zq_1 zq_377 (by decide +kernel) ⟨hR1, hR2⟩ rfl rfl rfl hsz rfl hw hdg h00 kk
abbrev zR_Land_choiceSet : Room := { frames := 0, cells := 0, slots := 0, locals := 0 }
theorem zd_Land_choiceSet_0 : decode zb_Land_choiceSet 0 = .ok (.iconst 0, 1) := by decide +kernel
theorem zd_Land_choiceSet_1 : decode zb_Land_choiceSet 1 = .ok (.istore_n 1, 1) := by decide +kernel
theorem zd_Land_choiceSet_2 : decode zb_Land_choiceSet 2 = .ok (.iconst 0, 1) := by decide +kernel
theorem zd_Land_choiceSet_3 : decode zb_Land_choiceSet 3 = .ok (.istore_n 2, 1) := by decide +kernel
theorem zd_Land_choiceSet_4 : decode zb_Land_choiceSet 4 = .ok (.iload_n 2, 1) := by decide +kernel
theorem zd_Land_choiceSet_5 : decode zb_Land_choiceSet 5 = .ok (.aload_n 0, 1) := by decide +kernel
theorem zd_Land_choiceSet_6 : decode zb_Land_choiceSet 6 = .ok (.getfield 53, 3) := by decide +kernel
theorem zd_Land_choiceSet_9 : decode zb_Land_choiceSet 9 = .ok (.if_icmp .ge 26, 3) := by decide +kernel
theorem zd_Land_choiceSet_12 : decode zb_Land_choiceSet 12 = .ok (.iload_n 1, 1) := by decide +kernel
theorem zd_Land_choiceSet_13 : decode zb_Land_choiceSet 13 = .ok (.aload_n 0, 1) := by decide +kernel
theorem zd_Land_choiceSet_14 : decode zb_Land_choiceSet 14 = .ok (.getfield 17, 3) := by decide +kernel
theorem zd_Land_choiceSet_17 : decode zb_Land_choiceSet 17 = .ok (.iload_n 2, 1) := by decide +kernel
theorem zd_Land_choiceSet_18 : decode zb_Land_choiceSet 18 = .ok (.aaload, 1) := by decide +kernel
theorem zd_Land_choiceSet_19 : decode zb_Land_choiceSet 19 = .ok (.getfield 50, 3) := by decide +kernel
theorem zd_Land_choiceSet_22 : decode zb_Land_choiceSet 22 = .ok (.bipush 6, 2) := by decide +kernel
theorem zd_Land_choiceSet_24 : decode zb_Land_choiceSet 24 = .ok (.iaload, 1) := by decide +kernel
theorem zd_Land_choiceSet_25 : decode zb_Land_choiceSet 25 = .ok (.iload_n 2, 1) := by decide +kernel
theorem zd_Land_choiceSet_26 : decode zb_Land_choiceSet 26 = .ok (.ishl, 1) := by decide +kernel
theorem zd_Land_choiceSet_27 : decode zb_Land_choiceSet 27 = .ok (.ior, 1) := by decide +kernel
theorem zd_Land_choiceSet_28 : decode zb_Land_choiceSet 28 = .ok (.istore_n 1, 1) := by decide +kernel
theorem zd_Land_choiceSet_29 : decode zb_Land_choiceSet 29 = .ok (.iinc 2 1, 3) := by decide +kernel
theorem zd_Land_choiceSet_32 : decode zb_Land_choiceSet 32 = .ok (.goto (-28), 3) := by decide +kernel
theorem zd_Land_choiceSet_35 : decode zb_Land_choiceSet 35 = .ok (.iload_n 1, 1) := by decide +kernel
theorem zd_Land_choiceSet_36 : decode zb_Land_choiceSet 36 = .ok (.ireturn, 1) := by decide +kernel
set_option maxHeartbeats 4000000 in
theorem zl_Land_choiceSet_B4 {p : Program} {l : Launch} {e : Env} {s : State} {m : MethodId} {args : Array Value} {below : List Frame} {meth : Method} {c : Code} {D : va_G} {cA : Nat → ClassId} {ad : Nat → Nat} {A : Nat → Prop} (B : zu_B p s m args c zb_Land_choiceSet 3 "StonePost$Land" D cA ad A) (hret : meth.sig.returnType = (some .int)) (hlk : meth.locks = false) {X : IX} {Y : LX} {res : Int32} {k4 : Nat → Int32 → Int32 → Option Int32} (hk4 : ∀ (r0 : Nat) (x1 : Int32) (x2 : Int32) (H : Heap) (locs : List Loc) (ls : Array Slot), va_P D zu_cl (zu_pic cA ad X Y) H → va_S A s.heap H locs → lv_has ls 3 [(0, .ref (ad r0)), (1, .int x1), (2, .int x2)] → zu_kd r0 = 5 → k4 r0 x1 x2 = some res → W p l e zR_Land_choiceSet s m args below meth c H locs 0 0 (MQ below (zu_Qi D cA ad A res X Y) args s 0 0 A) (F0 m 4 ls [])) (r0 : Nat) (x1 : Int32) (x2 : Int32) (H : Heap) (locs : List Loc) (ls : Array Slot) (hP : va_P D zu_cl (zu_pic cA ad X Y) H) (hS : va_S A s.heap H locs) (hl : lv_has ls 3 [(0, .ref (ad r0)), (1, .int x1), (2, .int x2)]) (hr0 : zu_kd r0 = 5) (hf : fn_Land_choiceSet_B4 X k4 r0 x1 x2 = some res) : W p l e zR_Land_choiceSet s m args below meth c H locs 0 0 (MQ below (zu_Qi D cA ad A res X Y) args s 0 0 A) (F0 m 4 ls []) := by
  obtain ⟨hx, hb, hml, hown, hts, hST⟩ := id B
  unfold fn_Land_choiceSet_B4 at hf
  refine lv_iload_n hx hb zd_Land_choiceSet_4 rfl (lv_at hl 2 rfl) ?_
  refine lv_aload_n hx hb zd_Land_choiceSet_5 rfl (lv_at hl 0 rfl) ?_
  refine zg_Land_throwerCount B hP hr0 zq_61 zd_Land_choiceSet_6 ?_
  refine lv_icmp_ge (tgt := 35) hx hb zd_Land_choiceSet_9 (by decide) (fun c1 => ?_) (fun c1 => ?_)
  · have hf := zu_t c1 hf
    refine lv_iload_n hx hb zd_Land_choiceSet_35 rfl (lv_at hl 1 rfl) ?_
    obtain rfl := Option.some.inj hf
    exact zr_iret hx hb hret hlk hP hS zd_Land_choiceSet_36
  · have hf := zu_f c1 hf
    refine lv_iload_n hx hb zd_Land_choiceSet_12 rfl (lv_at hl 1 rfl) ?_
    refine lv_aload_n hx hb zd_Land_choiceSet_13 rfl (lv_at hl 0 rfl) ?_
    refine zg_Land_throwers B hP hr0 zq_53 zd_Land_choiceSet_14 ?_
    refine lv_iload_n hx hb zd_Land_choiceSet_17 rfl (lv_at hl 2 rfl) ?_
    obtain ⟨hg2, hf⟩ := zu_gd_e hf
    refine zr_thr rfl B hP (zk_Land_throwers hr0) hg2 zd_Land_choiceSet_18 ?_
    refine zg_Thr_facts B hP (zk_thr (zk_Land_throwers hr0) (zu_ib_lt hg2)) zq_39 zd_Land_choiceSet_19 ?_
    refine lv_bipush (v := 6) hx hb zd_Land_choiceSet_22 (by decide) ?_
    refine zr_iald (j := 6) (by decide) B hP (zk_Thr_facts (zk_thr (zk_Land_throwers hr0) (zu_ib_lt hg2))) (by decide) rfl (by decide) zd_Land_choiceSet_24 ?_
    refine lv_iload_n hx hb zd_Land_choiceSet_25 rfl (lv_at hl 2 rfl) ?_
    refine lv_ishl hx hb zd_Land_choiceSet_26 ?_
    refine lv_ior hx hb zd_Land_choiceSet_27 ?_
    refine zr_nxi hf (fun v3 hf => ?_)
    refine lv_istore_n (lv' := [(1, .int v3), (0, .ref (ad r0)), (2, .int x2)]) hx hb zd_Land_choiceSet_28 rfl hl (by decide) rfl (fun ls hl => ?_)
    obtain ⟨v4, ev4, hf⟩ := zu_nx_e hf
    refine lv_iinc (v := v4) (lv' := [(2, .int v4), (1, .int v3), (0, .ref (ad r0))]) hx hb zd_Land_choiceSet_29 hl (k := 2) rfl (by rw [ev4]; rfl) (by decide) rfl (fun ls hl => ?_)
    clear ev4
    refine lv_goto (tgt := 4) hx hb zd_Land_choiceSet_32 (by decide) ?_
    exact hk4 r0 v3 v4 _ _ _ hP hS (lv_sub hl [2, 1, 0] rfl) hr0 hf
theorem zl_Land_choiceSet_L4 {p : Program} {l : Launch} {e : Env} {s : State} {m : MethodId} {args : Array Value} {below : List Frame} {meth : Method} {c : Code} {D : va_G} {cA : Nat → ClassId} {ad : Nat → Nat} {A : Nat → Prop} (B : zu_B p s m args c zb_Land_choiceSet 3 "StonePost$Land" D cA ad A) (hret : meth.sig.returnType = (some .int)) (hlk : meth.locks = false) {X : IX} {Y : LX} {res : Int32} : ∀ (n : Nat) (r0 : Nat) (x1 : Int32) (x2 : Int32) (H : Heap) (locs : List Loc) (ls : Array Slot), va_P D zu_cl (zu_pic cA ad X Y) H → va_S A s.heap H locs → lv_has ls 3 [(0, .ref (ad r0)), (1, .int x1), (2, .int x2)] → zu_kd r0 = 5 → fn_Land_choiceSet_L4 X n r0 x1 x2 = some res → W p l e zR_Land_choiceSet s m args below meth c H locs 0 0 (MQ below (zu_Qi D cA ad A res X Y) args s 0 0 A) (F0 m 4 ls []) := by
  intro n
  induction n with
  | zero =>
    intro r0 x1 x2 H locs ls hP hS hl hr0 hf
    exact (Option.some_ne_none _ hf.symm).elim
  | succ n ih =>
    intro r0 x1 x2 H locs ls hP hS hl hr0 hf
    exact zl_Land_choiceSet_B4 B hret hlk ih r0 x1 x2 H locs ls hP hS hl hr0 hf
set_option maxHeartbeats 4000000 in
theorem zl_Land_choiceSet {p : Program} {l : Launch} {e : Env} {s : State} {m : MethodId} {args : Array Value} {below : List Frame} {meth : Method} {c : Code} {D : va_G} {cA : Nat → ClassId} {ad : Nat → Nat} {A : Nat → Prop} (B : zu_B p s m args c zb_Land_choiceSet 3 "StonePost$Land" D cA ad A) (hret : meth.sig.returnType = (some .int)) (hlk : meth.locks = false) {X : IX} {Y : LX} {res : Int32} {r0 : Nat} (H : Heap) (locs : List Loc) (ls : Array Slot) (hP : va_P D zu_cl (zu_pic cA ad X Y) H) (hS : va_S A s.heap H locs) (hl : lv_has ls 3 [(0, .ref (ad r0))]) (hr0 : zu_kd r0 = 5) (hf : fn_Land_choiceSet X r0 = some res) : W p l e zR_Land_choiceSet s m args below meth c H locs 0 0 (MQ below (zu_Qi D cA ad A res X Y) args s 0 0 A) (F0 m 0 ls []) := by
  obtain ⟨hx, hb, hml, hown, hts, hST⟩ := id B
  unfold fn_Land_choiceSet at hf
  refine lv_iconst (v := 0) hx hb zd_Land_choiceSet_0 (by decide) ?_
  refine lv_istore_n (lv' := [(1, .int (0 : Int32)), (0, .ref (ad r0))]) hx hb zd_Land_choiceSet_1 rfl hl (by decide) rfl (fun ls hl => ?_)
  refine lv_iconst (v := 0) hx hb zd_Land_choiceSet_2 (by decide) ?_
  refine lv_istore_n (lv' := [(2, .int (0 : Int32)), (1, .int (0 : Int32)), (0, .ref (ad r0))]) hx hb zd_Land_choiceSet_3 rfl hl (by decide) rfl (fun ls hl => ?_)
  exact zl_Land_choiceSet_L4 B hret hlk 400 r0 (0 : Int32) (0 : Int32) _ _ _ hP hS (lv_sub hl [2, 1, 0] rfl) hr0 hf
theorem zC_Land_choiceSet (l : Launch) {D : va_G} {cA : Nat → ClassId} {ad : Nat → Nat} {A : Nat → Prop} {r0 : Nat} {X : IX} {Y : LX} {res : Int32} (hr0 : zu_kd r0 = 5) (hf : fn_Land_choiceSet X r0 = some res) : Met l zm_Land_choiceSet (zu_ws zm_Land_choiceSet zb_Land_choiceSet 3 (some .int)) zR_Land_choiceSet (va_Pc [.ref (ad r0)] (zu_Pre D cA ad A X Y)) (zu_Qi D cA ad A res X Y) 0 0 A := by
  refine Met.ofW (cc := zb_Land_choiceSet) (maxL := 3) (ret := (some .int)) (by decide +kernel) rfl ?_
  intro p e s m args below meth c s₁ B0 hml hv
  obtain ⟨rfl, hP, hST⟩ := hv
  have B : zu_B p s m _ c zb_Land_choiceSet 3 "StonePost$Land" D cA ad A := ⟨B0.exec, B0.bytes, hml, findClass_of_methodNamed B0.named, (fun w hw => atoms_spec (ws := zu_ws zm_Land_choiceSet zb_Land_choiceSet 3 (some .int)) B0.pre w (List.mem_cons_of_mem _ hw)), hST⟩
  have hl := lv_entry ([.ref (ad r0)]) (n := 3) (Nat.le_of_ble_eq_true rfl)
  rw [lg_entry_eq]
  generalize (lg_sl ([.ref (ad r0)]) ++ List.replicate (3 - (lg_sl ([.ref (ad r0)])).length) Slot.unset).toArray = ls at hl ⊢
  exact zl_Land_choiceSet B B0.returns B0.notSynchronized s.heap [] ls hP va_S.rf hl hr0 hf
theorem zw_Land_choiceSet {p : Program} {l : Launch} {e : Env} {R : Room} {s : State} {m : MethodId} {args : Array Value} {below : List Frame} {meth : Method} {c : Code} {H : Heap} {locs : List Loc} {cells slots : Nat} {Q : State → Prop} {cc : ByteArray} {pc nL : Nat} {ls : Array Slot} {rest st0 : List Value} {D : va_G} {cA : Nat → ClassId} {ad : Nat → Nat} {A : Nat → Prop} {X : IX} {Y : LX} {own : String} {index : Nat} {r0 : Nat} {v1 : Int32} (B : zu_B p s m args c cc nL own D cA ad A) (hP : va_P D zu_cl (zu_pic cA ad X Y) H) (hS : va_S A s.heap H locs) (hr0 : zu_kd r0 = 5) (hq : fn_Land_choiceSet X r0 = some v1) (m1 : Cond.methodLink own index zm_Land_choiceSet ∈ zu_TB) (hR1 : 0 + 1 ≤ R.frames) (hR2 : 8 + (3 + 11) + 0 ≤ R.locals) (hsz : ls.size = nL) (hst : st0 = .ref (ad r0) :: rest) (hw : (rest.map fun v => v.category).sum ≤ 8) (hdg : decode cc pc = .ok (.invokevirtual index, 3)) (h00 : cells ≤ R.cells ∧ slots ≤ R.slots) (kk : ∀ (H1 : Heap) (locs1 : List Loc), va_P D zu_cl (zu_pic cA ad X Y) H1 → va_S A s.heap H1 locs1 → W p l e R s m args below meth c H1 locs1 cells slots Q (F0 m (pc + 3) ls (.int v1 :: rest))) : W p l e R s m args below meth c H locs cells slots Q (F0 m pc ls st0) := by
  subst hst
  exact zr_cVi (As := []) (rest := rest) (n := 0) (C := "StonePost$Land") (T := zt_Land) (N := 10) B hP hS (zC_Land_choiceSet l hr0 hq) (K := 5) hr0 (by decide) (by decide) rfl rfl m1 zq_387 zq_388 zq_2 zq_389 (by decide +kernel) ⟨hR1, hR2⟩ rfl rfl rfl hsz rfl hw hdg h00 kk
abbrev zR_Land_isHedge : Room := { frames := 0, cells := 0, slots := 0, locals := 0 }
theorem zd_Land_isHedge_0 : decode zb_Land_isHedge 0 = .ok (.aload_n 0, 1) := by decide +kernel
theorem zd_Land_isHedge_1 : decode zb_Land_isHedge 1 = .ok (.getfield 9, 3) := by decide +kernel
theorem zd_Land_isHedge_4 : decode zb_Land_isHedge 4 = .ok (.iload_n 1, 1) := by decide +kernel
theorem zd_Land_isHedge_5 : decode zb_Land_isHedge 5 = .ok (.iaload, 1) := by decide +kernel
theorem zd_Land_isHedge_6 : decode zb_Land_isHedge 6 = .ok (.iconst 2, 1) := by decide +kernel
theorem zd_Land_isHedge_7 : decode zb_Land_isHedge 7 = .ok (.if_icmp .ne 7, 3) := by decide +kernel
theorem zd_Land_isHedge_10 : decode zb_Land_isHedge 10 = .ok (.iconst 1, 1) := by decide +kernel
theorem zd_Land_isHedge_11 : decode zb_Land_isHedge 11 = .ok (.goto 4, 3) := by decide +kernel
theorem zd_Land_isHedge_14 : decode zb_Land_isHedge 14 = .ok (.iconst 0, 1) := by decide +kernel
theorem zd_Land_isHedge_15 : decode zb_Land_isHedge 15 = .ok (.ireturn, 1) := by decide +kernel
set_option maxHeartbeats 4000000 in
theorem zl_Land_isHedge_L15 {p : Program} {l : Launch} {e : Env} {s : State} {m : MethodId} {args : Array Value} {below : List Frame} {meth : Method} {c : Code} {D : va_G} {cA : Nat → ClassId} {ad : Nat → Nat} {A : Nat → Prop} (B : zu_B p s m args c zb_Land_isHedge 2 "StonePost$Land" D cA ad A) (hret : meth.sig.returnType = (some .boolean)) (hlk : meth.locks = false) {X : IX} {Y : LX} {res : Int32} (y0 : Int32) (H : Heap) (locs : List Loc) (ls : Array Slot) (hP : va_P D zu_cl (zu_pic cA ad X Y) H) (hS : va_S A s.heap H locs) (hl : lv_has ls 2 []) (hf : fn_Land_isHedge_L15 X y0 = some res) : W p l e zR_Land_isHedge s m args below meth c H locs 0 0 (MQ below (zu_Qi D cA ad A res X Y) args s 0 0 A) (F0 m 15 ls [.int y0]) := by
  obtain ⟨hx, hb, hml, hown, hts, hST⟩ := id B
  unfold fn_Land_isHedge_L15 at hf
  obtain ⟨hg3, hf⟩ := zu_gd_e hf
  obtain rfl := Option.some.inj hf
  exact zr_zret hx hb hret hlk hP hS hg3 zd_Land_isHedge_15
set_option maxHeartbeats 4000000 in
theorem zl_Land_isHedge {p : Program} {l : Launch} {e : Env} {s : State} {m : MethodId} {args : Array Value} {below : List Frame} {meth : Method} {c : Code} {D : va_G} {cA : Nat → ClassId} {ad : Nat → Nat} {A : Nat → Prop} (B : zu_B p s m args c zb_Land_isHedge 2 "StonePost$Land" D cA ad A) (hret : meth.sig.returnType = (some .boolean)) (hlk : meth.locks = false) {X : IX} {Y : LX} {res : Int32} {r0 : Nat} {a1 : Int32} (H : Heap) (locs : List Loc) (ls : Array Slot) (hP : va_P D zu_cl (zu_pic cA ad X Y) H) (hS : va_S A s.heap H locs) (hl : lv_has ls 2 [(0, .ref (ad r0)), (1, .int a1)]) (hr0 : zu_kd r0 = 5) (hf : fn_Land_isHedge X r0 a1 = some res) : W p l e zR_Land_isHedge s m args below meth c H locs 0 0 (MQ below (zu_Qi D cA ad A res X Y) args s 0 0 A) (F0 m 0 ls []) := by
  obtain ⟨hx, hb, hml, hown, hts, hST⟩ := id B
  unfold fn_Land_isHedge at hf
  refine lv_aload_n hx hb zd_Land_isHedge_0 rfl (lv_at hl 0 rfl) ?_
  refine zg_Land_stuffs B hP hr0 zq_50 zd_Land_isHedge_1 ?_
  refine lv_iload_n hx hb zd_Land_isHedge_4 rfl (lv_at hl 1 rfl) ?_
  obtain ⟨hg1, hf⟩ := zu_gd_e hf
  refine zr_iald rfl B hP (zk_Land_stuffs hr0) (by decide) rfl hg1 zd_Land_isHedge_5 ?_
  refine lv_iconst (v := 2) hx hb zd_Land_isHedge_6 (by decide) ?_
  refine lv_icmp_ne (tgt := 14) hx hb zd_Land_isHedge_7 (by decide) (fun c2 => ?_) (fun c2 => ?_)
  · have hf := zu_f c2 hf
    refine lv_iconst (v := 0) hx hb zd_Land_isHedge_14 (by decide) ?_
    exact zl_Land_isHedge_L15 B hret hlk (0 : Int32) _ _ _ hP hS (lv_sub hl [] rfl) hf
  · have hf := zu_t c2 hf
    refine lv_iconst (v := 1) hx hb zd_Land_isHedge_10 (by decide) ?_
    refine lv_goto (tgt := 15) hx hb zd_Land_isHedge_11 (by decide) ?_
    exact zl_Land_isHedge_L15 B hret hlk (1 : Int32) _ _ _ hP hS (lv_sub hl [] rfl) hf
theorem zC_Land_isHedge (l : Launch) {D : va_G} {cA : Nat → ClassId} {ad : Nat → Nat} {A : Nat → Prop} {r0 : Nat} {a1 : Int32} {X : IX} {Y : LX} {res : Int32} (hr0 : zu_kd r0 = 5) (hf : fn_Land_isHedge X r0 a1 = some res) : Met l zm_Land_isHedge (zu_ws zm_Land_isHedge zb_Land_isHedge 2 (some .boolean)) zR_Land_isHedge (va_Pc [.ref (ad r0), .int a1] (zu_Pre D cA ad A X Y)) (zu_Qi D cA ad A res X Y) 0 0 A := by
  refine Met.ofW (cc := zb_Land_isHedge) (maxL := 2) (ret := (some .boolean)) (by decide +kernel) rfl ?_
  intro p e s m args below meth c s₁ B0 hml hv
  obtain ⟨rfl, hP, hST⟩ := hv
  have B : zu_B p s m _ c zb_Land_isHedge 2 "StonePost$Land" D cA ad A := ⟨B0.exec, B0.bytes, hml, findClass_of_methodNamed B0.named, (fun w hw => atoms_spec (ws := zu_ws zm_Land_isHedge zb_Land_isHedge 2 (some .boolean)) B0.pre w (List.mem_cons_of_mem _ hw)), hST⟩
  have hl := lv_entry ([.ref (ad r0), .int a1]) (n := 2) (Nat.le_of_ble_eq_true rfl)
  rw [lg_entry_eq]
  generalize (lg_sl ([.ref (ad r0), .int a1]) ++ List.replicate (2 - (lg_sl ([.ref (ad r0), .int a1])).length) Slot.unset).toArray = ls at hl ⊢
  exact zl_Land_isHedge B B0.returns B0.notSynchronized s.heap [] ls hP va_S.rf hl hr0 hf
theorem zw_Land_isHedge {p : Program} {l : Launch} {e : Env} {R : Room} {s : State} {m : MethodId} {args : Array Value} {below : List Frame} {meth : Method} {c : Code} {H : Heap} {locs : List Loc} {cells slots : Nat} {Q : State → Prop} {cc : ByteArray} {pc nL : Nat} {ls : Array Slot} {rest st0 : List Value} {D : va_G} {cA : Nat → ClassId} {ad : Nat → Nat} {A : Nat → Prop} {X : IX} {Y : LX} {own : String} {index : Nat} {r0 : Nat} {a1 : Int32} {v1 : Int32} (B : zu_B p s m args c cc nL own D cA ad A) (hP : va_P D zu_cl (zu_pic cA ad X Y) H) (hS : va_S A s.heap H locs) (hr0 : zu_kd r0 = 5) (hq : fn_Land_isHedge X r0 a1 = some v1) (m1 : Cond.methodLink own index zm_Land_isHedge ∈ zu_TB) (hR1 : 0 + 1 ≤ R.frames) (hR2 : 8 + (2 + 11) + 0 ≤ R.locals) (hsz : ls.size = nL) (hst : st0 = .int a1 :: .ref (ad r0) :: rest) (hw : (rest.map fun v => v.category).sum ≤ 8) (hdg : decode cc pc = .ok (.invokevirtual index, 3)) (h00 : cells ≤ R.cells ∧ slots ≤ R.slots) (kk : ∀ (H1 : Heap) (locs1 : List Loc), va_P D zu_cl (zu_pic cA ad X Y) H1 → va_S A s.heap H1 locs1 → W p l e R s m args below meth c H1 locs1 cells slots Q (F0 m (pc + 3) ls (.int v1 :: rest))) : W p l e R s m args below meth c H locs cells slots Q (F0 m pc ls st0) := by
  subst hst
  exact zr_cVi (As := [.int a1]) (rest := rest) (n := 1) (C := "StonePost$Land") (T := zt_Land) (N := 10) B hP hS (zC_Land_isHedge l hr0 hq) (K := 5) hr0 (by decide) (by decide) rfl rfl m1 zq_416 zq_417 zq_2 zq_418 (by decide +kernel) ⟨hR1, hR2⟩ rfl rfl rfl hsz rfl hw hdg h00 kk
abbrev zR_Chart_layThrows : Room := { frames := 3, cells := 0, slots := 0, locals := 65 }
theorem zd_Chart_layThrows_0 : decode zb_Chart_layThrows 0 = .ok (.iconst 0, 1) := by decide +kernel
theorem zd_Chart_layThrows_1 : decode zb_Chart_layThrows 1 = .ok (.istore_n 3, 1) := by decide +kernel
theorem zd_Chart_layThrows_2 : decode zb_Chart_layThrows 2 = .ok (.iload_n 3, 1) := by decide +kernel
theorem zd_Chart_layThrows_3 : decode zb_Chart_layThrows 3 = .ok (.iconst 4, 1) := by decide +kernel
theorem zd_Chart_layThrows_4 : decode zb_Chart_layThrows 4 = .ok (.if_icmp .ge 79, 3) := by decide +kernel
theorem zd_Chart_layThrows_7 : decode zb_Chart_layThrows 7 = .ok (.iload_n 3, 1) := by decide +kernel
theorem zd_Chart_layThrows_8 : decode zb_Chart_layThrows 8 = .ok (.iconst 2, 1) := by decide +kernel
theorem zd_Chart_layThrows_9 : decode zb_Chart_layThrows 9 = .ok (.if_icmp .lt 7, 3) := by decide +kernel
theorem zd_Chart_layThrows_12 : decode zb_Chart_layThrows 12 = .ok (.iconst 1, 1) := by decide +kernel
theorem zd_Chart_layThrows_13 : decode zb_Chart_layThrows 13 = .ok (.goto 4, 3) := by decide +kernel
theorem zd_Chart_layThrows_16 : decode zb_Chart_layThrows 16 = .ok (.iconst 0, 1) := by decide +kernel
theorem zd_Chart_layThrows_17 : decode zb_Chart_layThrows 17 = .ok (.istore 4, 2) := by decide +kernel
theorem zd_Chart_layThrows_19 : decode zb_Chart_layThrows 19 = .ok (.iload_n 3, 1) := by decide +kernel
theorem zd_Chart_layThrows_20 : decode zb_Chart_layThrows 20 = .ok (.iconst 1, 1) := by decide +kernel
theorem zd_Chart_layThrows_21 : decode zb_Chart_layThrows 21 = .ok (.iand, 1) := by decide +kernel
theorem zd_Chart_layThrows_22 : decode zb_Chart_layThrows 22 = .ok (.istore 5, 2) := by decide +kernel
theorem zd_Chart_layThrows_24 : decode zb_Chart_layThrows 24 = .ok (.iload_n 3, 1) := by decide +kernel
theorem zd_Chart_layThrows_25 : decode zb_Chart_layThrows 25 = .ok (.bipush 24, 2) := by decide +kernel
theorem zd_Chart_layThrows_27 : decode zb_Chart_layThrows 27 = .ok (.imul, 1) := by decide +kernel
theorem zd_Chart_layThrows_28 : decode zb_Chart_layThrows 28 = .ok (.iload_n 2, 1) := by decide +kernel
theorem zd_Chart_layThrows_29 : decode zb_Chart_layThrows 29 = .ok (.iadd, 1) := by decide +kernel
theorem zd_Chart_layThrows_30 : decode zb_Chart_layThrows 30 = .ok (.istore 6, 2) := by decide +kernel
theorem zd_Chart_layThrows_32 : decode zb_Chart_layThrows 32 = .ok (.aload_n 0, 1) := by decide +kernel
theorem zd_Chart_layThrows_33 : decode zb_Chart_layThrows 33 = .ok (.getfield 11, 3) := by decide +kernel
theorem zd_Chart_layThrows_36 : decode zb_Chart_layThrows 36 = .ok (.iload 6, 2) := by decide +kernel
theorem zd_Chart_layThrows_38 : decode zb_Chart_layThrows 38 = .ok (.aload_n 1, 1) := by decide +kernel
theorem zd_Chart_layThrows_39 : decode zb_Chart_layThrows 39 = .ok (.iload 5, 2) := by decide +kernel
theorem zd_Chart_layThrows_41 : decode zb_Chart_layThrows 41 = .ok (.iload 4, 2) := by decide +kernel
theorem zd_Chart_layThrows_43 : decode zb_Chart_layThrows 43 = .ok (.invokevirtual 88, 3) := by decide +kernel
theorem zd_Chart_layThrows_46 : decode zb_Chart_layThrows 46 = .ok (.iastore, 1) := by decide +kernel
theorem zd_Chart_layThrows_47 : decode zb_Chart_layThrows 47 = .ok (.aload_n 0, 1) := by decide +kernel
theorem zd_Chart_layThrows_48 : decode zb_Chart_layThrows 48 = .ok (.getfield 15, 3) := by decide +kernel
theorem zd_Chart_layThrows_51 : decode zb_Chart_layThrows 51 = .ok (.iload 6, 2) := by decide +kernel
theorem zd_Chart_layThrows_53 : decode zb_Chart_layThrows 53 = .ok (.aload_n 1, 1) := by decide +kernel
theorem zd_Chart_layThrows_54 : decode zb_Chart_layThrows 54 = .ok (.iload 5, 2) := by decide +kernel
theorem zd_Chart_layThrows_56 : decode zb_Chart_layThrows 56 = .ok (.iload 4, 2) := by decide +kernel
theorem zd_Chart_layThrows_58 : decode zb_Chart_layThrows 58 = .ok (.invokevirtual 92, 3) := by decide +kernel
theorem zd_Chart_layThrows_61 : decode zb_Chart_layThrows 61 = .ok (.iastore, 1) := by decide +kernel
theorem zd_Chart_layThrows_62 : decode zb_Chart_layThrows 62 = .ok (.aload_n 0, 1) := by decide +kernel
theorem zd_Chart_layThrows_63 : decode zb_Chart_layThrows 63 = .ok (.getfield 18, 3) := by decide +kernel
theorem zd_Chart_layThrows_66 : decode zb_Chart_layThrows 66 = .ok (.iload 6, 2) := by decide +kernel
theorem zd_Chart_layThrows_68 : decode zb_Chart_layThrows 68 = .ok (.aload_n 1, 1) := by decide +kernel
theorem zd_Chart_layThrows_69 : decode zb_Chart_layThrows 69 = .ok (.iload 5, 2) := by decide +kernel
theorem zd_Chart_layThrows_71 : decode zb_Chart_layThrows 71 = .ok (.iload 4, 2) := by decide +kernel
theorem zd_Chart_layThrows_73 : decode zb_Chart_layThrows 73 = .ok (.invokevirtual 95, 3) := by decide +kernel
theorem zd_Chart_layThrows_76 : decode zb_Chart_layThrows 76 = .ok (.iastore, 1) := by decide +kernel
theorem zd_Chart_layThrows_77 : decode zb_Chart_layThrows 77 = .ok (.iinc 3 1, 3) := by decide +kernel
theorem zd_Chart_layThrows_80 : decode zb_Chart_layThrows 80 = .ok (.goto (-78), 3) := by decide +kernel
theorem zd_Chart_layThrows_83 : decode zb_Chart_layThrows 83 = .ok (.return_, 1) := by decide +kernel
set_option maxHeartbeats 4000000 in
theorem zl_Chart_layThrows_L17 {p : Program} {l : Launch} {e : Env} {s : State} {m : MethodId} {args : Array Value} {below : List Frame} {meth : Method} {c : Code} {D : va_G} {cA : Nat → ClassId} {ad : Nat → Nat} {A : Nat → Prop} (B : zu_B p s m args c zb_Chart_layThrows 7 "StonePost$Chart" D cA ad A) (hret : meth.sig.returnType = none) (hlk : meth.locks = false) {Y : LX} {res : IX} {k2 : Nat → Int32 → Int32 → IX → Option IX} (hk2 : ∀ (r1 : Nat) (x2 : Int32) (x3 : Int32) (X : IX) (H : Heap) (locs : List Loc) (ls : Array Slot), va_P D zu_cl (zu_pic cA ad X Y) H → va_S A s.heap H locs → lv_has ls 7 [(0, .ref (ad 1)), (1, .ref (ad r1)), (2, .int x2), (3, .int x3)] → zu_kd r1 = 6 → k2 r1 x2 x3 X = some res → W p l e zR_Chart_layThrows s m args below meth c H locs 0 0 (MQ below (zu_Qv D cA ad A res Y) args s 0 0 A) (F0 m 2 ls [])) (r1 : Nat) (x2 : Int32) (x3 : Int32) (y0 : Int32) (X : IX) (H : Heap) (locs : List Loc) (ls : Array Slot) (hP : va_P D zu_cl (zu_pic cA ad X Y) H) (hS : va_S A s.heap H locs) (hl : lv_has ls 7 [(0, .ref (ad 1)), (1, .ref (ad r1)), (2, .int x2), (3, .int x3)]) (hr1 : zu_kd r1 = 6) (hf : fn_Chart_layThrows_L17 k2 r1 x2 x3 y0 X = some res) : W p l e zR_Chart_layThrows s m args below meth c H locs 0 0 (MQ below (zu_Qv D cA ad A res Y) args s 0 0 A) (F0 m 17 ls [.int y0]) := by
  obtain ⟨hx, hb, hml, hown, hts, hST⟩ := id B
  unfold fn_Chart_layThrows_L17 at hf
  refine lv_istore (lv' := [(4, .int y0), (0, .ref (ad 1)), (1, .ref (ad r1)), (2, .int x2), (3, .int x3)]) hx hb zd_Chart_layThrows_17 hl (by decide) rfl (fun ls hl => ?_)
  refine lv_iload_n hx hb zd_Chart_layThrows_19 rfl (lv_at hl 4 rfl) ?_
  refine lv_iconst (v := 1) hx hb zd_Chart_layThrows_20 (by decide) ?_
  refine lv_iand hx hb zd_Chart_layThrows_21 ?_
  refine zr_nxi hf (fun v3 hf => ?_)
  refine lv_istore (lv' := [(5, .int v3), (4, .int y0), (0, .ref (ad 1)), (1, .ref (ad r1)), (2, .int x2), (3, .int x3)]) hx hb zd_Chart_layThrows_22 hl (by decide) rfl (fun ls hl => ?_)
  refine lv_iload_n hx hb zd_Chart_layThrows_24 rfl (lv_at hl 5 rfl) ?_
  refine lv_bipush (v := 24) hx hb zd_Chart_layThrows_25 (by decide) ?_
  refine lv_imul hx hb zd_Chart_layThrows_27 ?_
  refine lv_iload_n hx hb zd_Chart_layThrows_28 rfl (lv_at hl 4 rfl) ?_
  refine lv_iadd hx hb zd_Chart_layThrows_29 ?_
  refine zr_nxi hf (fun v4 hf => ?_)
  refine lv_istore (lv' := [(6, .int v4), (5, .int v3), (4, .int y0), (0, .ref (ad 1)), (1, .ref (ad r1)), (2, .int x2), (3, .int x3)]) hx hb zd_Chart_layThrows_30 hl (by decide) rfl (fun ls hl => ?_)
  refine lv_aload_n hx hb zd_Chart_layThrows_32 rfl (lv_at hl 3 rfl) ?_
  refine zg_Chart_first B hP rfl zq_106 zd_Chart_layThrows_33 ?_
  refine lv_iload hx hb zd_Chart_layThrows_36 (lv_at hl 0 rfl) ?_
  refine lv_aload_n hx hb zd_Chart_layThrows_38 rfl (lv_at hl 4 rfl) ?_
  refine lv_iload hx hb zd_Chart_layThrows_39 (lv_at hl 1 rfl) ?_
  refine lv_iload hx hb zd_Chart_layThrows_41 (lv_at hl 2 rfl) ?_
  obtain ⟨v5, ehq6, hf⟩ := zu_nx_e hf
  have hq6 := ehq6.symm
  refine zw_Thr_toldCell (rest := [.int v4, .ref (ad 2)]) B hP hS hr1 hq6 zq_412 (Nat.le_of_ble_eq_true rfl) (Nat.le_of_ble_eq_true rfl) hl.1 rfl (Nat.le_of_ble_eq_true rfl) zd_Chart_layThrows_43 (by decide) (fun H locs hP hS => ?_)
  clear hq6 ehq6
  obtain ⟨hg7, hf⟩ := zu_gd_e hf
  refine zr_iast rfl B hP hS hf rfl (by decide) rfl hg7 zd_Chart_layThrows_46 (fun X8 H locs hf hP hS => ?_)
  refine lv_aload_n hx hb zd_Chart_layThrows_47 rfl (lv_at hl 3 rfl) ?_
  refine zg_Chart_second B hP rfl zq_108 zd_Chart_layThrows_48 ?_
  refine lv_iload hx hb zd_Chart_layThrows_51 (lv_at hl 0 rfl) ?_
  refine lv_aload_n hx hb zd_Chart_layThrows_53 rfl (lv_at hl 4 rfl) ?_
  refine lv_iload hx hb zd_Chart_layThrows_54 (lv_at hl 1 rfl) ?_
  refine lv_iload hx hb zd_Chart_layThrows_56 (lv_at hl 2 rfl) ?_
  obtain ⟨v9, ehq10, hf⟩ := zu_nx_e hf
  have hq10 := ehq10.symm
  refine zw_Thr_shortCell (rest := [.int v4, .ref (ad 3)]) B hP hS hr1 hq10 zq_413 (Nat.le_of_ble_eq_true rfl) (Nat.le_of_ble_eq_true rfl) hl.1 rfl (Nat.le_of_ble_eq_true rfl) zd_Chart_layThrows_58 (by decide) (fun H locs hP hS => ?_)
  clear hq10 ehq10
  obtain ⟨hg11, hf⟩ := zu_gd_e hf
  refine zr_iast rfl B hP hS hf rfl (by decide) rfl hg11 zd_Chart_layThrows_61 (fun X12 H locs hf hP hS => ?_)
  refine lv_aload_n hx hb zd_Chart_layThrows_62 rfl (lv_at hl 3 rfl) ?_
  refine zg_Chart_twelfths B hP rfl zq_110 zd_Chart_layThrows_63 ?_
  refine lv_iload hx hb zd_Chart_layThrows_66 (lv_at hl 0 rfl) ?_
  refine lv_aload_n hx hb zd_Chart_layThrows_68 rfl (lv_at hl 4 rfl) ?_
  refine lv_iload hx hb zd_Chart_layThrows_69 (lv_at hl 1 rfl) ?_
  refine lv_iload hx hb zd_Chart_layThrows_71 (lv_at hl 2 rfl) ?_
  obtain ⟨v13, ehq14, hf⟩ := zu_nx_e hf
  have hq14 := ehq14.symm
  refine zw_Thr_sure (rest := [.int v4, .ref (ad 4)]) B hP hS hr1 hq14 zq_414 (Nat.le_of_ble_eq_true rfl) (Nat.le_of_ble_eq_true rfl) hl.1 rfl (Nat.le_of_ble_eq_true rfl) zd_Chart_layThrows_73 (by decide) (fun H locs hP hS => ?_)
  clear hq14 ehq14
  obtain ⟨hg15, hf⟩ := zu_gd_e hf
  refine zr_iast rfl B hP hS hf rfl (by decide) rfl hg15 zd_Chart_layThrows_76 (fun X16 H locs hf hP hS => ?_)
  obtain ⟨v17, ev17, hf⟩ := zu_nx_e hf
  refine lv_iinc (v := v17) (lv' := [(3, .int v17), (6, .int v4), (5, .int v3), (4, .int y0), (0, .ref (ad 1)), (1, .ref (ad r1)), (2, .int x2)]) hx hb zd_Chart_layThrows_77 hl (k := 6) rfl (by rw [ev17]; rfl) (by decide) rfl (fun ls hl => ?_)
  clear ev17
  refine lv_goto (tgt := 2) hx hb zd_Chart_layThrows_80 (by decide) ?_
  exact hk2 r1 x2 v17 X16 _ _ _ hP hS (lv_sub hl [4, 5, 6, 0] rfl) hr1 hf
set_option maxHeartbeats 4000000 in
theorem zl_Chart_layThrows_B2 {p : Program} {l : Launch} {e : Env} {s : State} {m : MethodId} {args : Array Value} {below : List Frame} {meth : Method} {c : Code} {D : va_G} {cA : Nat → ClassId} {ad : Nat → Nat} {A : Nat → Prop} (B : zu_B p s m args c zb_Chart_layThrows 7 "StonePost$Chart" D cA ad A) (hret : meth.sig.returnType = none) (hlk : meth.locks = false) {Y : LX} {res : IX} {k2 : Nat → Int32 → Int32 → IX → Option IX} (hk2 : ∀ (r1 : Nat) (x2 : Int32) (x3 : Int32) (X : IX) (H : Heap) (locs : List Loc) (ls : Array Slot), va_P D zu_cl (zu_pic cA ad X Y) H → va_S A s.heap H locs → lv_has ls 7 [(0, .ref (ad 1)), (1, .ref (ad r1)), (2, .int x2), (3, .int x3)] → zu_kd r1 = 6 → k2 r1 x2 x3 X = some res → W p l e zR_Chart_layThrows s m args below meth c H locs 0 0 (MQ below (zu_Qv D cA ad A res Y) args s 0 0 A) (F0 m 2 ls [])) (r1 : Nat) (x2 : Int32) (x3 : Int32) (X : IX) (H : Heap) (locs : List Loc) (ls : Array Slot) (hP : va_P D zu_cl (zu_pic cA ad X Y) H) (hS : va_S A s.heap H locs) (hl : lv_has ls 7 [(0, .ref (ad 1)), (1, .ref (ad r1)), (2, .int x2), (3, .int x3)]) (hr1 : zu_kd r1 = 6) (hf : fn_Chart_layThrows_B2 k2 r1 x2 x3 X = some res) : W p l e zR_Chart_layThrows s m args below meth c H locs 0 0 (MQ below (zu_Qv D cA ad A res Y) args s 0 0 A) (F0 m 2 ls []) := by
  obtain ⟨hx, hb, hml, hown, hts, hST⟩ := id B
  unfold fn_Chart_layThrows_B2 at hf
  refine lv_iload_n hx hb zd_Chart_layThrows_2 rfl (lv_at hl 3 rfl) ?_
  refine lv_iconst (v := 4) hx hb zd_Chart_layThrows_3 (by decide) ?_
  refine lv_icmp_ge (tgt := 83) hx hb zd_Chart_layThrows_4 (by decide) (fun c1 => ?_) (fun c1 => ?_)
  · have hf := zu_t c1 hf
    obtain rfl := Option.some.inj hf
    exact zr_vret hx hb hret hlk hP hS zd_Chart_layThrows_83
  · have hf := zu_f c1 hf
    refine lv_iload_n hx hb zd_Chart_layThrows_7 rfl (lv_at hl 3 rfl) ?_
    refine lv_iconst (v := 2) hx hb zd_Chart_layThrows_8 (by decide) ?_
    refine lv_icmp_lt (tgt := 16) hx hb zd_Chart_layThrows_9 (by decide) (fun c2 => ?_) (fun c2 => ?_)
    · have hf := zu_t c2 hf
      refine lv_iconst (v := 0) hx hb zd_Chart_layThrows_16 (by decide) ?_
      exact zl_Chart_layThrows_L17 B hret hlk hk2 r1 x2 x3 (0 : Int32) X _ _ _ hP hS (lv_sub hl [0, 1, 2, 3] rfl) hr1 hf
    · have hf := zu_f c2 hf
      refine lv_iconst (v := 1) hx hb zd_Chart_layThrows_12 (by decide) ?_
      refine lv_goto (tgt := 17) hx hb zd_Chart_layThrows_13 (by decide) ?_
      exact zl_Chart_layThrows_L17 B hret hlk hk2 r1 x2 x3 (1 : Int32) X _ _ _ hP hS (lv_sub hl [0, 1, 2, 3] rfl) hr1 hf
theorem zl_Chart_layThrows_L2 {p : Program} {l : Launch} {e : Env} {s : State} {m : MethodId} {args : Array Value} {below : List Frame} {meth : Method} {c : Code} {D : va_G} {cA : Nat → ClassId} {ad : Nat → Nat} {A : Nat → Prop} (B : zu_B p s m args c zb_Chart_layThrows 7 "StonePost$Chart" D cA ad A) (hret : meth.sig.returnType = none) (hlk : meth.locks = false) {Y : LX} {res : IX} : ∀ (n : Nat) (r1 : Nat) (x2 : Int32) (x3 : Int32) (X : IX) (H : Heap) (locs : List Loc) (ls : Array Slot), va_P D zu_cl (zu_pic cA ad X Y) H → va_S A s.heap H locs → lv_has ls 7 [(0, .ref (ad 1)), (1, .ref (ad r1)), (2, .int x2), (3, .int x3)] → zu_kd r1 = 6 → fn_Chart_layThrows_L2 n r1 x2 x3 X = some res → W p l e zR_Chart_layThrows s m args below meth c H locs 0 0 (MQ below (zu_Qv D cA ad A res Y) args s 0 0 A) (F0 m 2 ls []) := by
  intro n
  induction n with
  | zero =>
    intro r1 x2 x3 X H locs ls hP hS hl hr1 hf
    exact (Option.some_ne_none _ hf.symm).elim
  | succ n ih =>
    intro r1 x2 x3 X H locs ls hP hS hl hr1 hf
    exact zl_Chart_layThrows_B2 B hret hlk ih r1 x2 x3 X H locs ls hP hS hl hr1 hf
set_option maxHeartbeats 4000000 in
theorem zl_Chart_layThrows {p : Program} {l : Launch} {e : Env} {s : State} {m : MethodId} {args : Array Value} {below : List Frame} {meth : Method} {c : Code} {D : va_G} {cA : Nat → ClassId} {ad : Nat → Nat} {A : Nat → Prop} (B : zu_B p s m args c zb_Chart_layThrows 7 "StonePost$Chart" D cA ad A) (hret : meth.sig.returnType = none) (hlk : meth.locks = false) {Y : LX} {res : IX} {r1 : Nat} {a2 : Int32} {X : IX} (H : Heap) (locs : List Loc) (ls : Array Slot) (hP : va_P D zu_cl (zu_pic cA ad X Y) H) (hS : va_S A s.heap H locs) (hl : lv_has ls 7 [(0, .ref (ad 1)), (1, .ref (ad r1)), (2, .int a2)]) (hr1 : zu_kd r1 = 6) (hf : fn_Chart_layThrows r1 a2 X = some res) : W p l e zR_Chart_layThrows s m args below meth c H locs 0 0 (MQ below (zu_Qv D cA ad A res Y) args s 0 0 A) (F0 m 0 ls []) := by
  obtain ⟨hx, hb, hml, hown, hts, hST⟩ := id B
  unfold fn_Chart_layThrows at hf
  refine lv_iconst (v := 0) hx hb zd_Chart_layThrows_0 (by decide) ?_
  refine lv_istore_n (lv' := [(3, .int (0 : Int32)), (0, .ref (ad 1)), (1, .ref (ad r1)), (2, .int a2)]) hx hb zd_Chart_layThrows_1 rfl hl (by decide) rfl (fun ls hl => ?_)
  exact zl_Chart_layThrows_L2 B hret hlk 400 r1 a2 (0 : Int32) X _ _ _ hP hS (lv_sub hl [1, 2, 3, 0] rfl) hr1 hf
theorem zC_Chart_layThrows (l : Launch) {D : va_G} {cA : Nat → ClassId} {ad : Nat → Nat} {A : Nat → Prop} {r1 : Nat} {a2 : Int32} {X : IX} {Y : LX} {res : IX} (hr1 : zu_kd r1 = 6) (hf : fn_Chart_layThrows r1 a2 X = some res) : Met l zm_Chart_layThrows (zu_ws zm_Chart_layThrows zb_Chart_layThrows 7 none) zR_Chart_layThrows (va_Pc [.ref (ad 1), .ref (ad r1), .int a2] (zu_Pre D cA ad A X Y)) (zu_Qv D cA ad A res Y) 0 0 A := by
  refine Met.ofW (cc := zb_Chart_layThrows) (maxL := 7) (ret := none) (by decide +kernel) rfl ?_
  intro p e s m args below meth c s₁ B0 hml hv
  obtain ⟨rfl, hP, hST⟩ := hv
  have B : zu_B p s m _ c zb_Chart_layThrows 7 "StonePost$Chart" D cA ad A := ⟨B0.exec, B0.bytes, hml, findClass_of_methodNamed B0.named, (fun w hw => atoms_spec (ws := zu_ws zm_Chart_layThrows zb_Chart_layThrows 7 none) B0.pre w (List.mem_cons_of_mem _ hw)), hST⟩
  have hl := lv_entry ([.ref (ad 1), .ref (ad r1), .int a2]) (n := 7) (Nat.le_of_ble_eq_true rfl)
  rw [lg_entry_eq]
  generalize (lg_sl ([.ref (ad 1), .ref (ad r1), .int a2]) ++ List.replicate (7 - (lg_sl ([.ref (ad 1), .ref (ad r1), .int a2])).length) Slot.unset).toArray = ls at hl ⊢
  exact zl_Chart_layThrows B B0.returns B0.notSynchronized s.heap [] ls hP va_S.rf hl hr1 hf
theorem zw_Chart_layThrows {p : Program} {l : Launch} {e : Env} {R : Room} {s : State} {m : MethodId} {args : Array Value} {below : List Frame} {meth : Method} {c : Code} {H : Heap} {locs : List Loc} {cells slots : Nat} {Q : State → Prop} {cc : ByteArray} {pc nL : Nat} {ls : Array Slot} {rest st0 : List Value} {D : va_G} {cA : Nat → ClassId} {ad : Nat → Nat} {A : Nat → Prop} {X : IX} {Y : LX} {own : String} {index : Nat} {r1 : Nat} {a2 : Int32} {X1 : IX} (B : zu_B p s m args c cc nL own D cA ad A) (hP : va_P D zu_cl (zu_pic cA ad X Y) H) (hS : va_S A s.heap H locs) (hr1 : zu_kd r1 = 6) (hq : fn_Chart_layThrows r1 a2 X = some X1) (m1 : Cond.methodLink own index zm_Chart_layThrows ∈ zu_TB) (hR1 : 3 + 1 ≤ R.frames) (hR2 : 8 + (7 + 11) + 65 ≤ R.locals) (hsz : ls.size = nL) (hst : st0 = .int a2 :: .ref (ad r1) :: .ref (ad 1) :: rest) (hw : (rest.map fun v => v.category).sum ≤ 8) (hdg : decode cc pc = .ok (.invokevirtual index, 3)) (h00 : cells ≤ R.cells ∧ slots ≤ R.slots) (kk : ∀ (H1 : Heap) (locs1 : List Loc), va_P D zu_cl (zu_pic cA ad X1 Y) H1 → va_S A s.heap H1 locs1 → W p l e R s m args below meth c H1 locs1 cells slots Q (F0 m (pc + 3) ls (rest))) : W p l e R s m args below meth c H locs cells slots Q (F0 m pc ls st0) := by
  subst hst
  exact zr_cVv (As := [.ref (ad r1), .int a2]) (rest := rest) (n := 2) (C := "StonePost$Chart") (T := zt_Chart) (N := 9) B hP hS (zC_Chart_layThrows l hr1 hq) (K := 2) rfl (by decide) (by decide) rfl rfl m1 zq_410 zqP_9 zq_5 zq_411 (by decide +kernel) ⟨hR1, hR2⟩ rfl rfl rfl hsz rfl hw hdg h00 kk
