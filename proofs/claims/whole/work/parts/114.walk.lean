abbrev zR_Mod_copies : Room := { frames := 7, cells := 0, slots := 0, locals := 165 }
theorem zd_Mod_copies_0 : decode zb_Mod_copies 0 = .ok (.iload_n 1, 1) := by decide +kernel
theorem zd_Mod_copies_1 : decode zb_Mod_copies 1 = .ok (.iload_n 2, 1) := by decide +kernel
theorem zd_Mod_copies_2 : decode zb_Mod_copies 2 = .ok (.bipush 7, 2) := by decide +kernel
theorem zd_Mod_copies_4 : decode zb_Mod_copies 4 = .ok (.invokestatic 172, 3) := by decide +kernel
theorem zd_Mod_copies_7 : decode zb_Mod_copies 7 = .ok (.ifCond .ne 11, 3) := by decide +kernel
theorem zd_Mod_copies_10 : decode zb_Mod_copies 10 = .ok (.aload_n 0, 1) := by decide +kernel
theorem zd_Mod_copies_11 : decode zb_Mod_copies 11 = .ok (.ldc 50, 2) := by decide +kernel
theorem zd_Mod_copies_13 : decode zb_Mod_copies 13 = .ok (.invokevirtual 64, 3) := by decide +kernel
theorem zd_Mod_copies_16 : decode zb_Mod_copies 16 = .ok (.i2l, 1) := by decide +kernel
theorem zd_Mod_copies_17 : decode zb_Mod_copies 17 = .ok (.lreturn, 1) := by decide +kernel
theorem zd_Mod_copies_18 : decode zb_Mod_copies 18 = .ok (.iload_n 2, 1) := by decide +kernel
theorem zd_Mod_copies_19 : decode zb_Mod_copies 19 = .ok (.invokestatic 221, 3) := by decide +kernel
theorem zd_Mod_copies_22 : decode zb_Mod_copies 22 = .ok (.aload_n 0, 1) := by decide +kernel
theorem zd_Mod_copies_23 : decode zb_Mod_copies 23 = .ok (.iload_n 1, 1) := by decide +kernel
theorem zd_Mod_copies_24 : decode zb_Mod_copies 24 = .ok (.iload_n 2, 1) := by decide +kernel
theorem zd_Mod_copies_25 : decode zb_Mod_copies 25 = .ok (.invokevirtual 209, 3) := by decide +kernel
theorem zd_Mod_copies_28 : decode zb_Mod_copies 28 = .ok (.lsub, 1) := by decide +kernel
theorem zd_Mod_copies_29 : decode zb_Mod_copies 29 = .ok (.lstore_n 3, 1) := by decide +kernel
theorem zd_Mod_copies_30 : decode zb_Mod_copies 30 = .ok (.iload_n 2, 1) := by decide +kernel
theorem zd_Mod_copies_31 : decode zb_Mod_copies 31 = .ok (.invokestatic 221, 3) := by decide +kernel
theorem zd_Mod_copies_34 : decode zb_Mod_copies 34 = .ok (.iload_n 2, 1) := by decide +kernel
theorem zd_Mod_copies_35 : decode zb_Mod_copies 35 = .ok (.invokestatic 221, 3) := by decide +kernel
theorem zd_Mod_copies_38 : decode zb_Mod_copies 38 = .ok (.lmul, 1) := by decide +kernel
theorem zd_Mod_copies_39 : decode zb_Mod_copies 39 = .ok (.lload_n 3, 1) := by decide +kernel
theorem zd_Mod_copies_40 : decode zb_Mod_copies 40 = .ok (.lload_n 3, 1) := by decide +kernel
theorem zd_Mod_copies_41 : decode zb_Mod_copies 41 = .ok (.lmul, 1) := by decide +kernel
theorem zd_Mod_copies_42 : decode zb_Mod_copies 42 = .ok (.lsub, 1) := by decide +kernel
theorem zd_Mod_copies_43 : decode zb_Mod_copies 43 = .ok (.lreturn, 1) := by decide +kernel
set_option maxHeartbeats 4000000 in
theorem zl_Mod_copies {p : Program} {l : Launch} {e : Env} {s : State} {m : MethodId} {args : Array Value} {below : List Frame} {meth : Method} {c : Code} {D : va_G} {cA : Nat → ClassId} {ad : Nat → Nat} {A : Nat → Prop} (B : zu_B p s m args c zb_Mod_copies 5 "StonePostModel" D cA ad A) (hret : meth.sig.returnType = (some .long)) (hlk : meth.locks = false) {res : Int64 × IX × LX} {a1 : Int32} {a2 : Int32} {X : IX} {Y : LX} (H : Heap) (locs : List Loc) (ls : Array Slot) (hP : va_P D zu_cl (zu_pic cA ad X Y) H) (hS : va_S A s.heap H locs) (hl : lv_has ls 5 [(0, .ref (ad 95)), (1, .int a1), (2, .int a2)]) (hf : fn_Mod_copies a1 a2 X Y = some res) : W p l e zR_Mod_copies s m args below meth c H locs 0 0 (MQ below (zu_Ql D cA ad A res.1 res.2.1 res.2.2) args s 0 0 A) (F0 m 0 ls []) := by
  obtain ⟨hx, hb, hml, hown, hts, hST⟩ := id B
  unfold fn_Mod_copies at hf
  refine lv_iload_n hx hb zd_Mod_copies_0 rfl (lv_at hl 1 rfl) ?_
  refine lv_iload_n hx hb zd_Mod_copies_1 rfl (lv_at hl 2 rfl) ?_
  refine lv_bipush (v := 7) hx hb zd_Mod_copies_2 (by decide) ?_
  obtain ⟨v1, hq2, hf⟩ := zu_b1_e hf
  refine zw_Mod_isOdds (rest := []) B hP hS hq2 zq_1094 (Nat.le_of_ble_eq_true rfl) (Nat.le_of_ble_eq_true rfl) hl.1 rfl (Nat.le_of_ble_eq_true rfl) zd_Mod_copies_4 (by decide) (fun H locs hP hS => ?_)
  clear hq2
  refine lv_if_ne (tgt := 18) hx hb zd_Mod_copies_7 (by decide) (fun c3 => ?_) (fun c3 => ?_)
  · have hf := zu_f c3 hf
    refine lv_iload_n hx hb zd_Mod_copies_18 rfl (lv_at hl 2 rfl) ?_
    obtain ⟨v4, hq5, hf⟩ := zu_b1_e hf
    refine zw_Mod_all (rest := []) B hP hS hq5 zq_1202 (Nat.le_of_ble_eq_true rfl) (Nat.le_of_ble_eq_true rfl) hl.1 rfl (Nat.le_of_ble_eq_true rfl) zd_Mod_copies_19 (by decide) (fun H locs hP hS => ?_)
    clear hq5
    refine lv_aload_n hx hb zd_Mod_copies_22 rfl (lv_at hl 0 rfl) ?_
    refine lv_iload_n hx hb zd_Mod_copies_23 rfl (lv_at hl 1 rfl) ?_
    refine lv_iload_n hx hb zd_Mod_copies_24 rfl (lv_at hl 2 rfl) ?_
    obtain ⟨v6, X7, Y8, hq9, hf⟩ := zu_b3_e hf
    refine zw_Mod_homeParts (rest := [.long v4]) B hP hS hq9 zq_1170 (Nat.le_of_ble_eq_true rfl) (Nat.le_of_ble_eq_true rfl) hl.1 rfl (Nat.le_of_ble_eq_true rfl) zd_Mod_copies_25 (by decide) (fun H locs hP hS => ?_)
    clear hq9
    refine lv_lsub hx hb zd_Mod_copies_28 ?_
    refine zr_nxl hf (fun v10 hf => ?_)
    refine lv_lstore_n (lv' := [(3, .long v10), (0, .ref (ad 95)), (1, .int a1), (2, .int a2)]) hx hb zd_Mod_copies_29 rfl hl (by decide) rfl (fun ls hl => ?_)
    refine lv_iload_n hx hb zd_Mod_copies_30 rfl (lv_at hl 3 rfl) ?_
    obtain ⟨v11, hq12, hf⟩ := zu_b1_e hf
    refine zw_Mod_all (rest := []) B hP hS hq12 zq_1202 (Nat.le_of_ble_eq_true rfl) (Nat.le_of_ble_eq_true rfl) hl.1 rfl (Nat.le_of_ble_eq_true rfl) zd_Mod_copies_31 (by decide) (fun H locs hP hS => ?_)
    clear hq12
    refine lv_iload_n hx hb zd_Mod_copies_34 rfl (lv_at hl 3 rfl) ?_
    obtain ⟨v13, hq14, hf⟩ := zu_b1_e hf
    refine zw_Mod_all (rest := [.long v11]) B hP hS hq14 zq_1202 (Nat.le_of_ble_eq_true rfl) (Nat.le_of_ble_eq_true rfl) hl.1 rfl (Nat.le_of_ble_eq_true rfl) zd_Mod_copies_35 (by decide) (fun H locs hP hS => ?_)
    clear hq14
    refine lv_lmul hx hb zd_Mod_copies_38 ?_
    refine lv_lload_n hx hb zd_Mod_copies_39 rfl (lv_at hl 0 rfl) ?_
    refine lv_lload_n hx hb zd_Mod_copies_40 rfl (lv_at hl 0 rfl) ?_
    refine lv_lmul hx hb zd_Mod_copies_41 ?_
    refine lv_lsub hx hb zd_Mod_copies_42 ?_
    obtain rfl := Option.some.inj hf
    exact zr_lret hx hb hret hlk hP hS zd_Mod_copies_43
  · have hf := zu_t c3 hf
    refine lv_aload_n hx hb zd_Mod_copies_10 rfl (lv_at hl 0 rfl) ?_
    refine lv_ldc (v := -1000001) hx hb hown (hts _ zq_943) zd_Mod_copies_11 ?_
    obtain ⟨v15, X16, hq17, hf⟩ := zu_b2_e hf
    refine zw_Mod_finds (rest := []) B hP hS hq17 zq_944 (Nat.le_of_ble_eq_true rfl) (Nat.le_of_ble_eq_true rfl) hl.1 rfl (Nat.le_of_ble_eq_true rfl) zd_Mod_copies_13 (by decide) (fun H locs hP hS => ?_)
    clear hq17
    refine lv_i2l hx hb zd_Mod_copies_16 rfl ?_
    obtain rfl := Option.some.inj hf
    exact zr_lret hx hb hret hlk hP hS zd_Mod_copies_17
theorem zC_Mod_copies (l : Launch) {D : va_G} {cA : Nat → ClassId} {ad : Nat → Nat} {A : Nat → Prop} {a1 : Int32} {a2 : Int32} {X : IX} {Y : LX} {res : Int64 × IX × LX} (hf : fn_Mod_copies a1 a2 X Y = some res) : Met l zm_Mod_copies (zu_ws zm_Mod_copies zb_Mod_copies 5 (some .long)) zR_Mod_copies (va_Pc [.ref (ad 95), .int a1, .int a2] (zu_Pre D cA ad A X Y)) (zu_Ql D cA ad A res.1 res.2.1 res.2.2) 0 0 A := by
  refine Met.ofW (cc := zb_Mod_copies) (maxL := 5) (ret := (some .long)) (by decide +kernel) rfl ?_
  intro p e s m args below meth c s₁ B0 hml hv
  obtain ⟨rfl, hP, hST⟩ := hv
  have B : zu_B p s m _ c zb_Mod_copies 5 "StonePostModel" D cA ad A := ⟨B0.exec, B0.bytes, hml, findClass_of_methodNamed B0.named, (fun w hw => atoms_spec (ws := zu_ws zm_Mod_copies zb_Mod_copies 5 (some .long)) B0.pre w (List.mem_cons_of_mem _ hw)), hST⟩
  have hl := lv_entry ([.ref (ad 95), .int a1, .int a2]) (n := 5) (Nat.le_of_ble_eq_true rfl)
  rw [lg_entry_eq]
  generalize (lg_sl ([.ref (ad 95), .int a1, .int a2]) ++ List.replicate (5 - (lg_sl ([.ref (ad 95), .int a1, .int a2])).length) Slot.unset).toArray = ls at hl ⊢
  exact zl_Mod_copies B B0.returns B0.notSynchronized s.heap [] ls hP va_S.rf hl  hf
theorem zw_Mod_copies {p : Program} {l : Launch} {e : Env} {R : Room} {s : State} {m : MethodId} {args : Array Value} {below : List Frame} {meth : Method} {c : Code} {H : Heap} {locs : List Loc} {cells slots : Nat} {Q : State → Prop} {cc : ByteArray} {pc nL : Nat} {ls : Array Slot} {rest st0 : List Value} {D : va_G} {cA : Nat → ClassId} {ad : Nat → Nat} {A : Nat → Prop} {X : IX} {Y : LX} {own : String} {index : Nat} {a1 : Int32} {a2 : Int32} {v1 : Int64} {X1 : IX} {Y1 : LX} (B : zu_B p s m args c cc nL own D cA ad A) (hP : va_P D zu_cl (zu_pic cA ad X Y) H) (hS : va_S A s.heap H locs) (hq : fn_Mod_copies a1 a2 X Y = some (v1, X1, Y1)) (m1 : Cond.methodLink own index zm_Mod_copies ∈ zu_TB) (hR1 : 7 + 1 ≤ R.frames) (hR2 : 8 + (5 + 11) + 165 ≤ R.locals) (hsz : ls.size = nL) (hst : st0 = .int a2 :: .int a1 :: .ref (ad 95) :: rest) (hw : (rest.map fun v => v.category).sum ≤ 8) (hdg : decode cc pc = .ok (.invokevirtual index, 3)) (h00 : cells ≤ R.cells ∧ slots ≤ R.slots) (kk : ∀ (H1 : Heap) (locs1 : List Loc), va_P D zu_cl (zu_pic cA ad X1 Y1) H1 → va_S A s.heap H1 locs1 → W p l e R s m args below meth c H1 locs1 cells slots Q (F0 m (pc + 3) ls (.long v1 :: rest))) : W p l e R s m args below meth c H locs cells slots Q (F0 m pc ls st0) := by
  subst hst
  exact zr_cVl (As := [.int a1, .int a2]) (rest := rest) (n := 2) (C := "StonePostModel") (T := zt_Mod) (N := 23) B hP hS (zC_Mod_copies l  hq) (K := 7) rfl (by decide) (by decide) rfl rfl m1 zq_1199 zq_1200 zq_8 zq_1201 (by decide +kernel) ⟨hR1, hR2⟩ rfl rfl rfl hsz rfl hw hdg h00 kk
abbrev zR_Mod_whose : Room := { frames := 4, cells := 0, slots := 0, locals := 94 }
theorem zd_Mod_whose_0 : decode zb_Mod_whose 0 = .ok (.iload_n 1, 1) := by decide +kernel
theorem zd_Mod_whose_1 : decode zb_Mod_whose 1 = .ok (.invokestatic 58, 3) := by decide +kernel
theorem zd_Mod_whose_4 : decode zb_Mod_whose 4 = .ok (.ifCond .eq 15, 3) := by decide +kernel
theorem zd_Mod_whose_7 : decode zb_Mod_whose 7 = .ok (.iload_n 2, 1) := by decide +kernel
theorem zd_Mod_whose_8 : decode zb_Mod_whose 8 = .ok (.i2l, 1) := by decide +kernel
theorem zd_Mod_whose_9 : decode zb_Mod_whose 9 = .ok (.lconst 0, 1) := by decide +kernel
theorem zd_Mod_whose_10 : decode zb_Mod_whose 10 = .ok (.ldc2_w 51, 3) := by decide +kernel
theorem zd_Mod_whose_13 : decode zb_Mod_whose 13 = .ok (.invokestatic 53, 3) := by decide +kernel
theorem zd_Mod_whose_16 : decode zb_Mod_whose 16 = .ok (.ifCond .ne 10, 3) := by decide +kernel
theorem zd_Mod_whose_19 : decode zb_Mod_whose 19 = .ok (.aload_n 0, 1) := by decide +kernel
theorem zd_Mod_whose_20 : decode zb_Mod_whose 20 = .ok (.ldc 50, 2) := by decide +kernel
theorem zd_Mod_whose_22 : decode zb_Mod_whose 22 = .ok (.invokevirtual 64, 3) := by decide +kernel
theorem zd_Mod_whose_25 : decode zb_Mod_whose 25 = .ok (.ireturn, 1) := by decide +kernel
theorem zd_Mod_whose_26 : decode zb_Mod_whose 26 = .ok (.iconst 0, 1) := by decide +kernel
theorem zd_Mod_whose_27 : decode zb_Mod_whose 27 = .ok (.istore_n 3, 1) := by decide +kernel
theorem zd_Mod_whose_28 : decode zb_Mod_whose 28 = .ok (.iconst 0, 1) := by decide +kernel
theorem zd_Mod_whose_29 : decode zb_Mod_whose 29 = .ok (.istore 4, 2) := by decide +kernel
theorem zd_Mod_whose_31 : decode zb_Mod_whose 31 = .ok (.iload 4, 2) := by decide +kernel
theorem zd_Mod_whose_33 : decode zb_Mod_whose 33 = .ok (.aload_n 0, 1) := by decide +kernel
theorem zd_Mod_whose_34 : decode zb_Mod_whose 34 = .ok (.getfield 7, 3) := by decide +kernel
theorem zd_Mod_whose_37 : decode zb_Mod_whose 37 = .ok (.iconst 1, 1) := by decide +kernel
theorem zd_Mod_whose_38 : decode zb_Mod_whose 38 = .ok (.iaload, 1) := by decide +kernel
theorem zd_Mod_whose_39 : decode zb_Mod_whose 39 = .ok (.if_icmp .ge 113, 3) := by decide +kernel
theorem zd_Mod_whose_42 : decode zb_Mod_whose 42 = .ok (.iconst 0, 1) := by decide +kernel
theorem zd_Mod_whose_43 : decode zb_Mod_whose 43 = .ok (.istore 5, 2) := by decide +kernel
theorem zd_Mod_whose_45 : decode zb_Mod_whose 45 = .ok (.iload 5, 2) := by decide +kernel
theorem zd_Mod_whose_47 : decode zb_Mod_whose 47 = .ok (.iconst 2, 1) := by decide +kernel
theorem zd_Mod_whose_48 : decode zb_Mod_whose 48 = .ok (.if_icmp .ge 98, 3) := by decide +kernel
theorem zd_Mod_whose_51 : decode zb_Mod_whose 51 = .ok (.aload_n 0, 1) := by decide +kernel
theorem zd_Mod_whose_52 : decode zb_Mod_whose 52 = .ok (.iload 4, 2) := by decide +kernel
theorem zd_Mod_whose_54 : decode zb_Mod_whose 54 = .ok (.iload 5, 2) := by decide +kernel
theorem zd_Mod_whose_56 : decode zb_Mod_whose 56 = .ok (.iload_n 2, 1) := by decide +kernel
theorem zd_Mod_whose_57 : decode zb_Mod_whose 57 = .ok (.invokevirtual 112, 3) := by decide +kernel
theorem zd_Mod_whose_60 : decode zb_Mod_whose 60 = .ok (.ifCond .le 21, 3) := by decide +kernel
theorem zd_Mod_whose_63 : decode zb_Mod_whose 63 = .ok (.aload_n 0, 1) := by decide +kernel
theorem zd_Mod_whose_64 : decode zb_Mod_whose 64 = .ok (.iload 4, 2) := by decide +kernel
theorem zd_Mod_whose_66 : decode zb_Mod_whose 66 = .ok (.iload 5, 2) := by decide +kernel
theorem zd_Mod_whose_68 : decode zb_Mod_whose 68 = .ok (.iload_n 2, 1) := by decide +kernel
theorem zd_Mod_whose_69 : decode zb_Mod_whose 69 = .ok (.iconst 0, 1) := by decide +kernel
theorem zd_Mod_whose_70 : decode zb_Mod_whose 70 = .ok (.invokevirtual 115, 3) := by decide +kernel
theorem zd_Mod_whose_73 : decode zb_Mod_whose 73 = .ok (.iload_n 1, 1) := by decide +kernel
theorem zd_Mod_whose_74 : decode zb_Mod_whose 74 = .ok (.if_icmp .ne 7, 3) := by decide +kernel
theorem zd_Mod_whose_77 : decode zb_Mod_whose 77 = .ok (.iconst 1, 1) := by decide +kernel
theorem zd_Mod_whose_78 : decode zb_Mod_whose 78 = .ok (.goto 4, 3) := by decide +kernel
theorem zd_Mod_whose_81 : decode zb_Mod_whose 81 = .ok (.iconst 0, 1) := by decide +kernel
theorem zd_Mod_whose_82 : decode zb_Mod_whose 82 = .ok (.istore 6, 2) := by decide +kernel
theorem zd_Mod_whose_84 : decode zb_Mod_whose 84 = .ok (.iload 6, 2) := by decide +kernel
theorem zd_Mod_whose_86 : decode zb_Mod_whose 86 = .ok (.ifCond .ne 31, 3) := by decide +kernel
theorem zd_Mod_whose_89 : decode zb_Mod_whose 89 = .ok (.aload_n 0, 1) := by decide +kernel
theorem zd_Mod_whose_90 : decode zb_Mod_whose 90 = .ok (.iload 4, 2) := by decide +kernel
theorem zd_Mod_whose_92 : decode zb_Mod_whose 92 = .ok (.iload 5, 2) := by decide +kernel
theorem zd_Mod_whose_94 : decode zb_Mod_whose 94 = .ok (.iload_n 2, 1) := by decide +kernel
theorem zd_Mod_whose_95 : decode zb_Mod_whose 95 = .ok (.invokevirtual 112, 3) := by decide +kernel
theorem zd_Mod_whose_98 : decode zb_Mod_whose 98 = .ok (.bipush 12, 2) := by decide +kernel
theorem zd_Mod_whose_100 : decode zb_Mod_whose 100 = .ok (.if_icmp .ge 21, 3) := by decide +kernel
theorem zd_Mod_whose_103 : decode zb_Mod_whose 103 = .ok (.aload_n 0, 1) := by decide +kernel
theorem zd_Mod_whose_104 : decode zb_Mod_whose 104 = .ok (.iload 4, 2) := by decide +kernel
theorem zd_Mod_whose_106 : decode zb_Mod_whose 106 = .ok (.iload 5, 2) := by decide +kernel
theorem zd_Mod_whose_108 : decode zb_Mod_whose 108 = .ok (.iload_n 2, 1) := by decide +kernel
theorem zd_Mod_whose_109 : decode zb_Mod_whose 109 = .ok (.iconst 1, 1) := by decide +kernel
theorem zd_Mod_whose_110 : decode zb_Mod_whose 110 = .ok (.invokevirtual 115, 3) := by decide +kernel
theorem zd_Mod_whose_113 : decode zb_Mod_whose 113 = .ok (.iload_n 1, 1) := by decide +kernel
theorem zd_Mod_whose_114 : decode zb_Mod_whose 114 = .ok (.if_icmp .ne 7, 3) := by decide +kernel
theorem zd_Mod_whose_117 : decode zb_Mod_whose 117 = .ok (.iconst 1, 1) := by decide +kernel
theorem zd_Mod_whose_118 : decode zb_Mod_whose 118 = .ok (.goto 4, 3) := by decide +kernel
theorem zd_Mod_whose_121 : decode zb_Mod_whose 121 = .ok (.iconst 0, 1) := by decide +kernel
theorem zd_Mod_whose_122 : decode zb_Mod_whose 122 = .ok (.istore 6, 2) := by decide +kernel
theorem zd_Mod_whose_124 : decode zb_Mod_whose 124 = .ok (.iload_n 3, 1) := by decide +kernel
theorem zd_Mod_whose_125 : decode zb_Mod_whose 125 = .ok (.iload 6, 2) := by decide +kernel
theorem zd_Mod_whose_127 : decode zb_Mod_whose 127 = .ok (.ifCond .eq 10, 3) := by decide +kernel
theorem zd_Mod_whose_130 : decode zb_Mod_whose 130 = .ok (.iconst 1, 1) := by decide +kernel
theorem zd_Mod_whose_131 : decode zb_Mod_whose 131 = .ok (.iload 4, 2) := by decide +kernel
theorem zd_Mod_whose_133 : decode zb_Mod_whose 133 = .ok (.ishl, 1) := by decide +kernel
theorem zd_Mod_whose_134 : decode zb_Mod_whose 134 = .ok (.goto 4, 3) := by decide +kernel
theorem zd_Mod_whose_137 : decode zb_Mod_whose 137 = .ok (.iconst 0, 1) := by decide +kernel
theorem zd_Mod_whose_138 : decode zb_Mod_whose 138 = .ok (.ior, 1) := by decide +kernel
theorem zd_Mod_whose_139 : decode zb_Mod_whose 139 = .ok (.istore_n 3, 1) := by decide +kernel
theorem zd_Mod_whose_140 : decode zb_Mod_whose 140 = .ok (.iinc 5 1, 3) := by decide +kernel
theorem zd_Mod_whose_143 : decode zb_Mod_whose 143 = .ok (.goto (-98), 3) := by decide +kernel
theorem zd_Mod_whose_146 : decode zb_Mod_whose 146 = .ok (.iinc 4 1, 3) := by decide +kernel
theorem zd_Mod_whose_149 : decode zb_Mod_whose 149 = .ok (.goto (-118), 3) := by decide +kernel
theorem zd_Mod_whose_152 : decode zb_Mod_whose 152 = .ok (.iload_n 3, 1) := by decide +kernel
theorem zd_Mod_whose_153 : decode zb_Mod_whose 153 = .ok (.ireturn, 1) := by decide +kernel
set_option maxHeartbeats 4000000 in
theorem zl_Mod_whose_L138 {p : Program} {l : Launch} {e : Env} {s : State} {m : MethodId} {args : Array Value} {below : List Frame} {meth : Method} {c : Code} {D : va_G} {cA : Nat → ClassId} {ad : Nat → Nat} {A : Nat → Prop} (B : zu_B p s m args c zb_Mod_whose 7 "StonePostModel" D cA ad A) (hret : meth.sig.returnType = (some .int)) (hlk : meth.locks = false) {Y : LX} {res : Int32 × IX} {k31 : Int32 → Int32 → Int32 → Int32 → IX → Option (Int32 × IX)} (hk31 : ∀ (x1 : Int32) (x2 : Int32) (x3 : Int32) (x4 : Int32) (X : IX) (H : Heap) (locs : List Loc) (ls : Array Slot), va_P D zu_cl (zu_pic cA ad X Y) H → va_S A s.heap H locs → lv_has ls 7 [(0, .ref (ad 95)), (1, .int x1), (2, .int x2), (3, .int x3), (4, .int x4)] → k31 x1 x2 x3 x4 X = some res → W p l e zR_Mod_whose s m args below meth c H locs 0 0 (MQ below (zu_Qi D cA ad A res.1 res.2 Y) args s 0 0 A) (F0 m 31 ls [])) {k45 : Int32 → Int32 → Int32 → Int32 → Int32 → IX → Option (Int32 × IX)} (hk45 : ∀ (x1 : Int32) (x2 : Int32) (x3 : Int32) (x4 : Int32) (x5 : Int32) (X : IX) (H : Heap) (locs : List Loc) (ls : Array Slot), va_P D zu_cl (zu_pic cA ad X Y) H → va_S A s.heap H locs → lv_has ls 7 [(0, .ref (ad 95)), (1, .int x1), (2, .int x2), (3, .int x3), (4, .int x4), (5, .int x5)] → k45 x1 x2 x3 x4 x5 X = some res → W p l e zR_Mod_whose s m args below meth c H locs 0 0 (MQ below (zu_Qi D cA ad A res.1 res.2 Y) args s 0 0 A) (F0 m 45 ls [])) (x1 : Int32) (x2 : Int32) (x4 : Int32) (x5 : Int32) (y0 : Int32) (y1 : Int32) (X : IX) (H : Heap) (locs : List Loc) (ls : Array Slot) (hP : va_P D zu_cl (zu_pic cA ad X Y) H) (hS : va_S A s.heap H locs) (hl : lv_has ls 7 [(0, .ref (ad 95)), (1, .int x1), (2, .int x2), (4, .int x4), (5, .int x5)]) (hf : fn_Mod_whose_L138 k31 k45 x1 x2 x4 x5 y0 y1 X = some res) : W p l e zR_Mod_whose s m args below meth c H locs 0 0 (MQ below (zu_Qi D cA ad A res.1 res.2 Y) args s 0 0 A) (F0 m 138 ls [.int y0, .int y1]) := by
  obtain ⟨hx, hb, hml, hown, hts, hST⟩ := id B
  unfold fn_Mod_whose_L138 at hf
  refine lv_ior hx hb zd_Mod_whose_138 ?_
  refine zr_nxi hf (fun v27 hf => ?_)
  refine lv_istore_n (lv' := [(3, .int v27), (0, .ref (ad 95)), (1, .int x1), (2, .int x2), (4, .int x4), (5, .int x5)]) hx hb zd_Mod_whose_139 rfl hl (by decide) rfl (fun ls hl => ?_)
  obtain ⟨v28, ev28, hf⟩ := zu_nx_e hf
  refine lv_iinc (v := v28) (lv' := [(5, .int v28), (3, .int v27), (0, .ref (ad 95)), (1, .int x1), (2, .int x2), (4, .int x4)]) hx hb zd_Mod_whose_140 hl (k := 5) rfl (by rw [ev28]; rfl) (by decide) rfl (fun ls hl => ?_)
  clear ev28
  refine lv_goto (tgt := 45) hx hb zd_Mod_whose_143 (by decide) ?_
  exact hk45 x1 x2 v27 x4 v28 X _ _ _ hP hS (lv_sub hl [2, 3, 4, 1, 5, 0] rfl) hf
set_option maxHeartbeats 4000000 in
theorem zl_Mod_whose_L122 {p : Program} {l : Launch} {e : Env} {s : State} {m : MethodId} {args : Array Value} {below : List Frame} {meth : Method} {c : Code} {D : va_G} {cA : Nat → ClassId} {ad : Nat → Nat} {A : Nat → Prop} (B : zu_B p s m args c zb_Mod_whose 7 "StonePostModel" D cA ad A) (hret : meth.sig.returnType = (some .int)) (hlk : meth.locks = false) {Y : LX} {res : Int32 × IX} {k31 : Int32 → Int32 → Int32 → Int32 → IX → Option (Int32 × IX)} (hk31 : ∀ (x1 : Int32) (x2 : Int32) (x3 : Int32) (x4 : Int32) (X : IX) (H : Heap) (locs : List Loc) (ls : Array Slot), va_P D zu_cl (zu_pic cA ad X Y) H → va_S A s.heap H locs → lv_has ls 7 [(0, .ref (ad 95)), (1, .int x1), (2, .int x2), (3, .int x3), (4, .int x4)] → k31 x1 x2 x3 x4 X = some res → W p l e zR_Mod_whose s m args below meth c H locs 0 0 (MQ below (zu_Qi D cA ad A res.1 res.2 Y) args s 0 0 A) (F0 m 31 ls [])) {k45 : Int32 → Int32 → Int32 → Int32 → Int32 → IX → Option (Int32 × IX)} (hk45 : ∀ (x1 : Int32) (x2 : Int32) (x3 : Int32) (x4 : Int32) (x5 : Int32) (X : IX) (H : Heap) (locs : List Loc) (ls : Array Slot), va_P D zu_cl (zu_pic cA ad X Y) H → va_S A s.heap H locs → lv_has ls 7 [(0, .ref (ad 95)), (1, .int x1), (2, .int x2), (3, .int x3), (4, .int x4), (5, .int x5)] → k45 x1 x2 x3 x4 x5 X = some res → W p l e zR_Mod_whose s m args below meth c H locs 0 0 (MQ below (zu_Qi D cA ad A res.1 res.2 Y) args s 0 0 A) (F0 m 45 ls [])) (x1 : Int32) (x2 : Int32) (x3 : Int32) (x4 : Int32) (x5 : Int32) (y0 : Int32) (X : IX) (H : Heap) (locs : List Loc) (ls : Array Slot) (hP : va_P D zu_cl (zu_pic cA ad X Y) H) (hS : va_S A s.heap H locs) (hl : lv_has ls 7 [(0, .ref (ad 95)), (1, .int x1), (2, .int x2), (3, .int x3), (4, .int x4), (5, .int x5)]) (hf : fn_Mod_whose_L122 k31 k45 x1 x2 x3 x4 x5 y0 X = some res) : W p l e zR_Mod_whose s m args below meth c H locs 0 0 (MQ below (zu_Qi D cA ad A res.1 res.2 Y) args s 0 0 A) (F0 m 122 ls [.int y0]) := by
  obtain ⟨hx, hb, hml, hown, hts, hST⟩ := id B
  unfold fn_Mod_whose_L122 at hf
  refine lv_istore (lv' := [(6, .int y0), (0, .ref (ad 95)), (1, .int x1), (2, .int x2), (3, .int x3), (4, .int x4), (5, .int x5)]) hx hb zd_Mod_whose_122 hl (by decide) rfl (fun ls hl => ?_)
  refine lv_iload_n hx hb zd_Mod_whose_124 rfl (lv_at hl 4 rfl) ?_
  refine lv_iload hx hb zd_Mod_whose_125 (lv_at hl 0 rfl) ?_
  refine lv_if_eq (tgt := 137) hx hb zd_Mod_whose_127 (by decide) (fun c26 => ?_) (fun c26 => ?_)
  · have hf := zu_t c26 hf
    refine lv_iconst (v := 0) hx hb zd_Mod_whose_137 (by decide) ?_
    exact zl_Mod_whose_L138 B hret hlk hk31 hk45 x1 x2 x4 x5 (0 : Int32) x3 X _ _ _ hP hS (lv_sub hl [1, 2, 3, 5, 6] rfl) hf
  · have hf := zu_f c26 hf
    refine lv_iconst (v := 1) hx hb zd_Mod_whose_130 (by decide) ?_
    refine lv_iload hx hb zd_Mod_whose_131 (lv_at hl 5 rfl) ?_
    refine lv_ishl hx hb zd_Mod_whose_133 ?_
    refine lv_goto (tgt := 138) hx hb zd_Mod_whose_134 (by decide) ?_
    exact zl_Mod_whose_L138 B hret hlk hk31 hk45 x1 x2 x4 x5 ((1 : Int32) <<< (x4 &&& 31)) x3 X _ _ _ hP hS (lv_sub hl [1, 2, 3, 5, 6] rfl) hf
set_option maxHeartbeats 4000000 in
theorem zl_Mod_whose_L121 {p : Program} {l : Launch} {e : Env} {s : State} {m : MethodId} {args : Array Value} {below : List Frame} {meth : Method} {c : Code} {D : va_G} {cA : Nat → ClassId} {ad : Nat → Nat} {A : Nat → Prop} (B : zu_B p s m args c zb_Mod_whose 7 "StonePostModel" D cA ad A) (hret : meth.sig.returnType = (some .int)) (hlk : meth.locks = false) {Y : LX} {res : Int32 × IX} {k31 : Int32 → Int32 → Int32 → Int32 → IX → Option (Int32 × IX)} (hk31 : ∀ (x1 : Int32) (x2 : Int32) (x3 : Int32) (x4 : Int32) (X : IX) (H : Heap) (locs : List Loc) (ls : Array Slot), va_P D zu_cl (zu_pic cA ad X Y) H → va_S A s.heap H locs → lv_has ls 7 [(0, .ref (ad 95)), (1, .int x1), (2, .int x2), (3, .int x3), (4, .int x4)] → k31 x1 x2 x3 x4 X = some res → W p l e zR_Mod_whose s m args below meth c H locs 0 0 (MQ below (zu_Qi D cA ad A res.1 res.2 Y) args s 0 0 A) (F0 m 31 ls [])) {k45 : Int32 → Int32 → Int32 → Int32 → Int32 → IX → Option (Int32 × IX)} (hk45 : ∀ (x1 : Int32) (x2 : Int32) (x3 : Int32) (x4 : Int32) (x5 : Int32) (X : IX) (H : Heap) (locs : List Loc) (ls : Array Slot), va_P D zu_cl (zu_pic cA ad X Y) H → va_S A s.heap H locs → lv_has ls 7 [(0, .ref (ad 95)), (1, .int x1), (2, .int x2), (3, .int x3), (4, .int x4), (5, .int x5)] → k45 x1 x2 x3 x4 x5 X = some res → W p l e zR_Mod_whose s m args below meth c H locs 0 0 (MQ below (zu_Qi D cA ad A res.1 res.2 Y) args s 0 0 A) (F0 m 45 ls [])) (x1 : Int32) (x2 : Int32) (x3 : Int32) (x4 : Int32) (x5 : Int32) (X : IX) (H : Heap) (locs : List Loc) (ls : Array Slot) (hP : va_P D zu_cl (zu_pic cA ad X Y) H) (hS : va_S A s.heap H locs) (hl : lv_has ls 7 [(0, .ref (ad 95)), (1, .int x1), (2, .int x2), (3, .int x3), (4, .int x4), (5, .int x5)]) (hf : fn_Mod_whose_L121 k31 k45 x1 x2 x3 x4 x5 X = some res) : W p l e zR_Mod_whose s m args below meth c H locs 0 0 (MQ below (zu_Qi D cA ad A res.1 res.2 Y) args s 0 0 A) (F0 m 121 ls []) := by
  obtain ⟨hx, hb, hml, hown, hts, hST⟩ := id B
  unfold fn_Mod_whose_L121 at hf
  refine lv_iconst (v := 0) hx hb zd_Mod_whose_121 (by decide) ?_
  exact zl_Mod_whose_L122 B hret hlk hk31 hk45 x1 x2 x3 x4 x5 (0 : Int32) X _ _ _ hP hS (lv_sub hl [0, 1, 2, 3, 4, 5] rfl) hf
set_option maxHeartbeats 4000000 in
theorem zl_Mod_whose_L117 {p : Program} {l : Launch} {e : Env} {s : State} {m : MethodId} {args : Array Value} {below : List Frame} {meth : Method} {c : Code} {D : va_G} {cA : Nat → ClassId} {ad : Nat → Nat} {A : Nat → Prop} (B : zu_B p s m args c zb_Mod_whose 7 "StonePostModel" D cA ad A) (hret : meth.sig.returnType = (some .int)) (hlk : meth.locks = false) {Y : LX} {res : Int32 × IX} {k31 : Int32 → Int32 → Int32 → Int32 → IX → Option (Int32 × IX)} (hk31 : ∀ (x1 : Int32) (x2 : Int32) (x3 : Int32) (x4 : Int32) (X : IX) (H : Heap) (locs : List Loc) (ls : Array Slot), va_P D zu_cl (zu_pic cA ad X Y) H → va_S A s.heap H locs → lv_has ls 7 [(0, .ref (ad 95)), (1, .int x1), (2, .int x2), (3, .int x3), (4, .int x4)] → k31 x1 x2 x3 x4 X = some res → W p l e zR_Mod_whose s m args below meth c H locs 0 0 (MQ below (zu_Qi D cA ad A res.1 res.2 Y) args s 0 0 A) (F0 m 31 ls [])) {k45 : Int32 → Int32 → Int32 → Int32 → Int32 → IX → Option (Int32 × IX)} (hk45 : ∀ (x1 : Int32) (x2 : Int32) (x3 : Int32) (x4 : Int32) (x5 : Int32) (X : IX) (H : Heap) (locs : List Loc) (ls : Array Slot), va_P D zu_cl (zu_pic cA ad X Y) H → va_S A s.heap H locs → lv_has ls 7 [(0, .ref (ad 95)), (1, .int x1), (2, .int x2), (3, .int x3), (4, .int x4), (5, .int x5)] → k45 x1 x2 x3 x4 x5 X = some res → W p l e zR_Mod_whose s m args below meth c H locs 0 0 (MQ below (zu_Qi D cA ad A res.1 res.2 Y) args s 0 0 A) (F0 m 45 ls [])) (x1 : Int32) (x2 : Int32) (x3 : Int32) (x4 : Int32) (x5 : Int32) (X : IX) (H : Heap) (locs : List Loc) (ls : Array Slot) (hP : va_P D zu_cl (zu_pic cA ad X Y) H) (hS : va_S A s.heap H locs) (hl : lv_has ls 7 [(0, .ref (ad 95)), (1, .int x1), (2, .int x2), (3, .int x3), (4, .int x4), (5, .int x5)]) (hf : fn_Mod_whose_L117 k31 k45 x1 x2 x3 x4 x5 X = some res) : W p l e zR_Mod_whose s m args below meth c H locs 0 0 (MQ below (zu_Qi D cA ad A res.1 res.2 Y) args s 0 0 A) (F0 m 117 ls []) := by
  obtain ⟨hx, hb, hml, hown, hts, hST⟩ := id B
  unfold fn_Mod_whose_L117 at hf
  refine lv_iconst (v := 1) hx hb zd_Mod_whose_117 (by decide) ?_
  refine lv_goto (tgt := 122) hx hb zd_Mod_whose_118 (by decide) ?_
  exact zl_Mod_whose_L122 B hret hlk hk31 hk45 x1 x2 x3 x4 x5 (1 : Int32) X _ _ _ hP hS (lv_sub hl [0, 1, 2, 3, 4, 5] rfl) hf
set_option maxHeartbeats 4000000 in
theorem zl_Mod_whose_L82 {p : Program} {l : Launch} {e : Env} {s : State} {m : MethodId} {args : Array Value} {below : List Frame} {meth : Method} {c : Code} {D : va_G} {cA : Nat → ClassId} {ad : Nat → Nat} {A : Nat → Prop} (B : zu_B p s m args c zb_Mod_whose 7 "StonePostModel" D cA ad A) (hret : meth.sig.returnType = (some .int)) (hlk : meth.locks = false) {Y : LX} {res : Int32 × IX} {k31 : Int32 → Int32 → Int32 → Int32 → IX → Option (Int32 × IX)} (hk31 : ∀ (x1 : Int32) (x2 : Int32) (x3 : Int32) (x4 : Int32) (X : IX) (H : Heap) (locs : List Loc) (ls : Array Slot), va_P D zu_cl (zu_pic cA ad X Y) H → va_S A s.heap H locs → lv_has ls 7 [(0, .ref (ad 95)), (1, .int x1), (2, .int x2), (3, .int x3), (4, .int x4)] → k31 x1 x2 x3 x4 X = some res → W p l e zR_Mod_whose s m args below meth c H locs 0 0 (MQ below (zu_Qi D cA ad A res.1 res.2 Y) args s 0 0 A) (F0 m 31 ls [])) {k45 : Int32 → Int32 → Int32 → Int32 → Int32 → IX → Option (Int32 × IX)} (hk45 : ∀ (x1 : Int32) (x2 : Int32) (x3 : Int32) (x4 : Int32) (x5 : Int32) (X : IX) (H : Heap) (locs : List Loc) (ls : Array Slot), va_P D zu_cl (zu_pic cA ad X Y) H → va_S A s.heap H locs → lv_has ls 7 [(0, .ref (ad 95)), (1, .int x1), (2, .int x2), (3, .int x3), (4, .int x4), (5, .int x5)] → k45 x1 x2 x3 x4 x5 X = some res → W p l e zR_Mod_whose s m args below meth c H locs 0 0 (MQ below (zu_Qi D cA ad A res.1 res.2 Y) args s 0 0 A) (F0 m 45 ls [])) (x1 : Int32) (x2 : Int32) (x3 : Int32) (x4 : Int32) (x5 : Int32) (y0 : Int32) (X : IX) (H : Heap) (locs : List Loc) (ls : Array Slot) (hP : va_P D zu_cl (zu_pic cA ad X Y) H) (hS : va_S A s.heap H locs) (hl : lv_has ls 7 [(0, .ref (ad 95)), (1, .int x1), (2, .int x2), (3, .int x3), (4, .int x4), (5, .int x5)]) (hf : fn_Mod_whose_L82 k31 k45 x1 x2 x3 x4 x5 y0 X = some res) : W p l e zR_Mod_whose s m args below meth c H locs 0 0 (MQ below (zu_Qi D cA ad A res.1 res.2 Y) args s 0 0 A) (F0 m 82 ls [.int y0]) := by
  obtain ⟨hx, hb, hml, hown, hts, hST⟩ := id B
  unfold fn_Mod_whose_L82 at hf
  refine lv_istore (lv' := [(6, .int y0), (0, .ref (ad 95)), (1, .int x1), (2, .int x2), (3, .int x3), (4, .int x4), (5, .int x5)]) hx hb zd_Mod_whose_82 hl (by decide) rfl (fun ls hl => ?_)
  refine lv_iload hx hb zd_Mod_whose_84 (lv_at hl 0 rfl) ?_
  refine lv_if_ne (tgt := 117) hx hb zd_Mod_whose_86 (by decide) (fun c19 => ?_) (fun c19 => ?_)
  · have hf := zu_f c19 hf
    exact zl_Mod_whose_L117 B hret hlk hk31 hk45 x1 x2 x3 x4 x5 X _ _ _ hP hS (lv_sub hl [1, 2, 3, 4, 5, 6] rfl) hf
  · have hf := zu_t c19 hf
    refine lv_aload_n hx hb zd_Mod_whose_89 rfl (lv_at hl 1 rfl) ?_
    refine lv_iload hx hb zd_Mod_whose_90 (lv_at hl 5 rfl) ?_
    refine lv_iload hx hb zd_Mod_whose_92 (lv_at hl 6 rfl) ?_
    refine lv_iload_n hx hb zd_Mod_whose_94 rfl (lv_at hl 3 rfl) ?_
    obtain ⟨v20, hq21, hf⟩ := zu_b1_e hf
    refine zw_Mod_sure (rest := []) B hP hS hq21 zq_1011 (Nat.le_of_ble_eq_true rfl) (Nat.le_of_ble_eq_true rfl) hl.1 rfl (Nat.le_of_ble_eq_true rfl) zd_Mod_whose_95 (by decide) (fun H locs hP hS => ?_)
    clear hq21
    refine lv_bipush (v := 12) hx hb zd_Mod_whose_98 (by decide) ?_
    refine lv_icmp_ge (tgt := 121) hx hb zd_Mod_whose_100 (by decide) (fun c22 => ?_) (fun c22 => ?_)
    · have hf := zu_t c22 hf
      exact zl_Mod_whose_L121 B hret hlk hk31 hk45 x1 x2 x3 x4 x5 X _ _ _ hP hS (lv_sub hl [1, 2, 3, 4, 5, 6] rfl) hf
    · have hf := zu_f c22 hf
      refine lv_aload_n hx hb zd_Mod_whose_103 rfl (lv_at hl 1 rfl) ?_
      refine lv_iload hx hb zd_Mod_whose_104 (lv_at hl 5 rfl) ?_
      refine lv_iload hx hb zd_Mod_whose_106 (lv_at hl 6 rfl) ?_
      refine lv_iload_n hx hb zd_Mod_whose_108 rfl (lv_at hl 3 rfl) ?_
      refine lv_iconst (v := 1) hx hb zd_Mod_whose_109 (by decide) ?_
      obtain ⟨v23, hq24, hf⟩ := zu_b1_e hf
      refine zw_Mod_landing (rest := []) B hP hS hq24 zq_1022 (Nat.le_of_ble_eq_true rfl) (Nat.le_of_ble_eq_true rfl) hl.1 rfl (Nat.le_of_ble_eq_true rfl) zd_Mod_whose_110 (by decide) (fun H locs hP hS => ?_)
      clear hq24
      refine lv_iload_n hx hb zd_Mod_whose_113 rfl (lv_at hl 2 rfl) ?_
      refine lv_icmp_ne (tgt := 121) hx hb zd_Mod_whose_114 (by decide) (fun c25 => ?_) (fun c25 => ?_)
      · have hf := zu_f c25 hf
        exact zl_Mod_whose_L121 B hret hlk hk31 hk45 x1 x2 x3 x4 x5 X _ _ _ hP hS (lv_sub hl [1, 2, 3, 4, 5, 6] rfl) hf
      · have hf := zu_t c25 hf
        exact zl_Mod_whose_L117 B hret hlk hk31 hk45 x1 x2 x3 x4 x5 X _ _ _ hP hS (lv_sub hl [1, 2, 3, 4, 5, 6] rfl) hf
set_option maxHeartbeats 4000000 in
theorem zl_Mod_whose_L81 {p : Program} {l : Launch} {e : Env} {s : State} {m : MethodId} {args : Array Value} {below : List Frame} {meth : Method} {c : Code} {D : va_G} {cA : Nat → ClassId} {ad : Nat → Nat} {A : Nat → Prop} (B : zu_B p s m args c zb_Mod_whose 7 "StonePostModel" D cA ad A) (hret : meth.sig.returnType = (some .int)) (hlk : meth.locks = false) {Y : LX} {res : Int32 × IX} {k31 : Int32 → Int32 → Int32 → Int32 → IX → Option (Int32 × IX)} (hk31 : ∀ (x1 : Int32) (x2 : Int32) (x3 : Int32) (x4 : Int32) (X : IX) (H : Heap) (locs : List Loc) (ls : Array Slot), va_P D zu_cl (zu_pic cA ad X Y) H → va_S A s.heap H locs → lv_has ls 7 [(0, .ref (ad 95)), (1, .int x1), (2, .int x2), (3, .int x3), (4, .int x4)] → k31 x1 x2 x3 x4 X = some res → W p l e zR_Mod_whose s m args below meth c H locs 0 0 (MQ below (zu_Qi D cA ad A res.1 res.2 Y) args s 0 0 A) (F0 m 31 ls [])) {k45 : Int32 → Int32 → Int32 → Int32 → Int32 → IX → Option (Int32 × IX)} (hk45 : ∀ (x1 : Int32) (x2 : Int32) (x3 : Int32) (x4 : Int32) (x5 : Int32) (X : IX) (H : Heap) (locs : List Loc) (ls : Array Slot), va_P D zu_cl (zu_pic cA ad X Y) H → va_S A s.heap H locs → lv_has ls 7 [(0, .ref (ad 95)), (1, .int x1), (2, .int x2), (3, .int x3), (4, .int x4), (5, .int x5)] → k45 x1 x2 x3 x4 x5 X = some res → W p l e zR_Mod_whose s m args below meth c H locs 0 0 (MQ below (zu_Qi D cA ad A res.1 res.2 Y) args s 0 0 A) (F0 m 45 ls [])) (x1 : Int32) (x2 : Int32) (x3 : Int32) (x4 : Int32) (x5 : Int32) (X : IX) (H : Heap) (locs : List Loc) (ls : Array Slot) (hP : va_P D zu_cl (zu_pic cA ad X Y) H) (hS : va_S A s.heap H locs) (hl : lv_has ls 7 [(0, .ref (ad 95)), (1, .int x1), (2, .int x2), (3, .int x3), (4, .int x4), (5, .int x5)]) (hf : fn_Mod_whose_L81 k31 k45 x1 x2 x3 x4 x5 X = some res) : W p l e zR_Mod_whose s m args below meth c H locs 0 0 (MQ below (zu_Qi D cA ad A res.1 res.2 Y) args s 0 0 A) (F0 m 81 ls []) := by
  obtain ⟨hx, hb, hml, hown, hts, hST⟩ := id B
  unfold fn_Mod_whose_L81 at hf
  refine lv_iconst (v := 0) hx hb zd_Mod_whose_81 (by decide) ?_
  exact zl_Mod_whose_L82 B hret hlk hk31 hk45 x1 x2 x3 x4 x5 (0 : Int32) X _ _ _ hP hS (lv_sub hl [0, 1, 2, 3, 4, 5] rfl) hf
set_option maxHeartbeats 4000000 in
theorem zl_Mod_whose_B45 {p : Program} {l : Launch} {e : Env} {s : State} {m : MethodId} {args : Array Value} {below : List Frame} {meth : Method} {c : Code} {D : va_G} {cA : Nat → ClassId} {ad : Nat → Nat} {A : Nat → Prop} (B : zu_B p s m args c zb_Mod_whose 7 "StonePostModel" D cA ad A) (hret : meth.sig.returnType = (some .int)) (hlk : meth.locks = false) {Y : LX} {res : Int32 × IX} {k31 : Int32 → Int32 → Int32 → Int32 → IX → Option (Int32 × IX)} (hk31 : ∀ (x1 : Int32) (x2 : Int32) (x3 : Int32) (x4 : Int32) (X : IX) (H : Heap) (locs : List Loc) (ls : Array Slot), va_P D zu_cl (zu_pic cA ad X Y) H → va_S A s.heap H locs → lv_has ls 7 [(0, .ref (ad 95)), (1, .int x1), (2, .int x2), (3, .int x3), (4, .int x4)] → k31 x1 x2 x3 x4 X = some res → W p l e zR_Mod_whose s m args below meth c H locs 0 0 (MQ below (zu_Qi D cA ad A res.1 res.2 Y) args s 0 0 A) (F0 m 31 ls [])) {k45 : Int32 → Int32 → Int32 → Int32 → Int32 → IX → Option (Int32 × IX)} (hk45 : ∀ (x1 : Int32) (x2 : Int32) (x3 : Int32) (x4 : Int32) (x5 : Int32) (X : IX) (H : Heap) (locs : List Loc) (ls : Array Slot), va_P D zu_cl (zu_pic cA ad X Y) H → va_S A s.heap H locs → lv_has ls 7 [(0, .ref (ad 95)), (1, .int x1), (2, .int x2), (3, .int x3), (4, .int x4), (5, .int x5)] → k45 x1 x2 x3 x4 x5 X = some res → W p l e zR_Mod_whose s m args below meth c H locs 0 0 (MQ below (zu_Qi D cA ad A res.1 res.2 Y) args s 0 0 A) (F0 m 45 ls [])) (x1 : Int32) (x2 : Int32) (x3 : Int32) (x4 : Int32) (x5 : Int32) (X : IX) (H : Heap) (locs : List Loc) (ls : Array Slot) (hP : va_P D zu_cl (zu_pic cA ad X Y) H) (hS : va_S A s.heap H locs) (hl : lv_has ls 7 [(0, .ref (ad 95)), (1, .int x1), (2, .int x2), (3, .int x3), (4, .int x4), (5, .int x5)]) (hf : fn_Mod_whose_B45 k31 k45 x1 x2 x3 x4 x5 X = some res) : W p l e zR_Mod_whose s m args below meth c H locs 0 0 (MQ below (zu_Qi D cA ad A res.1 res.2 Y) args s 0 0 A) (F0 m 45 ls []) := by
  obtain ⟨hx, hb, hml, hown, hts, hST⟩ := id B
  unfold fn_Mod_whose_B45 at hf
  refine lv_iload hx hb zd_Mod_whose_45 (lv_at hl 5 rfl) ?_
  refine lv_iconst (v := 2) hx hb zd_Mod_whose_47 (by decide) ?_
  refine lv_icmp_ge (tgt := 146) hx hb zd_Mod_whose_48 (by decide) (fun c11 => ?_) (fun c11 => ?_)
  · have hf := zu_t c11 hf
    obtain ⟨v12, ev12, hf⟩ := zu_nx_e hf
    refine lv_iinc (v := v12) (lv' := [(4, .int v12), (0, .ref (ad 95)), (1, .int x1), (2, .int x2), (3, .int x3), (5, .int x5)]) hx hb zd_Mod_whose_146 hl (k := 4) rfl (by rw [ev12]; rfl) (by decide) rfl (fun ls hl => ?_)
    clear ev12
    refine lv_goto (tgt := 31) hx hb zd_Mod_whose_149 (by decide) ?_
    exact hk31 x1 x2 x3 v12 X _ _ _ hP hS (lv_sub hl [1, 2, 3, 4, 0] rfl) hf
  · have hf := zu_f c11 hf
    refine lv_aload_n hx hb zd_Mod_whose_51 rfl (lv_at hl 0 rfl) ?_
    refine lv_iload hx hb zd_Mod_whose_52 (lv_at hl 4 rfl) ?_
    refine lv_iload hx hb zd_Mod_whose_54 (lv_at hl 5 rfl) ?_
    refine lv_iload_n hx hb zd_Mod_whose_56 rfl (lv_at hl 2 rfl) ?_
    obtain ⟨v13, hq14, hf⟩ := zu_b1_e hf
    refine zw_Mod_sure (rest := []) B hP hS hq14 zq_1011 (Nat.le_of_ble_eq_true rfl) (Nat.le_of_ble_eq_true rfl) hl.1 rfl (Nat.le_of_ble_eq_true rfl) zd_Mod_whose_57 (by decide) (fun H locs hP hS => ?_)
    clear hq14
    refine lv_if_le (tgt := 81) hx hb zd_Mod_whose_60 (by decide) (fun c15 => ?_) (fun c15 => ?_)
    · have hf := zu_t c15 hf
      exact zl_Mod_whose_L81 B hret hlk hk31 hk45 x1 x2 x3 x4 x5 X _ _ _ hP hS (lv_sub hl [0, 1, 2, 3, 4, 5] rfl) hf
    · have hf := zu_f c15 hf
      refine lv_aload_n hx hb zd_Mod_whose_63 rfl (lv_at hl 0 rfl) ?_
      refine lv_iload hx hb zd_Mod_whose_64 (lv_at hl 4 rfl) ?_
      refine lv_iload hx hb zd_Mod_whose_66 (lv_at hl 5 rfl) ?_
      refine lv_iload_n hx hb zd_Mod_whose_68 rfl (lv_at hl 2 rfl) ?_
      refine lv_iconst (v := 0) hx hb zd_Mod_whose_69 (by decide) ?_
      obtain ⟨v16, hq17, hf⟩ := zu_b1_e hf
      refine zw_Mod_landing (rest := []) B hP hS hq17 zq_1022 (Nat.le_of_ble_eq_true rfl) (Nat.le_of_ble_eq_true rfl) hl.1 rfl (Nat.le_of_ble_eq_true rfl) zd_Mod_whose_70 (by decide) (fun H locs hP hS => ?_)
      clear hq17
      refine lv_iload_n hx hb zd_Mod_whose_73 rfl (lv_at hl 1 rfl) ?_
      refine lv_icmp_ne (tgt := 81) hx hb zd_Mod_whose_74 (by decide) (fun c18 => ?_) (fun c18 => ?_)
      · have hf := zu_f c18 hf
        exact zl_Mod_whose_L81 B hret hlk hk31 hk45 x1 x2 x3 x4 x5 X _ _ _ hP hS (lv_sub hl [0, 1, 2, 3, 4, 5] rfl) hf
      · have hf := zu_t c18 hf
        refine lv_iconst (v := 1) hx hb zd_Mod_whose_77 (by decide) ?_
        refine lv_goto (tgt := 82) hx hb zd_Mod_whose_78 (by decide) ?_
        exact zl_Mod_whose_L82 B hret hlk hk31 hk45 x1 x2 x3 x4 x5 (1 : Int32) X _ _ _ hP hS (lv_sub hl [0, 1, 2, 3, 4, 5] rfl) hf
theorem zl_Mod_whose_L45 {p : Program} {l : Launch} {e : Env} {s : State} {m : MethodId} {args : Array Value} {below : List Frame} {meth : Method} {c : Code} {D : va_G} {cA : Nat → ClassId} {ad : Nat → Nat} {A : Nat → Prop} (B : zu_B p s m args c zb_Mod_whose 7 "StonePostModel" D cA ad A) (hret : meth.sig.returnType = (some .int)) (hlk : meth.locks = false) {Y : LX} {res : Int32 × IX} {k31 : Int32 → Int32 → Int32 → Int32 → IX → Option (Int32 × IX)} (hk31 : ∀ (x1 : Int32) (x2 : Int32) (x3 : Int32) (x4 : Int32) (X : IX) (H : Heap) (locs : List Loc) (ls : Array Slot), va_P D zu_cl (zu_pic cA ad X Y) H → va_S A s.heap H locs → lv_has ls 7 [(0, .ref (ad 95)), (1, .int x1), (2, .int x2), (3, .int x3), (4, .int x4)] → k31 x1 x2 x3 x4 X = some res → W p l e zR_Mod_whose s m args below meth c H locs 0 0 (MQ below (zu_Qi D cA ad A res.1 res.2 Y) args s 0 0 A) (F0 m 31 ls [])) : ∀ (n : Nat) (x1 : Int32) (x2 : Int32) (x3 : Int32) (x4 : Int32) (x5 : Int32) (X : IX) (H : Heap) (locs : List Loc) (ls : Array Slot), va_P D zu_cl (zu_pic cA ad X Y) H → va_S A s.heap H locs → lv_has ls 7 [(0, .ref (ad 95)), (1, .int x1), (2, .int x2), (3, .int x3), (4, .int x4), (5, .int x5)] → fn_Mod_whose_L45 k31 n x1 x2 x3 x4 x5 X = some res → W p l e zR_Mod_whose s m args below meth c H locs 0 0 (MQ below (zu_Qi D cA ad A res.1 res.2 Y) args s 0 0 A) (F0 m 45 ls []) := by
  intro n
  induction n with
  | zero =>
    intro x1 x2 x3 x4 x5 X H locs ls hP hS hl hf
    exact (Option.some_ne_none _ hf.symm).elim
  | succ n ih =>
    intro x1 x2 x3 x4 x5 X H locs ls hP hS hl hf
    exact zl_Mod_whose_B45 B hret hlk hk31 ih x1 x2 x3 x4 x5 X H locs ls hP hS hl  hf
set_option maxHeartbeats 4000000 in
theorem zl_Mod_whose_B31 {p : Program} {l : Launch} {e : Env} {s : State} {m : MethodId} {args : Array Value} {below : List Frame} {meth : Method} {c : Code} {D : va_G} {cA : Nat → ClassId} {ad : Nat → Nat} {A : Nat → Prop} (B : zu_B p s m args c zb_Mod_whose 7 "StonePostModel" D cA ad A) (hret : meth.sig.returnType = (some .int)) (hlk : meth.locks = false) {Y : LX} {res : Int32 × IX} {k31 : Int32 → Int32 → Int32 → Int32 → IX → Option (Int32 × IX)} (hk31 : ∀ (x1 : Int32) (x2 : Int32) (x3 : Int32) (x4 : Int32) (X : IX) (H : Heap) (locs : List Loc) (ls : Array Slot), va_P D zu_cl (zu_pic cA ad X Y) H → va_S A s.heap H locs → lv_has ls 7 [(0, .ref (ad 95)), (1, .int x1), (2, .int x2), (3, .int x3), (4, .int x4)] → k31 x1 x2 x3 x4 X = some res → W p l e zR_Mod_whose s m args below meth c H locs 0 0 (MQ below (zu_Qi D cA ad A res.1 res.2 Y) args s 0 0 A) (F0 m 31 ls [])) (x1 : Int32) (x2 : Int32) (x3 : Int32) (x4 : Int32) (X : IX) (H : Heap) (locs : List Loc) (ls : Array Slot) (hP : va_P D zu_cl (zu_pic cA ad X Y) H) (hS : va_S A s.heap H locs) (hl : lv_has ls 7 [(0, .ref (ad 95)), (1, .int x1), (2, .int x2), (3, .int x3), (4, .int x4)]) (hf : fn_Mod_whose_B31 k31 x1 x2 x3 x4 X = some res) : W p l e zR_Mod_whose s m args below meth c H locs 0 0 (MQ below (zu_Qi D cA ad A res.1 res.2 Y) args s 0 0 A) (F0 m 31 ls []) := by
  obtain ⟨hx, hb, hml, hown, hts, hST⟩ := id B
  unfold fn_Mod_whose_B31 at hf
  refine lv_iload hx hb zd_Mod_whose_31 (lv_at hl 4 rfl) ?_
  refine lv_aload_n hx hb zd_Mod_whose_33 rfl (lv_at hl 0 rfl) ?_
  refine zg_Mod_s B hP rfl zq_861 zd_Mod_whose_34 ?_
  refine lv_iconst (v := 1) hx hb zd_Mod_whose_37 (by decide) ?_
  refine zr_iald (j := 1) (by decide) B hP rfl (by decide) rfl (by decide) zd_Mod_whose_38 ?_
  refine lv_icmp_ge (tgt := 152) hx hb zd_Mod_whose_39 (by decide) (fun c10 => ?_) (fun c10 => ?_)
  · have hf := zu_t c10 hf
    refine lv_iload_n hx hb zd_Mod_whose_152 rfl (lv_at hl 3 rfl) ?_
    obtain rfl := Option.some.inj hf
    exact zr_iret hx hb hret hlk hP hS zd_Mod_whose_153
  · have hf := zu_f c10 hf
    refine lv_iconst (v := 0) hx hb zd_Mod_whose_42 (by decide) ?_
    refine lv_istore (lv' := [(5, .int (0 : Int32)), (0, .ref (ad 95)), (1, .int x1), (2, .int x2), (3, .int x3), (4, .int x4)]) hx hb zd_Mod_whose_43 hl (by decide) rfl (fun ls hl => ?_)
    exact zl_Mod_whose_L45 B hret hlk hk31 400 x1 x2 x3 x4 (0 : Int32) X _ _ _ hP hS (lv_sub hl [1, 2, 3, 4, 5, 0] rfl) hf
theorem zl_Mod_whose_L31 {p : Program} {l : Launch} {e : Env} {s : State} {m : MethodId} {args : Array Value} {below : List Frame} {meth : Method} {c : Code} {D : va_G} {cA : Nat → ClassId} {ad : Nat → Nat} {A : Nat → Prop} (B : zu_B p s m args c zb_Mod_whose 7 "StonePostModel" D cA ad A) (hret : meth.sig.returnType = (some .int)) (hlk : meth.locks = false) {Y : LX} {res : Int32 × IX} : ∀ (n : Nat) (x1 : Int32) (x2 : Int32) (x3 : Int32) (x4 : Int32) (X : IX) (H : Heap) (locs : List Loc) (ls : Array Slot), va_P D zu_cl (zu_pic cA ad X Y) H → va_S A s.heap H locs → lv_has ls 7 [(0, .ref (ad 95)), (1, .int x1), (2, .int x2), (3, .int x3), (4, .int x4)] → fn_Mod_whose_L31 n x1 x2 x3 x4 X = some res → W p l e zR_Mod_whose s m args below meth c H locs 0 0 (MQ below (zu_Qi D cA ad A res.1 res.2 Y) args s 0 0 A) (F0 m 31 ls []) := by
  intro n
  induction n with
  | zero =>
    intro x1 x2 x3 x4 X H locs ls hP hS hl hf
    exact (Option.some_ne_none _ hf.symm).elim
  | succ n ih =>
    intro x1 x2 x3 x4 X H locs ls hP hS hl hf
    exact zl_Mod_whose_B31 B hret hlk ih x1 x2 x3 x4 X H locs ls hP hS hl  hf
set_option maxHeartbeats 4000000 in
theorem zl_Mod_whose_L19 {p : Program} {l : Launch} {e : Env} {s : State} {m : MethodId} {args : Array Value} {below : List Frame} {meth : Method} {c : Code} {D : va_G} {cA : Nat → ClassId} {ad : Nat → Nat} {A : Nat → Prop} (B : zu_B p s m args c zb_Mod_whose 7 "StonePostModel" D cA ad A) (hret : meth.sig.returnType = (some .int)) (hlk : meth.locks = false) {Y : LX} {res : Int32 × IX} (X : IX) (H : Heap) (locs : List Loc) (ls : Array Slot) (hP : va_P D zu_cl (zu_pic cA ad X Y) H) (hS : va_S A s.heap H locs) (hl : lv_has ls 7 [(0, .ref (ad 95))]) (hf : fn_Mod_whose_L19 X = some res) : W p l e zR_Mod_whose s m args below meth c H locs 0 0 (MQ below (zu_Qi D cA ad A res.1 res.2 Y) args s 0 0 A) (F0 m 19 ls []) := by
  obtain ⟨hx, hb, hml, hown, hts, hST⟩ := id B
  unfold fn_Mod_whose_L19 at hf
  refine lv_aload_n hx hb zd_Mod_whose_19 rfl (lv_at hl 0 rfl) ?_
  refine lv_ldc (v := -1000001) hx hb hown (hts _ zq_943) zd_Mod_whose_20 ?_
  obtain ⟨v7, X8, hq9, hf⟩ := zu_b2_e hf
  refine zw_Mod_finds (rest := []) B hP hS hq9 zq_944 (Nat.le_of_ble_eq_true rfl) (Nat.le_of_ble_eq_true rfl) hl.1 rfl (Nat.le_of_ble_eq_true rfl) zd_Mod_whose_22 (by decide) (fun H locs hP hS => ?_)
  clear hq9
  obtain rfl := Option.some.inj hf
  exact zr_iret hx hb hret hlk hP hS zd_Mod_whose_25
set_option maxHeartbeats 4000000 in
theorem zl_Mod_whose {p : Program} {l : Launch} {e : Env} {s : State} {m : MethodId} {args : Array Value} {below : List Frame} {meth : Method} {c : Code} {D : va_G} {cA : Nat → ClassId} {ad : Nat → Nat} {A : Nat → Prop} (B : zu_B p s m args c zb_Mod_whose 7 "StonePostModel" D cA ad A) (hret : meth.sig.returnType = (some .int)) (hlk : meth.locks = false) {Y : LX} {res : Int32 × IX} {a1 : Int32} {a2 : Int32} {X : IX} (H : Heap) (locs : List Loc) (ls : Array Slot) (hP : va_P D zu_cl (zu_pic cA ad X Y) H) (hS : va_S A s.heap H locs) (hl : lv_has ls 7 [(0, .ref (ad 95)), (1, .int a1), (2, .int a2)]) (hf : fn_Mod_whose a1 a2 X = some res) : W p l e zR_Mod_whose s m args below meth c H locs 0 0 (MQ below (zu_Qi D cA ad A res.1 res.2 Y) args s 0 0 A) (F0 m 0 ls []) := by
  obtain ⟨hx, hb, hml, hown, hts, hST⟩ := id B
  unfold fn_Mod_whose at hf
  refine lv_iload_n hx hb zd_Mod_whose_0 rfl (lv_at hl 1 rfl) ?_
  obtain ⟨v1, hq2, hf⟩ := zu_b1_e hf
  refine zw_Mod_isCell (rest := []) B hP hS hq2 zq_935 (Nat.le_of_ble_eq_true rfl) (Nat.le_of_ble_eq_true rfl) hl.1 rfl (Nat.le_of_ble_eq_true rfl) zd_Mod_whose_1 (by decide) (fun H locs hP hS => ?_)
  clear hq2
  refine lv_if_eq (tgt := 19) hx hb zd_Mod_whose_4 (by decide) (fun c3 => ?_) (fun c3 => ?_)
  · have hf := zu_t c3 hf
    exact zl_Mod_whose_L19 B hret hlk X _ _ _ hP hS (lv_sub hl [0] rfl) hf
  · have hf := zu_f c3 hf
    refine lv_iload_n hx hb zd_Mod_whose_7 rfl (lv_at hl 2 rfl) ?_
    refine lv_i2l hx hb zd_Mod_whose_8 rfl ?_
    refine lv_lconst (v := 0) hx hb zd_Mod_whose_9 (by decide) ?_
    refine lv_ldc2 (v := 23) hx hb hown (hts _ zq_938) zd_Mod_whose_10 ?_
    obtain ⟨v4, hq5, hf⟩ := zu_b1_e hf
    refine zw_Mod_in (rest := []) B hP hS hq5 zq_939 (Nat.le_of_ble_eq_true rfl) (Nat.le_of_ble_eq_true rfl) hl.1 rfl (Nat.le_of_ble_eq_true rfl) zd_Mod_whose_13 (by decide) (fun H locs hP hS => ?_)
    clear hq5
    refine lv_if_ne (tgt := 26) hx hb zd_Mod_whose_16 (by decide) (fun c6 => ?_) (fun c6 => ?_)
    · have hf := zu_f c6 hf
      refine lv_iconst (v := 0) hx hb zd_Mod_whose_26 (by decide) ?_
      refine lv_istore_n (lv' := [(3, .int (0 : Int32)), (0, .ref (ad 95)), (1, .int a1), (2, .int a2)]) hx hb zd_Mod_whose_27 rfl hl (by decide) rfl (fun ls hl => ?_)
      refine lv_iconst (v := 0) hx hb zd_Mod_whose_28 (by decide) ?_
      refine lv_istore (lv' := [(4, .int (0 : Int32)), (3, .int (0 : Int32)), (0, .ref (ad 95)), (1, .int a1), (2, .int a2)]) hx hb zd_Mod_whose_29 hl (by decide) rfl (fun ls hl => ?_)
      exact zl_Mod_whose_L31 B hret hlk 400 a1 a2 (0 : Int32) (0 : Int32) X _ _ _ hP hS (lv_sub hl [2, 3, 4, 1, 0] rfl) hf
    · have hf := zu_t c6 hf
      exact zl_Mod_whose_L19 B hret hlk X _ _ _ hP hS (lv_sub hl [0] rfl) hf
theorem zC_Mod_whose (l : Launch) {D : va_G} {cA : Nat → ClassId} {ad : Nat → Nat} {A : Nat → Prop} {a1 : Int32} {a2 : Int32} {X : IX} {Y : LX} {res : Int32 × IX} (hf : fn_Mod_whose a1 a2 X = some res) : Met l zm_Mod_whose (zu_ws zm_Mod_whose zb_Mod_whose 7 (some .int)) zR_Mod_whose (va_Pc [.ref (ad 95), .int a1, .int a2] (zu_Pre D cA ad A X Y)) (zu_Qi D cA ad A res.1 res.2 Y) 0 0 A := by
  refine Met.ofW (cc := zb_Mod_whose) (maxL := 7) (ret := (some .int)) (by decide +kernel) rfl ?_
  intro p e s m args below meth c s₁ B0 hml hv
  obtain ⟨rfl, hP, hST⟩ := hv
  have B : zu_B p s m _ c zb_Mod_whose 7 "StonePostModel" D cA ad A := ⟨B0.exec, B0.bytes, hml, findClass_of_methodNamed B0.named, (fun w hw => atoms_spec (ws := zu_ws zm_Mod_whose zb_Mod_whose 7 (some .int)) B0.pre w (List.mem_cons_of_mem _ hw)), hST⟩
  have hl := lv_entry ([.ref (ad 95), .int a1, .int a2]) (n := 7) (Nat.le_of_ble_eq_true rfl)
  rw [lg_entry_eq]
  generalize (lg_sl ([.ref (ad 95), .int a1, .int a2]) ++ List.replicate (7 - (lg_sl ([.ref (ad 95), .int a1, .int a2])).length) Slot.unset).toArray = ls at hl ⊢
  exact zl_Mod_whose B B0.returns B0.notSynchronized s.heap [] ls hP va_S.rf hl  hf
theorem zw_Mod_whose {p : Program} {l : Launch} {e : Env} {R : Room} {s : State} {m : MethodId} {args : Array Value} {below : List Frame} {meth : Method} {c : Code} {H : Heap} {locs : List Loc} {cells slots : Nat} {Q : State → Prop} {cc : ByteArray} {pc nL : Nat} {ls : Array Slot} {rest st0 : List Value} {D : va_G} {cA : Nat → ClassId} {ad : Nat → Nat} {A : Nat → Prop} {X : IX} {Y : LX} {own : String} {index : Nat} {a1 : Int32} {a2 : Int32} {v1 : Int32} {X1 : IX} (B : zu_B p s m args c cc nL own D cA ad A) (hP : va_P D zu_cl (zu_pic cA ad X Y) H) (hS : va_S A s.heap H locs) (hq : fn_Mod_whose a1 a2 X = some (v1, X1)) (m1 : Cond.methodLink own index zm_Mod_whose ∈ zu_TB) (hR1 : 4 + 1 ≤ R.frames) (hR2 : 8 + (7 + 11) + 94 ≤ R.locals) (hsz : ls.size = nL) (hst : st0 = .int a2 :: .int a1 :: .ref (ad 95) :: rest) (hw : (rest.map fun v => v.category).sum ≤ 8) (hdg : decode cc pc = .ok (.invokevirtual index, 3)) (h00 : cells ≤ R.cells ∧ slots ≤ R.slots) (kk : ∀ (H1 : Heap) (locs1 : List Loc), va_P D zu_cl (zu_pic cA ad X1 Y) H1 → va_S A s.heap H1 locs1 → W p l e R s m args below meth c H1 locs1 cells slots Q (F0 m (pc + 3) ls (.int v1 :: rest))) : W p l e R s m args below meth c H locs cells slots Q (F0 m pc ls st0) := by
  subst hst
  exact zr_cVi (As := [.int a1, .int a2]) (rest := rest) (n := 2) (C := "StonePostModel") (T := zt_Mod) (N := 23) B hP hS (zC_Mod_whose l  hq) (K := 7) rfl (by decide) (by decide) rfl rfl m1 zq_1206 zq_1207 zq_8 zq_1208 (by decide +kernel) ⟨hR1, hR2⟩ rfl rfl rfl hsz rfl hw hdg h00 kk
abbrev zR_Mod_from : Room := { frames := 8, cells := 0, slots := 0, locals := 193 }
theorem zd_Mod_from_0 : decode zb_Mod_from 0 = .ok (.iload_n 1, 1) := by decide +kernel
theorem zd_Mod_from_1 : decode zb_Mod_from 1 = .ok (.iload_n 2, 1) := by decide +kernel
theorem zd_Mod_from_2 : decode zb_Mod_from 2 = .ok (.bipush 20, 2) := by decide +kernel
theorem zd_Mod_from_4 : decode zb_Mod_from 4 = .ok (.invokestatic 172, 3) := by decide +kernel
theorem zd_Mod_from_7 : decode zb_Mod_from 7 = .ok (.ifCond .ne 10, 3) := by decide +kernel
theorem zd_Mod_from_10 : decode zb_Mod_from 10 = .ok (.aload_n 0, 1) := by decide +kernel
theorem zd_Mod_from_11 : decode zb_Mod_from 11 = .ok (.ldc 50, 2) := by decide +kernel
theorem zd_Mod_from_13 : decode zb_Mod_from 13 = .ok (.invokevirtual 64, 3) := by decide +kernel
theorem zd_Mod_from_16 : decode zb_Mod_from 16 = .ok (.ireturn, 1) := by decide +kernel
theorem zd_Mod_from_17 : decode zb_Mod_from 17 = .ok (.iconst 0, 1) := by decide +kernel
theorem zd_Mod_from_18 : decode zb_Mod_from 18 = .ok (.istore_n 3, 1) := by decide +kernel
theorem zd_Mod_from_19 : decode zb_Mod_from 19 = .ok (.iconst 0, 1) := by decide +kernel
theorem zd_Mod_from_20 : decode zb_Mod_from 20 = .ok (.istore 4, 2) := by decide +kernel
theorem zd_Mod_from_22 : decode zb_Mod_from 22 = .ok (.iload 4, 2) := by decide +kernel
theorem zd_Mod_from_24 : decode zb_Mod_from 24 = .ok (.bipush 24, 2) := by decide +kernel
theorem zd_Mod_from_26 : decode zb_Mod_from 26 = .ok (.if_icmp .ge 35, 3) := by decide +kernel
theorem zd_Mod_from_29 : decode zb_Mod_from 29 = .ok (.iload_n 3, 1) := by decide +kernel
theorem zd_Mod_from_30 : decode zb_Mod_from 30 = .ok (.aload_n 0, 1) := by decide +kernel
theorem zd_Mod_from_31 : decode zb_Mod_from 31 = .ok (.iload 4, 2) := by decide +kernel
theorem zd_Mod_from_33 : decode zb_Mod_from 33 = .ok (.iload_n 2, 1) := by decide +kernel
theorem zd_Mod_from_34 : decode zb_Mod_from 34 = .ok (.iconst 0, 1) := by decide +kernel
theorem zd_Mod_from_35 : decode zb_Mod_from 35 = .ok (.invokevirtual 189, 3) := by decide +kernel
theorem zd_Mod_from_38 : decode zb_Mod_from 38 = .ok (.iload_n 1, 1) := by decide +kernel
theorem zd_Mod_from_39 : decode zb_Mod_from 39 = .ok (.invokestatic 175, 3) := by decide +kernel
theorem zd_Mod_from_42 : decode zb_Mod_from 42 = .ok (.ifCond .eq 10, 3) := by decide +kernel
theorem zd_Mod_from_45 : decode zb_Mod_from 45 = .ok (.iconst 1, 1) := by decide +kernel
theorem zd_Mod_from_46 : decode zb_Mod_from 46 = .ok (.iload 4, 2) := by decide +kernel
theorem zd_Mod_from_48 : decode zb_Mod_from 48 = .ok (.ishl, 1) := by decide +kernel
theorem zd_Mod_from_49 : decode zb_Mod_from 49 = .ok (.goto 4, 3) := by decide +kernel
theorem zd_Mod_from_52 : decode zb_Mod_from 52 = .ok (.iconst 0, 1) := by decide +kernel
theorem zd_Mod_from_53 : decode zb_Mod_from 53 = .ok (.ior, 1) := by decide +kernel
theorem zd_Mod_from_54 : decode zb_Mod_from 54 = .ok (.istore_n 3, 1) := by decide +kernel
theorem zd_Mod_from_55 : decode zb_Mod_from 55 = .ok (.iinc 4 1, 3) := by decide +kernel
theorem zd_Mod_from_58 : decode zb_Mod_from 58 = .ok (.goto (-36), 3) := by decide +kernel
theorem zd_Mod_from_61 : decode zb_Mod_from 61 = .ok (.iload_n 3, 1) := by decide +kernel
theorem zd_Mod_from_62 : decode zb_Mod_from 62 = .ok (.ireturn, 1) := by decide +kernel
set_option maxHeartbeats 4000000 in
theorem zl_Mod_from_L53 {p : Program} {l : Launch} {e : Env} {s : State} {m : MethodId} {args : Array Value} {below : List Frame} {meth : Method} {c : Code} {D : va_G} {cA : Nat → ClassId} {ad : Nat → Nat} {A : Nat → Prop} (B : zu_B p s m args c zb_Mod_from 5 "StonePostModel" D cA ad A) (hret : meth.sig.returnType = (some .int)) (hlk : meth.locks = false) {Y : LX} {res : Int32 × IX} {k22 : Int32 → Int32 → Int32 → Int32 → IX → Option (Int32 × IX)} (hk22 : ∀ (x1 : Int32) (x2 : Int32) (x3 : Int32) (x4 : Int32) (X : IX) (H : Heap) (locs : List Loc) (ls : Array Slot), va_P D zu_cl (zu_pic cA ad X Y) H → va_S A s.heap H locs → lv_has ls 5 [(0, .ref (ad 95)), (1, .int x1), (2, .int x2), (3, .int x3), (4, .int x4)] → k22 x1 x2 x3 x4 X = some res → W p l e zR_Mod_from s m args below meth c H locs 0 0 (MQ below (zu_Qi D cA ad A res.1 res.2 Y) args s 0 0 A) (F0 m 22 ls [])) (x1 : Int32) (x2 : Int32) (x4 : Int32) (y0 : Int32) (y1 : Int32) (X : IX) (H : Heap) (locs : List Loc) (ls : Array Slot) (hP : va_P D zu_cl (zu_pic cA ad X Y) H) (hS : va_S A s.heap H locs) (hl : lv_has ls 5 [(0, .ref (ad 95)), (1, .int x1), (2, .int x2), (4, .int x4)]) (hf : fn_Mod_from_L53 k22 x1 x2 x4 y0 y1 X = some res) : W p l e zR_Mod_from s m args below meth c H locs 0 0 (MQ below (zu_Qi D cA ad A res.1 res.2 Y) args s 0 0 A) (F0 m 53 ls [.int y0, .int y1]) := by
  obtain ⟨hx, hb, hml, hown, hts, hST⟩ := id B
  unfold fn_Mod_from_L53 at hf
  refine lv_ior hx hb zd_Mod_from_53 ?_
  refine zr_nxi hf (fun v14 hf => ?_)
  refine lv_istore_n (lv' := [(3, .int v14), (0, .ref (ad 95)), (1, .int x1), (2, .int x2), (4, .int x4)]) hx hb zd_Mod_from_54 rfl hl (by decide) rfl (fun ls hl => ?_)
  obtain ⟨v15, ev15, hf⟩ := zu_nx_e hf
  refine lv_iinc (v := v15) (lv' := [(4, .int v15), (3, .int v14), (0, .ref (ad 95)), (1, .int x1), (2, .int x2)]) hx hb zd_Mod_from_55 hl (k := 4) rfl (by rw [ev15]; rfl) (by decide) rfl (fun ls hl => ?_)
  clear ev15
  refine lv_goto (tgt := 22) hx hb zd_Mod_from_58 (by decide) ?_
  exact hk22 x1 x2 v14 v15 X _ _ _ hP hS (lv_sub hl [2, 3, 4, 1, 0] rfl) hf
set_option maxHeartbeats 4000000 in
theorem zl_Mod_from_B22 {p : Program} {l : Launch} {e : Env} {s : State} {m : MethodId} {args : Array Value} {below : List Frame} {meth : Method} {c : Code} {D : va_G} {cA : Nat → ClassId} {ad : Nat → Nat} {A : Nat → Prop} (B : zu_B p s m args c zb_Mod_from 5 "StonePostModel" D cA ad A) (hret : meth.sig.returnType = (some .int)) (hlk : meth.locks = false) {Y : LX} {res : Int32 × IX} {k22 : Int32 → Int32 → Int32 → Int32 → IX → Option (Int32 × IX)} (hk22 : ∀ (x1 : Int32) (x2 : Int32) (x3 : Int32) (x4 : Int32) (X : IX) (H : Heap) (locs : List Loc) (ls : Array Slot), va_P D zu_cl (zu_pic cA ad X Y) H → va_S A s.heap H locs → lv_has ls 5 [(0, .ref (ad 95)), (1, .int x1), (2, .int x2), (3, .int x3), (4, .int x4)] → k22 x1 x2 x3 x4 X = some res → W p l e zR_Mod_from s m args below meth c H locs 0 0 (MQ below (zu_Qi D cA ad A res.1 res.2 Y) args s 0 0 A) (F0 m 22 ls [])) (x1 : Int32) (x2 : Int32) (x3 : Int32) (x4 : Int32) (X : IX) (H : Heap) (locs : List Loc) (ls : Array Slot) (hP : va_P D zu_cl (zu_pic cA ad X Y) H) (hS : va_S A s.heap H locs) (hl : lv_has ls 5 [(0, .ref (ad 95)), (1, .int x1), (2, .int x2), (3, .int x3), (4, .int x4)]) (hf : fn_Mod_from_B22 k22 x1 x2 x3 x4 X = some res) : W p l e zR_Mod_from s m args below meth c H locs 0 0 (MQ below (zu_Qi D cA ad A res.1 res.2 Y) args s 0 0 A) (F0 m 22 ls []) := by
  obtain ⟨hx, hb, hml, hown, hts, hST⟩ := id B
  unfold fn_Mod_from_B22 at hf
  refine lv_iload hx hb zd_Mod_from_22 (lv_at hl 4 rfl) ?_
  refine lv_bipush (v := 24) hx hb zd_Mod_from_24 (by decide) ?_
  refine lv_icmp_ge (tgt := 61) hx hb zd_Mod_from_26 (by decide) (fun c7 => ?_) (fun c7 => ?_)
  · have hf := zu_t c7 hf
    refine lv_iload_n hx hb zd_Mod_from_61 rfl (lv_at hl 3 rfl) ?_
    obtain rfl := Option.some.inj hf
    exact zr_iret hx hb hret hlk hP hS zd_Mod_from_62
  · have hf := zu_f c7 hf
    refine lv_iload_n hx hb zd_Mod_from_29 rfl (lv_at hl 3 rfl) ?_
    refine lv_aload_n hx hb zd_Mod_from_30 rfl (lv_at hl 0 rfl) ?_
    refine lv_iload hx hb zd_Mod_from_31 (lv_at hl 4 rfl) ?_
    refine lv_iload_n hx hb zd_Mod_from_33 rfl (lv_at hl 2 rfl) ?_
    refine lv_iconst (v := 0) hx hb zd_Mod_from_34 (by decide) ?_
    obtain ⟨v8, X9, hq10, hf⟩ := zu_b2_e hf
    refine zw_Mod_mayBe (rest := [.int x3]) B hP hS hq10 zq_1136 (Nat.le_of_ble_eq_true rfl) (Nat.le_of_ble_eq_true rfl) hl.1 rfl (Nat.le_of_ble_eq_true rfl) zd_Mod_from_35 (by decide) (fun H locs hP hS => ?_)
    clear hq10
    refine lv_iload_n hx hb zd_Mod_from_38 rfl (lv_at hl 1 rfl) ?_
    obtain ⟨v11, hq12, hf⟩ := zu_b1_e hf
    refine zw_Mod_has (rest := [.int x3]) B hP hS hq12 zq_1117 (Nat.le_of_ble_eq_true rfl) (Nat.le_of_ble_eq_true rfl) hl.1 rfl (Nat.le_of_ble_eq_true rfl) zd_Mod_from_39 (by decide) (fun H locs hP hS => ?_)
    clear hq12
    refine lv_if_eq (tgt := 52) hx hb zd_Mod_from_42 (by decide) (fun c13 => ?_) (fun c13 => ?_)
    · have hf := zu_t c13 hf
      refine lv_iconst (v := 0) hx hb zd_Mod_from_52 (by decide) ?_
      exact zl_Mod_from_L53 B hret hlk hk22 x1 x2 x4 (0 : Int32) x3 X9 _ _ _ hP hS (lv_sub hl [0, 1, 2, 4] rfl) hf
    · have hf := zu_f c13 hf
      refine lv_iconst (v := 1) hx hb zd_Mod_from_45 (by decide) ?_
      refine lv_iload hx hb zd_Mod_from_46 (lv_at hl 4 rfl) ?_
      refine lv_ishl hx hb zd_Mod_from_48 ?_
      refine lv_goto (tgt := 53) hx hb zd_Mod_from_49 (by decide) ?_
      exact zl_Mod_from_L53 B hret hlk hk22 x1 x2 x4 ((1 : Int32) <<< (x4 &&& 31)) x3 X9 _ _ _ hP hS (lv_sub hl [0, 1, 2, 4] rfl) hf
theorem zl_Mod_from_L22 {p : Program} {l : Launch} {e : Env} {s : State} {m : MethodId} {args : Array Value} {below : List Frame} {meth : Method} {c : Code} {D : va_G} {cA : Nat → ClassId} {ad : Nat → Nat} {A : Nat → Prop} (B : zu_B p s m args c zb_Mod_from 5 "StonePostModel" D cA ad A) (hret : meth.sig.returnType = (some .int)) (hlk : meth.locks = false) {Y : LX} {res : Int32 × IX} : ∀ (n : Nat) (x1 : Int32) (x2 : Int32) (x3 : Int32) (x4 : Int32) (X : IX) (H : Heap) (locs : List Loc) (ls : Array Slot), va_P D zu_cl (zu_pic cA ad X Y) H → va_S A s.heap H locs → lv_has ls 5 [(0, .ref (ad 95)), (1, .int x1), (2, .int x2), (3, .int x3), (4, .int x4)] → fn_Mod_from_L22 n x1 x2 x3 x4 X = some res → W p l e zR_Mod_from s m args below meth c H locs 0 0 (MQ below (zu_Qi D cA ad A res.1 res.2 Y) args s 0 0 A) (F0 m 22 ls []) := by
  intro n
  induction n with
  | zero =>
    intro x1 x2 x3 x4 X H locs ls hP hS hl hf
    exact (Option.some_ne_none _ hf.symm).elim
  | succ n ih =>
    intro x1 x2 x3 x4 X H locs ls hP hS hl hf
    exact zl_Mod_from_B22 B hret hlk ih x1 x2 x3 x4 X H locs ls hP hS hl  hf
set_option maxHeartbeats 4000000 in
theorem zl_Mod_from {p : Program} {l : Launch} {e : Env} {s : State} {m : MethodId} {args : Array Value} {below : List Frame} {meth : Method} {c : Code} {D : va_G} {cA : Nat → ClassId} {ad : Nat → Nat} {A : Nat → Prop} (B : zu_B p s m args c zb_Mod_from 5 "StonePostModel" D cA ad A) (hret : meth.sig.returnType = (some .int)) (hlk : meth.locks = false) {Y : LX} {res : Int32 × IX} {a1 : Int32} {a2 : Int32} {X : IX} (H : Heap) (locs : List Loc) (ls : Array Slot) (hP : va_P D zu_cl (zu_pic cA ad X Y) H) (hS : va_S A s.heap H locs) (hl : lv_has ls 5 [(0, .ref (ad 95)), (1, .int a1), (2, .int a2)]) (hf : fn_Mod_from a1 a2 X = some res) : W p l e zR_Mod_from s m args below meth c H locs 0 0 (MQ below (zu_Qi D cA ad A res.1 res.2 Y) args s 0 0 A) (F0 m 0 ls []) := by
  obtain ⟨hx, hb, hml, hown, hts, hST⟩ := id B
  unfold fn_Mod_from at hf
  refine lv_iload_n hx hb zd_Mod_from_0 rfl (lv_at hl 1 rfl) ?_
  refine lv_iload_n hx hb zd_Mod_from_1 rfl (lv_at hl 2 rfl) ?_
  refine lv_bipush (v := 20) hx hb zd_Mod_from_2 (by decide) ?_
  obtain ⟨v1, hq2, hf⟩ := zu_b1_e hf
  refine zw_Mod_isOdds (rest := []) B hP hS hq2 zq_1094 (Nat.le_of_ble_eq_true rfl) (Nat.le_of_ble_eq_true rfl) hl.1 rfl (Nat.le_of_ble_eq_true rfl) zd_Mod_from_4 (by decide) (fun H locs hP hS => ?_)
  clear hq2
  refine lv_if_ne (tgt := 17) hx hb zd_Mod_from_7 (by decide) (fun c3 => ?_) (fun c3 => ?_)
  · have hf := zu_f c3 hf
    refine lv_iconst (v := 0) hx hb zd_Mod_from_17 (by decide) ?_
    refine lv_istore_n (lv' := [(3, .int (0 : Int32)), (0, .ref (ad 95)), (1, .int a1), (2, .int a2)]) hx hb zd_Mod_from_18 rfl hl (by decide) rfl (fun ls hl => ?_)
    refine lv_iconst (v := 0) hx hb zd_Mod_from_19 (by decide) ?_
    refine lv_istore (lv' := [(4, .int (0 : Int32)), (3, .int (0 : Int32)), (0, .ref (ad 95)), (1, .int a1), (2, .int a2)]) hx hb zd_Mod_from_20 hl (by decide) rfl (fun ls hl => ?_)
    exact zl_Mod_from_L22 B hret hlk 400 a1 a2 (0 : Int32) (0 : Int32) X _ _ _ hP hS (lv_sub hl [2, 3, 4, 1, 0] rfl) hf
  · have hf := zu_t c3 hf
    refine lv_aload_n hx hb zd_Mod_from_10 rfl (lv_at hl 0 rfl) ?_
    refine lv_ldc (v := -1000001) hx hb hown (hts _ zq_943) zd_Mod_from_11 ?_
    obtain ⟨v4, X5, hq6, hf⟩ := zu_b2_e hf
    refine zw_Mod_finds (rest := []) B hP hS hq6 zq_944 (Nat.le_of_ble_eq_true rfl) (Nat.le_of_ble_eq_true rfl) hl.1 rfl (Nat.le_of_ble_eq_true rfl) zd_Mod_from_13 (by decide) (fun H locs hP hS => ?_)
    clear hq6
    obtain rfl := Option.some.inj hf
    exact zr_iret hx hb hret hlk hP hS zd_Mod_from_16
theorem zC_Mod_from (l : Launch) {D : va_G} {cA : Nat → ClassId} {ad : Nat → Nat} {A : Nat → Prop} {a1 : Int32} {a2 : Int32} {X : IX} {Y : LX} {res : Int32 × IX} (hf : fn_Mod_from a1 a2 X = some res) : Met l zm_Mod_from (zu_ws zm_Mod_from zb_Mod_from 5 (some .int)) zR_Mod_from (va_Pc [.ref (ad 95), .int a1, .int a2] (zu_Pre D cA ad A X Y)) (zu_Qi D cA ad A res.1 res.2 Y) 0 0 A := by
  refine Met.ofW (cc := zb_Mod_from) (maxL := 5) (ret := (some .int)) (by decide +kernel) rfl ?_
  intro p e s m args below meth c s₁ B0 hml hv
  obtain ⟨rfl, hP, hST⟩ := hv
  have B : zu_B p s m _ c zb_Mod_from 5 "StonePostModel" D cA ad A := ⟨B0.exec, B0.bytes, hml, findClass_of_methodNamed B0.named, (fun w hw => atoms_spec (ws := zu_ws zm_Mod_from zb_Mod_from 5 (some .int)) B0.pre w (List.mem_cons_of_mem _ hw)), hST⟩
  have hl := lv_entry ([.ref (ad 95), .int a1, .int a2]) (n := 5) (Nat.le_of_ble_eq_true rfl)
  rw [lg_entry_eq]
  generalize (lg_sl ([.ref (ad 95), .int a1, .int a2]) ++ List.replicate (5 - (lg_sl ([.ref (ad 95), .int a1, .int a2])).length) Slot.unset).toArray = ls at hl ⊢
  exact zl_Mod_from B B0.returns B0.notSynchronized s.heap [] ls hP va_S.rf hl  hf
theorem zw_Mod_from {p : Program} {l : Launch} {e : Env} {R : Room} {s : State} {m : MethodId} {args : Array Value} {below : List Frame} {meth : Method} {c : Code} {H : Heap} {locs : List Loc} {cells slots : Nat} {Q : State → Prop} {cc : ByteArray} {pc nL : Nat} {ls : Array Slot} {rest st0 : List Value} {D : va_G} {cA : Nat → ClassId} {ad : Nat → Nat} {A : Nat → Prop} {X : IX} {Y : LX} {own : String} {index : Nat} {a1 : Int32} {a2 : Int32} {v1 : Int32} {X1 : IX} (B : zu_B p s m args c cc nL own D cA ad A) (hP : va_P D zu_cl (zu_pic cA ad X Y) H) (hS : va_S A s.heap H locs) (hq : fn_Mod_from a1 a2 X = some (v1, X1)) (m1 : Cond.methodLink own index zm_Mod_from ∈ zu_TB) (hR1 : 8 + 1 ≤ R.frames) (hR2 : 8 + (5 + 11) + 193 ≤ R.locals) (hsz : ls.size = nL) (hst : st0 = .int a2 :: .int a1 :: .ref (ad 95) :: rest) (hw : (rest.map fun v => v.category).sum ≤ 8) (hdg : decode cc pc = .ok (.invokevirtual index, 3)) (h00 : cells ≤ R.cells ∧ slots ≤ R.slots) (kk : ∀ (H1 : Heap) (locs1 : List Loc), va_P D zu_cl (zu_pic cA ad X1 Y) H1 → va_S A s.heap H1 locs1 → W p l e R s m args below meth c H1 locs1 cells slots Q (F0 m (pc + 3) ls (.int v1 :: rest))) : W p l e R s m args below meth c H locs cells slots Q (F0 m pc ls st0) := by
  subst hst
  exact zr_cVi (As := [.int a1, .int a2]) (rest := rest) (n := 2) (C := "StonePostModel") (T := zt_Mod) (N := 23) B hP hS (zC_Mod_from l  hq) (K := 7) rfl (by decide) (by decide) rfl rfl m1 zq_1210 zq_1211 zq_8 zq_1212 (by decide +kernel) ⟨hR1, hR2⟩ rfl rfl rfl hsz rfl hw hdg h00 kk
abbrev zR_Mod_thief : Room := { frames := 8, cells := 0, slots := 0, locals := 193 }
theorem zd_Mod_thief_0 : decode zb_Mod_thief 0 = .ok (.iload_n 1, 1) := by decide +kernel
theorem zd_Mod_thief_1 : decode zb_Mod_thief 1 = .ok (.invokestatic 58, 3) := by decide +kernel
theorem zd_Mod_thief_4 : decode zb_Mod_thief 4 = .ok (.ifCond .eq 15, 3) := by decide +kernel
theorem zd_Mod_thief_7 : decode zb_Mod_thief 7 = .ok (.iload_n 2, 1) := by decide +kernel
theorem zd_Mod_thief_8 : decode zb_Mod_thief 8 = .ok (.i2l, 1) := by decide +kernel
theorem zd_Mod_thief_9 : decode zb_Mod_thief 9 = .ok (.lconst 1, 1) := by decide +kernel
theorem zd_Mod_thief_10 : decode zb_Mod_thief 10 = .ok (.ldc2_w 225, 3) := by decide +kernel
theorem zd_Mod_thief_13 : decode zb_Mod_thief 13 = .ok (.invokestatic 53, 3) := by decide +kernel
theorem zd_Mod_thief_16 : decode zb_Mod_thief 16 = .ok (.ifCond .ne 10, 3) := by decide +kernel
theorem zd_Mod_thief_19 : decode zb_Mod_thief 19 = .ok (.aload_n 0, 1) := by decide +kernel
theorem zd_Mod_thief_20 : decode zb_Mod_thief 20 = .ok (.ldc 50, 2) := by decide +kernel
theorem zd_Mod_thief_22 : decode zb_Mod_thief 22 = .ok (.invokevirtual 64, 3) := by decide +kernel
theorem zd_Mod_thief_25 : decode zb_Mod_thief 25 = .ok (.ireturn, 1) := by decide +kernel
theorem zd_Mod_thief_26 : decode zb_Mod_thief 26 = .ok (.iconst 0, 1) := by decide +kernel
theorem zd_Mod_thief_27 : decode zb_Mod_thief 27 = .ok (.istore_n 3, 1) := by decide +kernel
theorem zd_Mod_thief_28 : decode zb_Mod_thief 28 = .ok (.iconst 0, 1) := by decide +kernel
theorem zd_Mod_thief_29 : decode zb_Mod_thief 29 = .ok (.istore 4, 2) := by decide +kernel
theorem zd_Mod_thief_31 : decode zb_Mod_thief 31 = .ok (.iload 4, 2) := by decide +kernel
theorem zd_Mod_thief_33 : decode zb_Mod_thief 33 = .ok (.bipush 24, 2) := by decide +kernel
theorem zd_Mod_thief_35 : decode zb_Mod_thief 35 = .ok (.if_icmp .ge 71, 3) := by decide +kernel
theorem zd_Mod_thief_38 : decode zb_Mod_thief 38 = .ok (.iload 4, 2) := by decide +kernel
theorem zd_Mod_thief_40 : decode zb_Mod_thief 40 = .ok (.aload_n 0, 1) := by decide +kernel
theorem zd_Mod_thief_41 : decode zb_Mod_thief 41 = .ok (.getfield 7, 3) := by decide +kernel
theorem zd_Mod_thief_44 : decode zb_Mod_thief 44 = .ok (.iconst 3, 1) := by decide +kernel
theorem zd_Mod_thief_45 : decode zb_Mod_thief 45 = .ok (.iaload, 1) := by decide +kernel
theorem zd_Mod_thief_46 : decode zb_Mod_thief 46 = .ok (.if_icmp .eq 13, 3) := by decide +kernel
theorem zd_Mod_thief_49 : decode zb_Mod_thief 49 = .ok (.iload 4, 2) := by decide +kernel
theorem zd_Mod_thief_51 : decode zb_Mod_thief 51 = .ok (.iload_n 1, 1) := by decide +kernel
theorem zd_Mod_thief_52 : decode zb_Mod_thief 52 = .ok (.if_icmp .eq 7, 3) := by decide +kernel
theorem zd_Mod_thief_55 : decode zb_Mod_thief 55 = .ok (.iconst 1, 1) := by decide +kernel
theorem zd_Mod_thief_56 : decode zb_Mod_thief 56 = .ok (.goto 4, 3) := by decide +kernel
theorem zd_Mod_thief_59 : decode zb_Mod_thief 59 = .ok (.iconst 0, 1) := by decide +kernel
theorem zd_Mod_thief_60 : decode zb_Mod_thief 60 = .ok (.istore 5, 2) := by decide +kernel
theorem zd_Mod_thief_62 : decode zb_Mod_thief 62 = .ok (.iload_n 3, 1) := by decide +kernel
theorem zd_Mod_thief_63 : decode zb_Mod_thief 63 = .ok (.iload 5, 2) := by decide +kernel
theorem zd_Mod_thief_65 : decode zb_Mod_thief 65 = .ok (.ifCond .eq 32, 3) := by decide +kernel
theorem zd_Mod_thief_68 : decode zb_Mod_thief 68 = .ok (.aload_n 0, 1) := by decide +kernel
theorem zd_Mod_thief_69 : decode zb_Mod_thief 69 = .ok (.iload_n 1, 1) := by decide +kernel
theorem zd_Mod_thief_70 : decode zb_Mod_thief 70 = .ok (.iload_n 2, 1) := by decide +kernel
theorem zd_Mod_thief_71 : decode zb_Mod_thief 71 = .ok (.iconst 1, 1) := by decide +kernel
theorem zd_Mod_thief_72 : decode zb_Mod_thief 72 = .ok (.iload 4, 2) := by decide +kernel
theorem zd_Mod_thief_74 : decode zb_Mod_thief 74 = .ok (.ishl, 1) := by decide +kernel
theorem zd_Mod_thief_75 : decode zb_Mod_thief 75 = .ok (.invokevirtual 189, 3) := by decide +kernel
theorem zd_Mod_thief_78 : decode zb_Mod_thief 78 = .ok (.aload_n 0, 1) := by decide +kernel
theorem zd_Mod_thief_79 : decode zb_Mod_thief 79 = .ok (.getfield 7, 3) := by decide +kernel
theorem zd_Mod_thief_82 : decode zb_Mod_thief 82 = .ok (.iconst 3, 1) := by decide +kernel
theorem zd_Mod_thief_83 : decode zb_Mod_thief 83 = .ok (.iaload, 1) := by decide +kernel
theorem zd_Mod_thief_84 : decode zb_Mod_thief 84 = .ok (.invokestatic 175, 3) := by decide +kernel
theorem zd_Mod_thief_87 : decode zb_Mod_thief 87 = .ok (.ifCond .ne 10, 3) := by decide +kernel
theorem zd_Mod_thief_90 : decode zb_Mod_thief 90 = .ok (.iconst 1, 1) := by decide +kernel
theorem zd_Mod_thief_91 : decode zb_Mod_thief 91 = .ok (.iload 4, 2) := by decide +kernel
theorem zd_Mod_thief_93 : decode zb_Mod_thief 93 = .ok (.ishl, 1) := by decide +kernel
theorem zd_Mod_thief_94 : decode zb_Mod_thief 94 = .ok (.goto 4, 3) := by decide +kernel
theorem zd_Mod_thief_97 : decode zb_Mod_thief 97 = .ok (.iconst 0, 1) := by decide +kernel
theorem zd_Mod_thief_98 : decode zb_Mod_thief 98 = .ok (.ior, 1) := by decide +kernel
theorem zd_Mod_thief_99 : decode zb_Mod_thief 99 = .ok (.istore_n 3, 1) := by decide +kernel
theorem zd_Mod_thief_100 : decode zb_Mod_thief 100 = .ok (.iinc 4 1, 3) := by decide +kernel
theorem zd_Mod_thief_103 : decode zb_Mod_thief 103 = .ok (.goto (-72), 3) := by decide +kernel
theorem zd_Mod_thief_106 : decode zb_Mod_thief 106 = .ok (.iload_n 3, 1) := by decide +kernel
theorem zd_Mod_thief_107 : decode zb_Mod_thief 107 = .ok (.ireturn, 1) := by decide +kernel
set_option maxHeartbeats 4000000 in
theorem zl_Mod_thief_L98 {p : Program} {l : Launch} {e : Env} {s : State} {m : MethodId} {args : Array Value} {below : List Frame} {meth : Method} {c : Code} {D : va_G} {cA : Nat → ClassId} {ad : Nat → Nat} {A : Nat → Prop} (B : zu_B p s m args c zb_Mod_thief 6 "StonePostModel" D cA ad A) (hret : meth.sig.returnType = (some .int)) (hlk : meth.locks = false) {Y : LX} {res : Int32 × IX} {k31 : Int32 → Int32 → Int32 → Int32 → IX → Option (Int32 × IX)} (hk31 : ∀ (x1 : Int32) (x2 : Int32) (x3 : Int32) (x4 : Int32) (X : IX) (H : Heap) (locs : List Loc) (ls : Array Slot), va_P D zu_cl (zu_pic cA ad X Y) H → va_S A s.heap H locs → lv_has ls 6 [(0, .ref (ad 95)), (1, .int x1), (2, .int x2), (3, .int x3), (4, .int x4)] → k31 x1 x2 x3 x4 X = some res → W p l e zR_Mod_thief s m args below meth c H locs 0 0 (MQ below (zu_Qi D cA ad A res.1 res.2 Y) args s 0 0 A) (F0 m 31 ls [])) (x1 : Int32) (x2 : Int32) (x4 : Int32) (y0 : Int32) (y1 : Int32) (X : IX) (H : Heap) (locs : List Loc) (ls : Array Slot) (hP : va_P D zu_cl (zu_pic cA ad X Y) H) (hS : va_S A s.heap H locs) (hl : lv_has ls 6 [(0, .ref (ad 95)), (1, .int x1), (2, .int x2), (4, .int x4)]) (hf : fn_Mod_thief_L98 k31 x1 x2 x4 y0 y1 X = some res) : W p l e zR_Mod_thief s m args below meth c H locs 0 0 (MQ below (zu_Qi D cA ad A res.1 res.2 Y) args s 0 0 A) (F0 m 98 ls [.int y0, .int y1]) := by
  obtain ⟨hx, hb, hml, hown, hts, hST⟩ := id B
  unfold fn_Mod_thief_L98 at hf
  refine lv_ior hx hb zd_Mod_thief_98 ?_
  refine zr_nxi hf (fun v20 hf => ?_)
  refine lv_istore_n (lv' := [(3, .int v20), (0, .ref (ad 95)), (1, .int x1), (2, .int x2), (4, .int x4)]) hx hb zd_Mod_thief_99 rfl hl (by decide) rfl (fun ls hl => ?_)
  obtain ⟨v21, ev21, hf⟩ := zu_nx_e hf
  refine lv_iinc (v := v21) (lv' := [(4, .int v21), (3, .int v20), (0, .ref (ad 95)), (1, .int x1), (2, .int x2)]) hx hb zd_Mod_thief_100 hl (k := 4) rfl (by rw [ev21]; rfl) (by decide) rfl (fun ls hl => ?_)
  clear ev21
  refine lv_goto (tgt := 31) hx hb zd_Mod_thief_103 (by decide) ?_
  exact hk31 x1 x2 v20 v21 X _ _ _ hP hS (lv_sub hl [2, 3, 4, 1, 0] rfl) hf
set_option maxHeartbeats 4000000 in
theorem zl_Mod_thief_L97 {p : Program} {l : Launch} {e : Env} {s : State} {m : MethodId} {args : Array Value} {below : List Frame} {meth : Method} {c : Code} {D : va_G} {cA : Nat → ClassId} {ad : Nat → Nat} {A : Nat → Prop} (B : zu_B p s m args c zb_Mod_thief 6 "StonePostModel" D cA ad A) (hret : meth.sig.returnType = (some .int)) (hlk : meth.locks = false) {Y : LX} {res : Int32 × IX} {k31 : Int32 → Int32 → Int32 → Int32 → IX → Option (Int32 × IX)} (hk31 : ∀ (x1 : Int32) (x2 : Int32) (x3 : Int32) (x4 : Int32) (X : IX) (H : Heap) (locs : List Loc) (ls : Array Slot), va_P D zu_cl (zu_pic cA ad X Y) H → va_S A s.heap H locs → lv_has ls 6 [(0, .ref (ad 95)), (1, .int x1), (2, .int x2), (3, .int x3), (4, .int x4)] → k31 x1 x2 x3 x4 X = some res → W p l e zR_Mod_thief s m args below meth c H locs 0 0 (MQ below (zu_Qi D cA ad A res.1 res.2 Y) args s 0 0 A) (F0 m 31 ls [])) (x1 : Int32) (x2 : Int32) (x4 : Int32) (y0 : Int32) (X : IX) (H : Heap) (locs : List Loc) (ls : Array Slot) (hP : va_P D zu_cl (zu_pic cA ad X Y) H) (hS : va_S A s.heap H locs) (hl : lv_has ls 6 [(0, .ref (ad 95)), (1, .int x1), (2, .int x2), (4, .int x4)]) (hf : fn_Mod_thief_L97 k31 x1 x2 x4 y0 X = some res) : W p l e zR_Mod_thief s m args below meth c H locs 0 0 (MQ below (zu_Qi D cA ad A res.1 res.2 Y) args s 0 0 A) (F0 m 97 ls [.int y0]) := by
  obtain ⟨hx, hb, hml, hown, hts, hST⟩ := id B
  unfold fn_Mod_thief_L97 at hf
  refine lv_iconst (v := 0) hx hb zd_Mod_thief_97 (by decide) ?_
  exact zl_Mod_thief_L98 B hret hlk hk31 x1 x2 x4 (0 : Int32) y0 X _ _ _ hP hS (lv_sub hl [0, 1, 2, 3] rfl) hf
set_option maxHeartbeats 4000000 in
theorem zl_Mod_thief_L60 {p : Program} {l : Launch} {e : Env} {s : State} {m : MethodId} {args : Array Value} {below : List Frame} {meth : Method} {c : Code} {D : va_G} {cA : Nat → ClassId} {ad : Nat → Nat} {A : Nat → Prop} (B : zu_B p s m args c zb_Mod_thief 6 "StonePostModel" D cA ad A) (hret : meth.sig.returnType = (some .int)) (hlk : meth.locks = false) {Y : LX} {res : Int32 × IX} {k31 : Int32 → Int32 → Int32 → Int32 → IX → Option (Int32 × IX)} (hk31 : ∀ (x1 : Int32) (x2 : Int32) (x3 : Int32) (x4 : Int32) (X : IX) (H : Heap) (locs : List Loc) (ls : Array Slot), va_P D zu_cl (zu_pic cA ad X Y) H → va_S A s.heap H locs → lv_has ls 6 [(0, .ref (ad 95)), (1, .int x1), (2, .int x2), (3, .int x3), (4, .int x4)] → k31 x1 x2 x3 x4 X = some res → W p l e zR_Mod_thief s m args below meth c H locs 0 0 (MQ below (zu_Qi D cA ad A res.1 res.2 Y) args s 0 0 A) (F0 m 31 ls [])) (x1 : Int32) (x2 : Int32) (x3 : Int32) (x4 : Int32) (y0 : Int32) (X : IX) (H : Heap) (locs : List Loc) (ls : Array Slot) (hP : va_P D zu_cl (zu_pic cA ad X Y) H) (hS : va_S A s.heap H locs) (hl : lv_has ls 6 [(0, .ref (ad 95)), (1, .int x1), (2, .int x2), (3, .int x3), (4, .int x4)]) (hf : fn_Mod_thief_L60 k31 x1 x2 x3 x4 y0 X = some res) : W p l e zR_Mod_thief s m args below meth c H locs 0 0 (MQ below (zu_Qi D cA ad A res.1 res.2 Y) args s 0 0 A) (F0 m 60 ls [.int y0]) := by
  obtain ⟨hx, hb, hml, hown, hts, hST⟩ := id B
  unfold fn_Mod_thief_L60 at hf
  refine lv_istore (lv' := [(5, .int y0), (0, .ref (ad 95)), (1, .int x1), (2, .int x2), (3, .int x3), (4, .int x4)]) hx hb zd_Mod_thief_60 hl (by decide) rfl (fun ls hl => ?_)
  refine lv_iload_n hx hb zd_Mod_thief_62 rfl (lv_at hl 4 rfl) ?_
  refine lv_iload hx hb zd_Mod_thief_63 (lv_at hl 0 rfl) ?_
  refine lv_if_eq (tgt := 97) hx hb zd_Mod_thief_65 (by decide) (fun c13 => ?_) (fun c13 => ?_)
  · have hf := zu_t c13 hf
    exact zl_Mod_thief_L97 B hret hlk hk31 x1 x2 x4 x3 X _ _ _ hP hS (lv_sub hl [1, 2, 3, 5] rfl) hf
  · have hf := zu_f c13 hf
    refine lv_aload_n hx hb zd_Mod_thief_68 rfl (lv_at hl 1 rfl) ?_
    refine lv_iload_n hx hb zd_Mod_thief_69 rfl (lv_at hl 2 rfl) ?_
    refine lv_iload_n hx hb zd_Mod_thief_70 rfl (lv_at hl 3 rfl) ?_
    refine lv_iconst (v := 1) hx hb zd_Mod_thief_71 (by decide) ?_
    refine lv_iload hx hb zd_Mod_thief_72 (lv_at hl 5 rfl) ?_
    refine lv_ishl hx hb zd_Mod_thief_74 ?_
    obtain ⟨v14, X15, hq16, hf⟩ := zu_b2_e hf
    refine zw_Mod_mayBe (rest := [.int x3]) B hP hS hq16 zq_1136 (Nat.le_of_ble_eq_true rfl) (Nat.le_of_ble_eq_true rfl) hl.1 rfl (Nat.le_of_ble_eq_true rfl) zd_Mod_thief_75 (by decide) (fun H locs hP hS => ?_)
    clear hq16
    refine lv_aload_n hx hb zd_Mod_thief_78 rfl (lv_at hl 1 rfl) ?_
    refine zg_Mod_s B hP rfl zq_861 zd_Mod_thief_79 ?_
    refine lv_iconst (v := 3) hx hb zd_Mod_thief_82 (by decide) ?_
    refine zr_iald (j := 3) (by decide) B hP rfl (by decide) rfl (by decide) zd_Mod_thief_83 ?_
    obtain ⟨v17, hq18, hf⟩ := zu_b1_e hf
    refine zw_Mod_has (rest := [.int x3]) B hP hS hq18 zq_1117 (Nat.le_of_ble_eq_true rfl) (Nat.le_of_ble_eq_true rfl) hl.1 rfl (Nat.le_of_ble_eq_true rfl) zd_Mod_thief_84 (by decide) (fun H locs hP hS => ?_)
    clear hq18
    refine lv_if_ne (tgt := 97) hx hb zd_Mod_thief_87 (by decide) (fun c19 => ?_) (fun c19 => ?_)
    · have hf := zu_f c19 hf
      exact zl_Mod_thief_L97 B hret hlk hk31 x1 x2 x4 x3 X15 _ _ _ hP hS (lv_sub hl [1, 2, 3, 5] rfl) hf
    · have hf := zu_t c19 hf
      refine lv_iconst (v := 1) hx hb zd_Mod_thief_90 (by decide) ?_
      refine lv_iload hx hb zd_Mod_thief_91 (lv_at hl 5 rfl) ?_
      refine lv_ishl hx hb zd_Mod_thief_93 ?_
      refine lv_goto (tgt := 98) hx hb zd_Mod_thief_94 (by decide) ?_
      exact zl_Mod_thief_L98 B hret hlk hk31 x1 x2 x4 ((1 : Int32) <<< (x4 &&& 31)) x3 X15 _ _ _ hP hS (lv_sub hl [1, 2, 3, 5] rfl) hf
set_option maxHeartbeats 4000000 in
theorem zl_Mod_thief_L59 {p : Program} {l : Launch} {e : Env} {s : State} {m : MethodId} {args : Array Value} {below : List Frame} {meth : Method} {c : Code} {D : va_G} {cA : Nat → ClassId} {ad : Nat → Nat} {A : Nat → Prop} (B : zu_B p s m args c zb_Mod_thief 6 "StonePostModel" D cA ad A) (hret : meth.sig.returnType = (some .int)) (hlk : meth.locks = false) {Y : LX} {res : Int32 × IX} {k31 : Int32 → Int32 → Int32 → Int32 → IX → Option (Int32 × IX)} (hk31 : ∀ (x1 : Int32) (x2 : Int32) (x3 : Int32) (x4 : Int32) (X : IX) (H : Heap) (locs : List Loc) (ls : Array Slot), va_P D zu_cl (zu_pic cA ad X Y) H → va_S A s.heap H locs → lv_has ls 6 [(0, .ref (ad 95)), (1, .int x1), (2, .int x2), (3, .int x3), (4, .int x4)] → k31 x1 x2 x3 x4 X = some res → W p l e zR_Mod_thief s m args below meth c H locs 0 0 (MQ below (zu_Qi D cA ad A res.1 res.2 Y) args s 0 0 A) (F0 m 31 ls [])) (x1 : Int32) (x2 : Int32) (x3 : Int32) (x4 : Int32) (X : IX) (H : Heap) (locs : List Loc) (ls : Array Slot) (hP : va_P D zu_cl (zu_pic cA ad X Y) H) (hS : va_S A s.heap H locs) (hl : lv_has ls 6 [(0, .ref (ad 95)), (1, .int x1), (2, .int x2), (3, .int x3), (4, .int x4)]) (hf : fn_Mod_thief_L59 k31 x1 x2 x3 x4 X = some res) : W p l e zR_Mod_thief s m args below meth c H locs 0 0 (MQ below (zu_Qi D cA ad A res.1 res.2 Y) args s 0 0 A) (F0 m 59 ls []) := by
  obtain ⟨hx, hb, hml, hown, hts, hST⟩ := id B
  unfold fn_Mod_thief_L59 at hf
  refine lv_iconst (v := 0) hx hb zd_Mod_thief_59 (by decide) ?_
  exact zl_Mod_thief_L60 B hret hlk hk31 x1 x2 x3 x4 (0 : Int32) X _ _ _ hP hS (lv_sub hl [0, 1, 2, 3, 4] rfl) hf
set_option maxHeartbeats 4000000 in
theorem zl_Mod_thief_B31 {p : Program} {l : Launch} {e : Env} {s : State} {m : MethodId} {args : Array Value} {below : List Frame} {meth : Method} {c : Code} {D : va_G} {cA : Nat → ClassId} {ad : Nat → Nat} {A : Nat → Prop} (B : zu_B p s m args c zb_Mod_thief 6 "StonePostModel" D cA ad A) (hret : meth.sig.returnType = (some .int)) (hlk : meth.locks = false) {Y : LX} {res : Int32 × IX} {k31 : Int32 → Int32 → Int32 → Int32 → IX → Option (Int32 × IX)} (hk31 : ∀ (x1 : Int32) (x2 : Int32) (x3 : Int32) (x4 : Int32) (X : IX) (H : Heap) (locs : List Loc) (ls : Array Slot), va_P D zu_cl (zu_pic cA ad X Y) H → va_S A s.heap H locs → lv_has ls 6 [(0, .ref (ad 95)), (1, .int x1), (2, .int x2), (3, .int x3), (4, .int x4)] → k31 x1 x2 x3 x4 X = some res → W p l e zR_Mod_thief s m args below meth c H locs 0 0 (MQ below (zu_Qi D cA ad A res.1 res.2 Y) args s 0 0 A) (F0 m 31 ls [])) (x1 : Int32) (x2 : Int32) (x3 : Int32) (x4 : Int32) (X : IX) (H : Heap) (locs : List Loc) (ls : Array Slot) (hP : va_P D zu_cl (zu_pic cA ad X Y) H) (hS : va_S A s.heap H locs) (hl : lv_has ls 6 [(0, .ref (ad 95)), (1, .int x1), (2, .int x2), (3, .int x3), (4, .int x4)]) (hf : fn_Mod_thief_B31 k31 x1 x2 x3 x4 X = some res) : W p l e zR_Mod_thief s m args below meth c H locs 0 0 (MQ below (zu_Qi D cA ad A res.1 res.2 Y) args s 0 0 A) (F0 m 31 ls []) := by
  obtain ⟨hx, hb, hml, hown, hts, hST⟩ := id B
  unfold fn_Mod_thief_B31 at hf
  refine lv_iload hx hb zd_Mod_thief_31 (lv_at hl 4 rfl) ?_
  refine lv_bipush (v := 24) hx hb zd_Mod_thief_33 (by decide) ?_
  refine lv_icmp_ge (tgt := 106) hx hb zd_Mod_thief_35 (by decide) (fun c10 => ?_) (fun c10 => ?_)
  · have hf := zu_t c10 hf
    refine lv_iload_n hx hb zd_Mod_thief_106 rfl (lv_at hl 3 rfl) ?_
    obtain rfl := Option.some.inj hf
    exact zr_iret hx hb hret hlk hP hS zd_Mod_thief_107
  · have hf := zu_f c10 hf
    refine lv_iload hx hb zd_Mod_thief_38 (lv_at hl 4 rfl) ?_
    refine lv_aload_n hx hb zd_Mod_thief_40 rfl (lv_at hl 0 rfl) ?_
    refine zg_Mod_s B hP rfl zq_861 zd_Mod_thief_41 ?_
    refine lv_iconst (v := 3) hx hb zd_Mod_thief_44 (by decide) ?_
    refine zr_iald (j := 3) (by decide) B hP rfl (by decide) rfl (by decide) zd_Mod_thief_45 ?_
    refine lv_icmp_eq (tgt := 59) hx hb zd_Mod_thief_46 (by decide) (fun c11 => ?_) (fun c11 => ?_)
    · have hf := zu_t c11 hf
      exact zl_Mod_thief_L59 B hret hlk hk31 x1 x2 x3 x4 X _ _ _ hP hS (lv_sub hl [0, 1, 2, 3, 4] rfl) hf
    · have hf := zu_f c11 hf
      refine lv_iload hx hb zd_Mod_thief_49 (lv_at hl 4 rfl) ?_
      refine lv_iload_n hx hb zd_Mod_thief_51 rfl (lv_at hl 1 rfl) ?_
      refine lv_icmp_eq (tgt := 59) hx hb zd_Mod_thief_52 (by decide) (fun c12 => ?_) (fun c12 => ?_)
      · have hf := zu_t c12 hf
        exact zl_Mod_thief_L59 B hret hlk hk31 x1 x2 x3 x4 X _ _ _ hP hS (lv_sub hl [0, 1, 2, 3, 4] rfl) hf
      · have hf := zu_f c12 hf
        refine lv_iconst (v := 1) hx hb zd_Mod_thief_55 (by decide) ?_
        refine lv_goto (tgt := 60) hx hb zd_Mod_thief_56 (by decide) ?_
        exact zl_Mod_thief_L60 B hret hlk hk31 x1 x2 x3 x4 (1 : Int32) X _ _ _ hP hS (lv_sub hl [0, 1, 2, 3, 4] rfl) hf
theorem zl_Mod_thief_L31 {p : Program} {l : Launch} {e : Env} {s : State} {m : MethodId} {args : Array Value} {below : List Frame} {meth : Method} {c : Code} {D : va_G} {cA : Nat → ClassId} {ad : Nat → Nat} {A : Nat → Prop} (B : zu_B p s m args c zb_Mod_thief 6 "StonePostModel" D cA ad A) (hret : meth.sig.returnType = (some .int)) (hlk : meth.locks = false) {Y : LX} {res : Int32 × IX} : ∀ (n : Nat) (x1 : Int32) (x2 : Int32) (x3 : Int32) (x4 : Int32) (X : IX) (H : Heap) (locs : List Loc) (ls : Array Slot), va_P D zu_cl (zu_pic cA ad X Y) H → va_S A s.heap H locs → lv_has ls 6 [(0, .ref (ad 95)), (1, .int x1), (2, .int x2), (3, .int x3), (4, .int x4)] → fn_Mod_thief_L31 n x1 x2 x3 x4 X = some res → W p l e zR_Mod_thief s m args below meth c H locs 0 0 (MQ below (zu_Qi D cA ad A res.1 res.2 Y) args s 0 0 A) (F0 m 31 ls []) := by
  intro n
  induction n with
  | zero =>
    intro x1 x2 x3 x4 X H locs ls hP hS hl hf
    exact (Option.some_ne_none _ hf.symm).elim
  | succ n ih =>
    intro x1 x2 x3 x4 X H locs ls hP hS hl hf
    exact zl_Mod_thief_B31 B hret hlk ih x1 x2 x3 x4 X H locs ls hP hS hl  hf
set_option maxHeartbeats 4000000 in
theorem zl_Mod_thief_L19 {p : Program} {l : Launch} {e : Env} {s : State} {m : MethodId} {args : Array Value} {below : List Frame} {meth : Method} {c : Code} {D : va_G} {cA : Nat → ClassId} {ad : Nat → Nat} {A : Nat → Prop} (B : zu_B p s m args c zb_Mod_thief 6 "StonePostModel" D cA ad A) (hret : meth.sig.returnType = (some .int)) (hlk : meth.locks = false) {Y : LX} {res : Int32 × IX} (X : IX) (H : Heap) (locs : List Loc) (ls : Array Slot) (hP : va_P D zu_cl (zu_pic cA ad X Y) H) (hS : va_S A s.heap H locs) (hl : lv_has ls 6 [(0, .ref (ad 95))]) (hf : fn_Mod_thief_L19 X = some res) : W p l e zR_Mod_thief s m args below meth c H locs 0 0 (MQ below (zu_Qi D cA ad A res.1 res.2 Y) args s 0 0 A) (F0 m 19 ls []) := by
  obtain ⟨hx, hb, hml, hown, hts, hST⟩ := id B
  unfold fn_Mod_thief_L19 at hf
  refine lv_aload_n hx hb zd_Mod_thief_19 rfl (lv_at hl 0 rfl) ?_
  refine lv_ldc (v := -1000001) hx hb hown (hts _ zq_943) zd_Mod_thief_20 ?_
  obtain ⟨v7, X8, hq9, hf⟩ := zu_b2_e hf
  refine zw_Mod_finds (rest := []) B hP hS hq9 zq_944 (Nat.le_of_ble_eq_true rfl) (Nat.le_of_ble_eq_true rfl) hl.1 rfl (Nat.le_of_ble_eq_true rfl) zd_Mod_thief_22 (by decide) (fun H locs hP hS => ?_)
  clear hq9
  obtain rfl := Option.some.inj hf
  exact zr_iret hx hb hret hlk hP hS zd_Mod_thief_25
set_option maxHeartbeats 4000000 in
theorem zl_Mod_thief {p : Program} {l : Launch} {e : Env} {s : State} {m : MethodId} {args : Array Value} {below : List Frame} {meth : Method} {c : Code} {D : va_G} {cA : Nat → ClassId} {ad : Nat → Nat} {A : Nat → Prop} (B : zu_B p s m args c zb_Mod_thief 6 "StonePostModel" D cA ad A) (hret : meth.sig.returnType = (some .int)) (hlk : meth.locks = false) {Y : LX} {res : Int32 × IX} {a1 : Int32} {a2 : Int32} {X : IX} (H : Heap) (locs : List Loc) (ls : Array Slot) (hP : va_P D zu_cl (zu_pic cA ad X Y) H) (hS : va_S A s.heap H locs) (hl : lv_has ls 6 [(0, .ref (ad 95)), (1, .int a1), (2, .int a2)]) (hf : fn_Mod_thief a1 a2 X = some res) : W p l e zR_Mod_thief s m args below meth c H locs 0 0 (MQ below (zu_Qi D cA ad A res.1 res.2 Y) args s 0 0 A) (F0 m 0 ls []) := by
  obtain ⟨hx, hb, hml, hown, hts, hST⟩ := id B
  unfold fn_Mod_thief at hf
  refine lv_iload_n hx hb zd_Mod_thief_0 rfl (lv_at hl 1 rfl) ?_
  obtain ⟨v1, hq2, hf⟩ := zu_b1_e hf
  refine zw_Mod_isCell (rest := []) B hP hS hq2 zq_935 (Nat.le_of_ble_eq_true rfl) (Nat.le_of_ble_eq_true rfl) hl.1 rfl (Nat.le_of_ble_eq_true rfl) zd_Mod_thief_1 (by decide) (fun H locs hP hS => ?_)
  clear hq2
  refine lv_if_eq (tgt := 19) hx hb zd_Mod_thief_4 (by decide) (fun c3 => ?_) (fun c3 => ?_)
  · have hf := zu_t c3 hf
    exact zl_Mod_thief_L19 B hret hlk X _ _ _ hP hS (lv_sub hl [0] rfl) hf
  · have hf := zu_f c3 hf
    refine lv_iload_n hx hb zd_Mod_thief_7 rfl (lv_at hl 2 rfl) ?_
    refine lv_i2l hx hb zd_Mod_thief_8 rfl ?_
    refine lv_lconst (v := 1) hx hb zd_Mod_thief_9 (by decide) ?_
    refine lv_ldc2 (v := 20) hx hb hown (hts _ zq_1217) zd_Mod_thief_10 ?_
    obtain ⟨v4, hq5, hf⟩ := zu_b1_e hf
    refine zw_Mod_in (rest := []) B hP hS hq5 zq_939 (Nat.le_of_ble_eq_true rfl) (Nat.le_of_ble_eq_true rfl) hl.1 rfl (Nat.le_of_ble_eq_true rfl) zd_Mod_thief_13 (by decide) (fun H locs hP hS => ?_)
    clear hq5
    refine lv_if_ne (tgt := 26) hx hb zd_Mod_thief_16 (by decide) (fun c6 => ?_) (fun c6 => ?_)
    · have hf := zu_f c6 hf
      refine lv_iconst (v := 0) hx hb zd_Mod_thief_26 (by decide) ?_
      refine lv_istore_n (lv' := [(3, .int (0 : Int32)), (0, .ref (ad 95)), (1, .int a1), (2, .int a2)]) hx hb zd_Mod_thief_27 rfl hl (by decide) rfl (fun ls hl => ?_)
      refine lv_iconst (v := 0) hx hb zd_Mod_thief_28 (by decide) ?_
      refine lv_istore (lv' := [(4, .int (0 : Int32)), (3, .int (0 : Int32)), (0, .ref (ad 95)), (1, .int a1), (2, .int a2)]) hx hb zd_Mod_thief_29 hl (by decide) rfl (fun ls hl => ?_)
      exact zl_Mod_thief_L31 B hret hlk 400 a1 a2 (0 : Int32) (0 : Int32) X _ _ _ hP hS (lv_sub hl [2, 3, 4, 1, 0] rfl) hf
    · have hf := zu_t c6 hf
      exact zl_Mod_thief_L19 B hret hlk X _ _ _ hP hS (lv_sub hl [0] rfl) hf
theorem zC_Mod_thief (l : Launch) {D : va_G} {cA : Nat → ClassId} {ad : Nat → Nat} {A : Nat → Prop} {a1 : Int32} {a2 : Int32} {X : IX} {Y : LX} {res : Int32 × IX} (hf : fn_Mod_thief a1 a2 X = some res) : Met l zm_Mod_thief (zu_ws zm_Mod_thief zb_Mod_thief 6 (some .int)) zR_Mod_thief (va_Pc [.ref (ad 95), .int a1, .int a2] (zu_Pre D cA ad A X Y)) (zu_Qi D cA ad A res.1 res.2 Y) 0 0 A := by
  refine Met.ofW (cc := zb_Mod_thief) (maxL := 6) (ret := (some .int)) (by decide +kernel) rfl ?_
  intro p e s m args below meth c s₁ B0 hml hv
  obtain ⟨rfl, hP, hST⟩ := hv
  have B : zu_B p s m _ c zb_Mod_thief 6 "StonePostModel" D cA ad A := ⟨B0.exec, B0.bytes, hml, findClass_of_methodNamed B0.named, (fun w hw => atoms_spec (ws := zu_ws zm_Mod_thief zb_Mod_thief 6 (some .int)) B0.pre w (List.mem_cons_of_mem _ hw)), hST⟩
  have hl := lv_entry ([.ref (ad 95), .int a1, .int a2]) (n := 6) (Nat.le_of_ble_eq_true rfl)
  rw [lg_entry_eq]
  generalize (lg_sl ([.ref (ad 95), .int a1, .int a2]) ++ List.replicate (6 - (lg_sl ([.ref (ad 95), .int a1, .int a2])).length) Slot.unset).toArray = ls at hl ⊢
  exact zl_Mod_thief B B0.returns B0.notSynchronized s.heap [] ls hP va_S.rf hl  hf
theorem zw_Mod_thief {p : Program} {l : Launch} {e : Env} {R : Room} {s : State} {m : MethodId} {args : Array Value} {below : List Frame} {meth : Method} {c : Code} {H : Heap} {locs : List Loc} {cells slots : Nat} {Q : State → Prop} {cc : ByteArray} {pc nL : Nat} {ls : Array Slot} {rest st0 : List Value} {D : va_G} {cA : Nat → ClassId} {ad : Nat → Nat} {A : Nat → Prop} {X : IX} {Y : LX} {own : String} {index : Nat} {a1 : Int32} {a2 : Int32} {v1 : Int32} {X1 : IX} (B : zu_B p s m args c cc nL own D cA ad A) (hP : va_P D zu_cl (zu_pic cA ad X Y) H) (hS : va_S A s.heap H locs) (hq : fn_Mod_thief a1 a2 X = some (v1, X1)) (m1 : Cond.methodLink own index zm_Mod_thief ∈ zu_TB) (hR1 : 8 + 1 ≤ R.frames) (hR2 : 8 + (6 + 11) + 193 ≤ R.locals) (hsz : ls.size = nL) (hst : st0 = .int a2 :: .int a1 :: .ref (ad 95) :: rest) (hw : (rest.map fun v => v.category).sum ≤ 8) (hdg : decode cc pc = .ok (.invokevirtual index, 3)) (h00 : cells ≤ R.cells ∧ slots ≤ R.slots) (kk : ∀ (H1 : Heap) (locs1 : List Loc), va_P D zu_cl (zu_pic cA ad X1 Y) H1 → va_S A s.heap H1 locs1 → W p l e R s m args below meth c H1 locs1 cells slots Q (F0 m (pc + 3) ls (.int v1 :: rest))) : W p l e R s m args below meth c H locs cells slots Q (F0 m pc ls st0) := by
  subst hst
  exact zr_cVi (As := [.int a1, .int a2]) (rest := rest) (n := 2) (C := "StonePostModel") (T := zt_Mod) (N := 23) B hP hS (zC_Mod_thief l  hq) (K := 7) rfl (by decide) (by decide) rfl rfl m1 zq_1214 zq_1215 zq_8 zq_1216 (by decide +kernel) ⟨hR1, hR2⟩ rfl rfl rfl hsz rfl hw hdg h00 kk
abbrev zR_Mod_thanksOf : Room := { frames := 2, cells := 0, slots := 0, locals := 43 }
theorem zd_Mod_thanksOf_0 : decode zb_Mod_thanksOf 0 = .ok (.iconst 0, 1) := by decide +kernel
theorem zd_Mod_thanksOf_1 : decode zb_Mod_thanksOf 1 = .ok (.istore_n 1, 1) := by decide +kernel
theorem zd_Mod_thanksOf_2 : decode zb_Mod_thanksOf 2 = .ok (.iconst 0, 1) := by decide +kernel
theorem zd_Mod_thanksOf_3 : decode zb_Mod_thanksOf 3 = .ok (.istore_n 2, 1) := by decide +kernel
theorem zd_Mod_thanksOf_4 : decode zb_Mod_thanksOf 4 = .ok (.iload_n 2, 1) := by decide +kernel
theorem zd_Mod_thanksOf_5 : decode zb_Mod_thanksOf 5 = .ok (.aload_n 0, 1) := by decide +kernel
theorem zd_Mod_thanksOf_6 : decode zb_Mod_thanksOf 6 = .ok (.getfield 7, 3) := by decide +kernel
theorem zd_Mod_thanksOf_9 : decode zb_Mod_thanksOf 9 = .ok (.iconst 1, 1) := by decide +kernel
theorem zd_Mod_thanksOf_10 : decode zb_Mod_thanksOf 10 = .ok (.iaload, 1) := by decide +kernel
theorem zd_Mod_thanksOf_11 : decode zb_Mod_thanksOf 11 = .ok (.if_icmp .ge 31, 3) := by decide +kernel
theorem zd_Mod_thanksOf_14 : decode zb_Mod_thanksOf 14 = .ok (.aload_n 0, 1) := by decide +kernel
theorem zd_Mod_thanksOf_15 : decode zb_Mod_thanksOf 15 = .ok (.getfield 32, 3) := by decide +kernel
theorem zd_Mod_thanksOf_18 : decode zb_Mod_thanksOf 18 = .ok (.iload_n 2, 1) := by decide +kernel
theorem zd_Mod_thanksOf_19 : decode zb_Mod_thanksOf 19 = .ok (.aload_n 0, 1) := by decide +kernel
theorem zd_Mod_thanksOf_20 : decode zb_Mod_thanksOf 20 = .ok (.iload_n 2, 1) := by decide +kernel
theorem zd_Mod_thanksOf_21 : decode zb_Mod_thanksOf 21 = .ok (.bipush 8, 2) := by decide +kernel
theorem zd_Mod_thanksOf_23 : decode zb_Mod_thanksOf 23 = .ok (.invokevirtual 74, 3) := by decide +kernel
theorem zd_Mod_thanksOf_26 : decode zb_Mod_thanksOf 26 = .ok (.iastore, 1) := by decide +kernel
theorem zd_Mod_thanksOf_27 : decode zb_Mod_thanksOf 27 = .ok (.iload_n 1, 1) := by decide +kernel
theorem zd_Mod_thanksOf_28 : decode zb_Mod_thanksOf 28 = .ok (.aload_n 0, 1) := by decide +kernel
theorem zd_Mod_thanksOf_29 : decode zb_Mod_thanksOf 29 = .ok (.getfield 32, 3) := by decide +kernel
theorem zd_Mod_thanksOf_32 : decode zb_Mod_thanksOf 32 = .ok (.iload_n 2, 1) := by decide +kernel
theorem zd_Mod_thanksOf_33 : decode zb_Mod_thanksOf 33 = .ok (.iaload, 1) := by decide +kernel
theorem zd_Mod_thanksOf_34 : decode zb_Mod_thanksOf 34 = .ok (.iadd, 1) := by decide +kernel
theorem zd_Mod_thanksOf_35 : decode zb_Mod_thanksOf 35 = .ok (.istore_n 1, 1) := by decide +kernel
theorem zd_Mod_thanksOf_36 : decode zb_Mod_thanksOf 36 = .ok (.iinc 2 1, 3) := by decide +kernel
theorem zd_Mod_thanksOf_39 : decode zb_Mod_thanksOf 39 = .ok (.goto (-35), 3) := by decide +kernel
theorem zd_Mod_thanksOf_42 : decode zb_Mod_thanksOf 42 = .ok (.iload_n 1, 1) := by decide +kernel
theorem zd_Mod_thanksOf_43 : decode zb_Mod_thanksOf 43 = .ok (.ireturn, 1) := by decide +kernel
set_option maxHeartbeats 4000000 in
theorem zl_Mod_thanksOf_B4 {p : Program} {l : Launch} {e : Env} {s : State} {m : MethodId} {args : Array Value} {below : List Frame} {meth : Method} {c : Code} {D : va_G} {cA : Nat → ClassId} {ad : Nat → Nat} {A : Nat → Prop} (B : zu_B p s m args c zb_Mod_thanksOf 3 "StonePostModel" D cA ad A) (hret : meth.sig.returnType = (some .int)) (hlk : meth.locks = false) {Y : LX} {res : Int32 × IX} {k4 : Int32 → Int32 → IX → Option (Int32 × IX)} (hk4 : ∀ (x1 : Int32) (x2 : Int32) (X : IX) (H : Heap) (locs : List Loc) (ls : Array Slot), va_P D zu_cl (zu_pic cA ad X Y) H → va_S A s.heap H locs → lv_has ls 3 [(0, .ref (ad 95)), (1, .int x1), (2, .int x2)] → k4 x1 x2 X = some res → W p l e zR_Mod_thanksOf s m args below meth c H locs 0 0 (MQ below (zu_Qi D cA ad A res.1 res.2 Y) args s 0 0 A) (F0 m 4 ls [])) (x1 : Int32) (x2 : Int32) (X : IX) (H : Heap) (locs : List Loc) (ls : Array Slot) (hP : va_P D zu_cl (zu_pic cA ad X Y) H) (hS : va_S A s.heap H locs) (hl : lv_has ls 3 [(0, .ref (ad 95)), (1, .int x1), (2, .int x2)]) (hf : fn_Mod_thanksOf_B4 k4 x1 x2 X = some res) : W p l e zR_Mod_thanksOf s m args below meth c H locs 0 0 (MQ below (zu_Qi D cA ad A res.1 res.2 Y) args s 0 0 A) (F0 m 4 ls []) := by
  obtain ⟨hx, hb, hml, hown, hts, hST⟩ := id B
  unfold fn_Mod_thanksOf_B4 at hf
  refine lv_iload_n hx hb zd_Mod_thanksOf_4 rfl (lv_at hl 2 rfl) ?_
  refine lv_aload_n hx hb zd_Mod_thanksOf_5 rfl (lv_at hl 0 rfl) ?_
  refine zg_Mod_s B hP rfl zq_861 zd_Mod_thanksOf_6 ?_
  refine lv_iconst (v := 1) hx hb zd_Mod_thanksOf_9 (by decide) ?_
  refine zr_iald (j := 1) (by decide) B hP rfl (by decide) rfl (by decide) zd_Mod_thanksOf_10 ?_
  refine lv_icmp_ge (tgt := 42) hx hb zd_Mod_thanksOf_11 (by decide) (fun c1 => ?_) (fun c1 => ?_)
  · have hf := zu_t c1 hf
    refine lv_iload_n hx hb zd_Mod_thanksOf_42 rfl (lv_at hl 1 rfl) ?_
    obtain rfl := Option.some.inj hf
    exact zr_iret hx hb hret hlk hP hS zd_Mod_thanksOf_43
  · have hf := zu_f c1 hf
    refine lv_aload_n hx hb zd_Mod_thanksOf_14 rfl (lv_at hl 0 rfl) ?_
    refine zg_Mod_thanks B hP rfl zq_873 zd_Mod_thanksOf_15 ?_
    refine lv_iload_n hx hb zd_Mod_thanksOf_18 rfl (lv_at hl 2 rfl) ?_
    refine lv_aload_n hx hb zd_Mod_thanksOf_19 rfl (lv_at hl 0 rfl) ?_
    refine lv_iload_n hx hb zd_Mod_thanksOf_20 rfl (lv_at hl 2 rfl) ?_
    refine lv_bipush (v := 8) hx hb zd_Mod_thanksOf_21 (by decide) ?_
    obtain ⟨v2, hq3, hf⟩ := zu_b1_e hf
    refine zw_Mod_its (rest := [.int x2, .ref (ad 103)]) B hP hS hq3 zq_962 (Nat.le_of_ble_eq_true rfl) (Nat.le_of_ble_eq_true rfl) hl.1 rfl (Nat.le_of_ble_eq_true rfl) zd_Mod_thanksOf_23 (by decide) (fun H locs hP hS => ?_)
    clear hq3
    obtain ⟨hg4, hf⟩ := zu_gd_e hf
    refine zr_iast rfl B hP hS hf rfl (by decide) rfl hg4 zd_Mod_thanksOf_26 (fun X5 H locs hf hP hS => ?_)
    refine lv_iload_n hx hb zd_Mod_thanksOf_27 rfl (lv_at hl 1 rfl) ?_
    refine lv_aload_n hx hb zd_Mod_thanksOf_28 rfl (lv_at hl 0 rfl) ?_
    refine zg_Mod_thanks B hP rfl zq_873 zd_Mod_thanksOf_29 ?_
    refine lv_iload_n hx hb zd_Mod_thanksOf_32 rfl (lv_at hl 2 rfl) ?_
    obtain ⟨hg6, hf⟩ := zu_gd_e hf
    refine zr_iald rfl B hP rfl (by decide) rfl hg6 zd_Mod_thanksOf_33 ?_
    refine lv_iadd hx hb zd_Mod_thanksOf_34 ?_
    refine zr_nxi hf (fun v7 hf => ?_)
    refine lv_istore_n (lv' := [(1, .int v7), (0, .ref (ad 95)), (2, .int x2)]) hx hb zd_Mod_thanksOf_35 rfl hl (by decide) rfl (fun ls hl => ?_)
    obtain ⟨v8, ev8, hf⟩ := zu_nx_e hf
    refine lv_iinc (v := v8) (lv' := [(2, .int v8), (1, .int v7), (0, .ref (ad 95))]) hx hb zd_Mod_thanksOf_36 hl (k := 2) rfl (by rw [ev8]; rfl) (by decide) rfl (fun ls hl => ?_)
    clear ev8
    refine lv_goto (tgt := 4) hx hb zd_Mod_thanksOf_39 (by decide) ?_
    exact hk4 v7 v8 X5 _ _ _ hP hS (lv_sub hl [2, 1, 0] rfl) hf
theorem zl_Mod_thanksOf_L4 {p : Program} {l : Launch} {e : Env} {s : State} {m : MethodId} {args : Array Value} {below : List Frame} {meth : Method} {c : Code} {D : va_G} {cA : Nat → ClassId} {ad : Nat → Nat} {A : Nat → Prop} (B : zu_B p s m args c zb_Mod_thanksOf 3 "StonePostModel" D cA ad A) (hret : meth.sig.returnType = (some .int)) (hlk : meth.locks = false) {Y : LX} {res : Int32 × IX} : ∀ (n : Nat) (x1 : Int32) (x2 : Int32) (X : IX) (H : Heap) (locs : List Loc) (ls : Array Slot), va_P D zu_cl (zu_pic cA ad X Y) H → va_S A s.heap H locs → lv_has ls 3 [(0, .ref (ad 95)), (1, .int x1), (2, .int x2)] → fn_Mod_thanksOf_L4 n x1 x2 X = some res → W p l e zR_Mod_thanksOf s m args below meth c H locs 0 0 (MQ below (zu_Qi D cA ad A res.1 res.2 Y) args s 0 0 A) (F0 m 4 ls []) := by
  intro n
  induction n with
  | zero =>
    intro x1 x2 X H locs ls hP hS hl hf
    exact (Option.some_ne_none _ hf.symm).elim
  | succ n ih =>
    intro x1 x2 X H locs ls hP hS hl hf
    exact zl_Mod_thanksOf_B4 B hret hlk ih x1 x2 X H locs ls hP hS hl  hf
set_option maxHeartbeats 4000000 in
theorem zl_Mod_thanksOf {p : Program} {l : Launch} {e : Env} {s : State} {m : MethodId} {args : Array Value} {below : List Frame} {meth : Method} {c : Code} {D : va_G} {cA : Nat → ClassId} {ad : Nat → Nat} {A : Nat → Prop} (B : zu_B p s m args c zb_Mod_thanksOf 3 "StonePostModel" D cA ad A) (hret : meth.sig.returnType = (some .int)) (hlk : meth.locks = false) {Y : LX} {res : Int32 × IX} {X : IX} (H : Heap) (locs : List Loc) (ls : Array Slot) (hP : va_P D zu_cl (zu_pic cA ad X Y) H) (hS : va_S A s.heap H locs) (hl : lv_has ls 3 [(0, .ref (ad 95))]) (hf : fn_Mod_thanksOf X = some res) : W p l e zR_Mod_thanksOf s m args below meth c H locs 0 0 (MQ below (zu_Qi D cA ad A res.1 res.2 Y) args s 0 0 A) (F0 m 0 ls []) := by
  obtain ⟨hx, hb, hml, hown, hts, hST⟩ := id B
  unfold fn_Mod_thanksOf at hf
  refine lv_iconst (v := 0) hx hb zd_Mod_thanksOf_0 (by decide) ?_
  refine lv_istore_n (lv' := [(1, .int (0 : Int32)), (0, .ref (ad 95))]) hx hb zd_Mod_thanksOf_1 rfl hl (by decide) rfl (fun ls hl => ?_)
  refine lv_iconst (v := 0) hx hb zd_Mod_thanksOf_2 (by decide) ?_
  refine lv_istore_n (lv' := [(2, .int (0 : Int32)), (1, .int (0 : Int32)), (0, .ref (ad 95))]) hx hb zd_Mod_thanksOf_3 rfl hl (by decide) rfl (fun ls hl => ?_)
  exact zl_Mod_thanksOf_L4 B hret hlk 400 (0 : Int32) (0 : Int32) X _ _ _ hP hS (lv_sub hl [2, 1, 0] rfl) hf
theorem zC_Mod_thanksOf (l : Launch) {D : va_G} {cA : Nat → ClassId} {ad : Nat → Nat} {A : Nat → Prop} {X : IX} {Y : LX} {res : Int32 × IX} (hf : fn_Mod_thanksOf X = some res) : Met l zm_Mod_thanksOf (zu_ws zm_Mod_thanksOf zb_Mod_thanksOf 3 (some .int)) zR_Mod_thanksOf (va_Pc [.ref (ad 95)] (zu_Pre D cA ad A X Y)) (zu_Qi D cA ad A res.1 res.2 Y) 0 0 A := by
  refine Met.ofW (cc := zb_Mod_thanksOf) (maxL := 3) (ret := (some .int)) (by decide +kernel) rfl ?_
  intro p e s m args below meth c s₁ B0 hml hv
  obtain ⟨rfl, hP, hST⟩ := hv
  have B : zu_B p s m _ c zb_Mod_thanksOf 3 "StonePostModel" D cA ad A := ⟨B0.exec, B0.bytes, hml, findClass_of_methodNamed B0.named, (fun w hw => atoms_spec (ws := zu_ws zm_Mod_thanksOf zb_Mod_thanksOf 3 (some .int)) B0.pre w (List.mem_cons_of_mem _ hw)), hST⟩
  have hl := lv_entry ([.ref (ad 95)]) (n := 3) (Nat.le_of_ble_eq_true rfl)
  rw [lg_entry_eq]
  generalize (lg_sl ([.ref (ad 95)]) ++ List.replicate (3 - (lg_sl ([.ref (ad 95)])).length) Slot.unset).toArray = ls at hl ⊢
  exact zl_Mod_thanksOf B B0.returns B0.notSynchronized s.heap [] ls hP va_S.rf hl  hf
theorem zw_Mod_thanksOf {p : Program} {l : Launch} {e : Env} {R : Room} {s : State} {m : MethodId} {args : Array Value} {below : List Frame} {meth : Method} {c : Code} {H : Heap} {locs : List Loc} {cells slots : Nat} {Q : State → Prop} {cc : ByteArray} {pc nL : Nat} {ls : Array Slot} {rest st0 : List Value} {D : va_G} {cA : Nat → ClassId} {ad : Nat → Nat} {A : Nat → Prop} {X : IX} {Y : LX} {own : String} {index : Nat} {v1 : Int32} {X1 : IX} (B : zu_B p s m args c cc nL own D cA ad A) (hP : va_P D zu_cl (zu_pic cA ad X Y) H) (hS : va_S A s.heap H locs) (hq : fn_Mod_thanksOf X = some (v1, X1)) (m1 : Cond.methodLink own index zm_Mod_thanksOf ∈ zu_TB) (hR1 : 2 + 1 ≤ R.frames) (hR2 : 8 + (3 + 11) + 43 ≤ R.locals) (hsz : ls.size = nL) (hst : st0 = .ref (ad 95) :: rest) (hw : (rest.map fun v => v.category).sum ≤ 8) (hdg : decode cc pc = .ok (.invokevirtual index, 3)) (h00 : cells ≤ R.cells ∧ slots ≤ R.slots) (kk : ∀ (H1 : Heap) (locs1 : List Loc), va_P D zu_cl (zu_pic cA ad X1 Y) H1 → va_S A s.heap H1 locs1 → W p l e R s m args below meth c H1 locs1 cells slots Q (F0 m (pc + 3) ls (.int v1 :: rest))) : W p l e R s m args below meth c H locs cells slots Q (F0 m pc ls st0) := by
  subst hst
  exact zr_cVi (As := []) (rest := rest) (n := 0) (C := "StonePostModel") (T := zt_Mod) (N := 23) B hP hS (zC_Mod_thanksOf l  hq) (K := 7) rfl (by decide) (by decide) rfl rfl m1 zq_1224 zqP_48 zq_8 zq_1225 (by decide +kernel) ⟨hR1, hR2⟩ rfl rfl rfl hsz rfl hw hdg h00 kk
abbrev zR_Mod_gifts : Room := { frames := 3, cells := 0, slots := 0, locals := 65 }
theorem zd_Mod_gifts_0 : decode zb_Mod_gifts 0 = .ok (.aload_n 0, 1) := by decide +kernel
theorem zd_Mod_gifts_1 : decode zb_Mod_gifts 1 = .ok (.invokevirtual 227, 3) := by decide +kernel
theorem zd_Mod_gifts_4 : decode zb_Mod_gifts 4 = .ok (.istore_n 1, 1) := by decide +kernel
theorem zd_Mod_gifts_5 : decode zb_Mod_gifts 5 = .ok (.aload_n 0, 1) := by decide +kernel
theorem zd_Mod_gifts_6 : decode zb_Mod_gifts 6 = .ok (.getfield 7, 3) := by decide +kernel
theorem zd_Mod_gifts_9 : decode zb_Mod_gifts 9 = .ok (.iconst 1, 1) := by decide +kernel
theorem zd_Mod_gifts_10 : decode zb_Mod_gifts 10 = .ok (.iaload, 1) := by decide +kernel
theorem zd_Mod_gifts_11 : decode zb_Mod_gifts 11 = .ok (.ifCond .ne 7, 3) := by decide +kernel
theorem zd_Mod_gifts_14 : decode zb_Mod_gifts 14 = .ok (.iconst 0, 1) := by decide +kernel
theorem zd_Mod_gifts_15 : decode zb_Mod_gifts 15 = .ok (.goto 11, 3) := by decide +kernel
theorem zd_Mod_gifts_18 : decode zb_Mod_gifts 18 = .ok (.iload_n 1, 1) := by decide +kernel
theorem zd_Mod_gifts_19 : decode zb_Mod_gifts 19 = .ok (.aload_n 0, 1) := by decide +kernel
theorem zd_Mod_gifts_20 : decode zb_Mod_gifts 20 = .ok (.getfield 7, 3) := by decide +kernel
theorem zd_Mod_gifts_23 : decode zb_Mod_gifts 23 = .ok (.iconst 1, 1) := by decide +kernel
theorem zd_Mod_gifts_24 : decode zb_Mod_gifts 24 = .ok (.iaload, 1) := by decide +kernel
theorem zd_Mod_gifts_25 : decode zb_Mod_gifts 25 = .ok (.idiv, 1) := by decide +kernel
theorem zd_Mod_gifts_26 : decode zb_Mod_gifts 26 = .ok (.istore_n 2, 1) := by decide +kernel
theorem zd_Mod_gifts_27 : decode zb_Mod_gifts 27 = .ok (.iconst 0, 1) := by decide +kernel
theorem zd_Mod_gifts_28 : decode zb_Mod_gifts 28 = .ok (.istore_n 3, 1) := by decide +kernel
theorem zd_Mod_gifts_29 : decode zb_Mod_gifts 29 = .ok (.aload_n 0, 1) := by decide +kernel
theorem zd_Mod_gifts_30 : decode zb_Mod_gifts 30 = .ok (.getfield 7, 3) := by decide +kernel
theorem zd_Mod_gifts_33 : decode zb_Mod_gifts 33 = .ok (.iconst 1, 1) := by decide +kernel
theorem zd_Mod_gifts_34 : decode zb_Mod_gifts 34 = .ok (.iaload, 1) := by decide +kernel
theorem zd_Mod_gifts_35 : decode zb_Mod_gifts 35 = .ok (.ifCond .le 7, 3) := by decide +kernel
theorem zd_Mod_gifts_38 : decode zb_Mod_gifts 38 = .ok (.iconst 1, 1) := by decide +kernel
theorem zd_Mod_gifts_39 : decode zb_Mod_gifts 39 = .ok (.goto 4, 3) := by decide +kernel
theorem zd_Mod_gifts_42 : decode zb_Mod_gifts 42 = .ok (.iconst 0, 1) := by decide +kernel
theorem zd_Mod_gifts_43 : decode zb_Mod_gifts 43 = .ok (.istore 4, 2) := by decide +kernel
theorem zd_Mod_gifts_45 : decode zb_Mod_gifts 45 = .ok (.iload 4, 2) := by decide +kernel
theorem zd_Mod_gifts_47 : decode zb_Mod_gifts 47 = .ok (.ifCond .eq 171, 3) := by decide +kernel
theorem zd_Mod_gifts_50 : decode zb_Mod_gifts 50 = .ok (.iconst 0, 1) := by decide +kernel
theorem zd_Mod_gifts_51 : decode zb_Mod_gifts 51 = .ok (.istore 5, 2) := by decide +kernel
theorem zd_Mod_gifts_53 : decode zb_Mod_gifts 53 = .ok (.iconst 0, 1) := by decide +kernel
theorem zd_Mod_gifts_54 : decode zb_Mod_gifts 54 = .ok (.istore 6, 2) := by decide +kernel
theorem zd_Mod_gifts_56 : decode zb_Mod_gifts 56 = .ok (.iconst 1, 1) := by decide +kernel
theorem zd_Mod_gifts_57 : decode zb_Mod_gifts 57 = .ok (.istore 7, 2) := by decide +kernel
theorem zd_Mod_gifts_59 : decode zb_Mod_gifts 59 = .ok (.iload 7, 2) := by decide +kernel
theorem zd_Mod_gifts_61 : decode zb_Mod_gifts 61 = .ok (.aload_n 0, 1) := by decide +kernel
theorem zd_Mod_gifts_62 : decode zb_Mod_gifts 62 = .ok (.getfield 7, 3) := by decide +kernel
theorem zd_Mod_gifts_65 : decode zb_Mod_gifts 65 = .ok (.iconst 1, 1) := by decide +kernel
theorem zd_Mod_gifts_66 : decode zb_Mod_gifts 66 = .ok (.iaload, 1) := by decide +kernel
theorem zd_Mod_gifts_67 : decode zb_Mod_gifts 67 = .ok (.if_icmp .ge 61, 3) := by decide +kernel
theorem zd_Mod_gifts_70 : decode zb_Mod_gifts 70 = .ok (.aload_n 0, 1) := by decide +kernel
theorem zd_Mod_gifts_71 : decode zb_Mod_gifts 71 = .ok (.getfield 32, 3) := by decide +kernel
theorem zd_Mod_gifts_74 : decode zb_Mod_gifts 74 = .ok (.iload 7, 2) := by decide +kernel
theorem zd_Mod_gifts_76 : decode zb_Mod_gifts 76 = .ok (.iaload, 1) := by decide +kernel
theorem zd_Mod_gifts_77 : decode zb_Mod_gifts 77 = .ok (.aload_n 0, 1) := by decide +kernel
theorem zd_Mod_gifts_78 : decode zb_Mod_gifts 78 = .ok (.getfield 32, 3) := by decide +kernel
theorem zd_Mod_gifts_81 : decode zb_Mod_gifts 81 = .ok (.iload 5, 2) := by decide +kernel
theorem zd_Mod_gifts_83 : decode zb_Mod_gifts 83 = .ok (.iaload, 1) := by decide +kernel
theorem zd_Mod_gifts_84 : decode zb_Mod_gifts 84 = .ok (.if_icmp .le 8, 3) := by decide +kernel
theorem zd_Mod_gifts_87 : decode zb_Mod_gifts 87 = .ok (.iload 7, 2) := by decide +kernel
theorem zd_Mod_gifts_89 : decode zb_Mod_gifts 89 = .ok (.goto 5, 3) := by decide +kernel
theorem zd_Mod_gifts_92 : decode zb_Mod_gifts 92 = .ok (.iload 5, 2) := by decide +kernel
theorem zd_Mod_gifts_94 : decode zb_Mod_gifts 94 = .ok (.istore 5, 2) := by decide +kernel
theorem zd_Mod_gifts_96 : decode zb_Mod_gifts 96 = .ok (.aload_n 0, 1) := by decide +kernel
theorem zd_Mod_gifts_97 : decode zb_Mod_gifts 97 = .ok (.getfield 32, 3) := by decide +kernel
theorem zd_Mod_gifts_100 : decode zb_Mod_gifts 100 = .ok (.iload 7, 2) := by decide +kernel
theorem zd_Mod_gifts_102 : decode zb_Mod_gifts 102 = .ok (.iaload, 1) := by decide +kernel
theorem zd_Mod_gifts_103 : decode zb_Mod_gifts 103 = .ok (.aload_n 0, 1) := by decide +kernel
theorem zd_Mod_gifts_104 : decode zb_Mod_gifts 104 = .ok (.getfield 32, 3) := by decide +kernel
theorem zd_Mod_gifts_107 : decode zb_Mod_gifts 107 = .ok (.iload 6, 2) := by decide +kernel
theorem zd_Mod_gifts_109 : decode zb_Mod_gifts 109 = .ok (.iaload, 1) := by decide +kernel
theorem zd_Mod_gifts_110 : decode zb_Mod_gifts 110 = .ok (.if_icmp .ge 8, 3) := by decide +kernel
theorem zd_Mod_gifts_113 : decode zb_Mod_gifts 113 = .ok (.iload 7, 2) := by decide +kernel
theorem zd_Mod_gifts_115 : decode zb_Mod_gifts 115 = .ok (.goto 5, 3) := by decide +kernel
theorem zd_Mod_gifts_118 : decode zb_Mod_gifts 118 = .ok (.iload 6, 2) := by decide +kernel
theorem zd_Mod_gifts_120 : decode zb_Mod_gifts 120 = .ok (.istore 6, 2) := by decide +kernel
theorem zd_Mod_gifts_122 : decode zb_Mod_gifts 122 = .ok (.iinc 7 1, 3) := by decide +kernel
theorem zd_Mod_gifts_125 : decode zb_Mod_gifts 125 = .ok (.goto (-66), 3) := by decide +kernel
theorem zd_Mod_gifts_128 : decode zb_Mod_gifts 128 = .ok (.aload_n 0, 1) := by decide +kernel
theorem zd_Mod_gifts_129 : decode zb_Mod_gifts 129 = .ok (.getfield 32, 3) := by decide +kernel
theorem zd_Mod_gifts_132 : decode zb_Mod_gifts 132 = .ok (.iload 5, 2) := by decide +kernel
theorem zd_Mod_gifts_134 : decode zb_Mod_gifts 134 = .ok (.iaload, 1) := by decide +kernel
theorem zd_Mod_gifts_135 : decode zb_Mod_gifts 135 = .ok (.iload_n 2, 1) := by decide +kernel
theorem zd_Mod_gifts_136 : decode zb_Mod_gifts 136 = .ok (.isub, 1) := by decide +kernel
theorem zd_Mod_gifts_137 : decode zb_Mod_gifts 137 = .ok (.istore 7, 2) := by decide +kernel
theorem zd_Mod_gifts_139 : decode zb_Mod_gifts 139 = .ok (.iload_n 2, 1) := by decide +kernel
theorem zd_Mod_gifts_140 : decode zb_Mod_gifts 140 = .ok (.aload_n 0, 1) := by decide +kernel
theorem zd_Mod_gifts_141 : decode zb_Mod_gifts 141 = .ok (.getfield 32, 3) := by decide +kernel
theorem zd_Mod_gifts_144 : decode zb_Mod_gifts 144 = .ok (.iload 6, 2) := by decide +kernel
theorem zd_Mod_gifts_146 : decode zb_Mod_gifts 146 = .ok (.iaload, 1) := by decide +kernel
theorem zd_Mod_gifts_147 : decode zb_Mod_gifts 147 = .ok (.isub, 1) := by decide +kernel
theorem zd_Mod_gifts_148 : decode zb_Mod_gifts 148 = .ok (.istore 8, 2) := by decide +kernel
theorem zd_Mod_gifts_150 : decode zb_Mod_gifts 150 = .ok (.iload 7, 2) := by decide +kernel
theorem zd_Mod_gifts_152 : decode zb_Mod_gifts 152 = .ok (.ifCond .le 12, 3) := by decide +kernel
theorem zd_Mod_gifts_155 : decode zb_Mod_gifts 155 = .ok (.iload 8, 2) := by decide +kernel
theorem zd_Mod_gifts_157 : decode zb_Mod_gifts 157 = .ok (.ifCond .le 7, 3) := by decide +kernel
theorem zd_Mod_gifts_160 : decode zb_Mod_gifts 160 = .ok (.iconst 1, 1) := by decide +kernel
theorem zd_Mod_gifts_161 : decode zb_Mod_gifts 161 = .ok (.goto 4, 3) := by decide +kernel
theorem zd_Mod_gifts_164 : decode zb_Mod_gifts 164 = .ok (.iconst 0, 1) := by decide +kernel
theorem zd_Mod_gifts_165 : decode zb_Mod_gifts 165 = .ok (.istore 4, 2) := by decide +kernel
theorem zd_Mod_gifts_167 : decode zb_Mod_gifts 167 = .ok (.iload 4, 2) := by decide +kernel
theorem zd_Mod_gifts_169 : decode zb_Mod_gifts 169 = .ok (.ifCond .eq 46, 3) := by decide +kernel
theorem zd_Mod_gifts_172 : decode zb_Mod_gifts 172 = .ok (.iload 7, 2) := by decide +kernel
theorem zd_Mod_gifts_174 : decode zb_Mod_gifts 174 = .ok (.iload 8, 2) := by decide +kernel
theorem zd_Mod_gifts_176 : decode zb_Mod_gifts 176 = .ok (.if_icmp .ge 8, 3) := by decide +kernel
theorem zd_Mod_gifts_179 : decode zb_Mod_gifts 179 = .ok (.iload 7, 2) := by decide +kernel
theorem zd_Mod_gifts_181 : decode zb_Mod_gifts 181 = .ok (.goto 5, 3) := by decide +kernel
theorem zd_Mod_gifts_184 : decode zb_Mod_gifts 184 = .ok (.iload 8, 2) := by decide +kernel
theorem zd_Mod_gifts_186 : decode zb_Mod_gifts 186 = .ok (.istore 9, 2) := by decide +kernel
theorem zd_Mod_gifts_188 : decode zb_Mod_gifts 188 = .ok (.aload_n 0, 1) := by decide +kernel
theorem zd_Mod_gifts_189 : decode zb_Mod_gifts 189 = .ok (.getfield 32, 3) := by decide +kernel
theorem zd_Mod_gifts_192 : decode zb_Mod_gifts 192 = .ok (.iload 5, 2) := by decide +kernel
theorem zd_Mod_gifts_194 : decode zb_Mod_gifts 194 = .ok (.dup2, 1) := by decide +kernel
theorem zd_Mod_gifts_195 : decode zb_Mod_gifts 195 = .ok (.iaload, 1) := by decide +kernel
theorem zd_Mod_gifts_196 : decode zb_Mod_gifts 196 = .ok (.iload 9, 2) := by decide +kernel
theorem zd_Mod_gifts_198 : decode zb_Mod_gifts 198 = .ok (.isub, 1) := by decide +kernel
theorem zd_Mod_gifts_199 : decode zb_Mod_gifts 199 = .ok (.iastore, 1) := by decide +kernel
theorem zd_Mod_gifts_200 : decode zb_Mod_gifts 200 = .ok (.aload_n 0, 1) := by decide +kernel
theorem zd_Mod_gifts_201 : decode zb_Mod_gifts 201 = .ok (.getfield 32, 3) := by decide +kernel
theorem zd_Mod_gifts_204 : decode zb_Mod_gifts 204 = .ok (.iload 6, 2) := by decide +kernel
theorem zd_Mod_gifts_206 : decode zb_Mod_gifts 206 = .ok (.dup2, 1) := by decide +kernel
theorem zd_Mod_gifts_207 : decode zb_Mod_gifts 207 = .ok (.iaload, 1) := by decide +kernel
theorem zd_Mod_gifts_208 : decode zb_Mod_gifts 208 = .ok (.iload 9, 2) := by decide +kernel
theorem zd_Mod_gifts_210 : decode zb_Mod_gifts 210 = .ok (.iadd, 1) := by decide +kernel
theorem zd_Mod_gifts_211 : decode zb_Mod_gifts 211 = .ok (.iastore, 1) := by decide +kernel
theorem zd_Mod_gifts_212 : decode zb_Mod_gifts 212 = .ok (.iinc 3 1, 3) := by decide +kernel
theorem zd_Mod_gifts_215 : decode zb_Mod_gifts 215 = .ok (.goto (-170), 3) := by decide +kernel
theorem zd_Mod_gifts_218 : decode zb_Mod_gifts 218 = .ok (.iload_n 3, 1) := by decide +kernel
theorem zd_Mod_gifts_219 : decode zb_Mod_gifts 219 = .ok (.ireturn, 1) := by decide +kernel
set_option maxHeartbeats 4000000 in
theorem zl_Mod_gifts_L215 {p : Program} {l : Launch} {e : Env} {s : State} {m : MethodId} {args : Array Value} {below : List Frame} {meth : Method} {c : Code} {D : va_G} {cA : Nat → ClassId} {ad : Nat → Nat} {A : Nat → Prop} (B : zu_B p s m args c zb_Mod_gifts 10 "StonePostModel" D cA ad A) (hret : meth.sig.returnType = (some .int)) (hlk : meth.locks = false) {Y : LX} {res : Int32 × IX} {k45 : Int32 → Int32 → Int32 → IX → Option (Int32 × IX)} (hk45 : ∀ (x2 : Int32) (x3 : Int32) (x4 : Int32) (X : IX) (H : Heap) (locs : List Loc) (ls : Array Slot), va_P D zu_cl (zu_pic cA ad X Y) H → va_S A s.heap H locs → lv_has ls 10 [(0, .ref (ad 95)), (2, .int x2), (3, .int x3), (4, .int x4)] → k45 x2 x3 x4 X = some res → W p l e zR_Mod_gifts s m args below meth c H locs 0 0 (MQ below (zu_Qi D cA ad A res.1 res.2 Y) args s 0 0 A) (F0 m 45 ls [])) (x2 : Int32) (x3 : Int32) (x4 : Int32) (X : IX) (H : Heap) (locs : List Loc) (ls : Array Slot) (hP : va_P D zu_cl (zu_pic cA ad X Y) H) (hS : va_S A s.heap H locs) (hl : lv_has ls 10 [(0, .ref (ad 95)), (2, .int x2), (3, .int x3), (4, .int x4)]) (hf : fn_Mod_gifts_L215 k45 x2 x3 x4 X = some res) : W p l e zR_Mod_gifts s m args below meth c H locs 0 0 (MQ below (zu_Qi D cA ad A res.1 res.2 Y) args s 0 0 A) (F0 m 215 ls []) := by
  obtain ⟨hx, hb, hml, hown, hts, hST⟩ := id B
  unfold fn_Mod_gifts_L215 at hf
  refine lv_goto (tgt := 45) hx hb zd_Mod_gifts_215 (by decide) ?_
  exact hk45 x2 x3 x4 X _ _ _ hP hS (lv_sub hl [0, 1, 2, 3] rfl) hf
set_option maxHeartbeats 4000000 in
theorem zl_Mod_gifts_L186 {p : Program} {l : Launch} {e : Env} {s : State} {m : MethodId} {args : Array Value} {below : List Frame} {meth : Method} {c : Code} {D : va_G} {cA : Nat → ClassId} {ad : Nat → Nat} {A : Nat → Prop} (B : zu_B p s m args c zb_Mod_gifts 10 "StonePostModel" D cA ad A) (hret : meth.sig.returnType = (some .int)) (hlk : meth.locks = false) {Y : LX} {res : Int32 × IX} {k45 : Int32 → Int32 → Int32 → IX → Option (Int32 × IX)} (hk45 : ∀ (x2 : Int32) (x3 : Int32) (x4 : Int32) (X : IX) (H : Heap) (locs : List Loc) (ls : Array Slot), va_P D zu_cl (zu_pic cA ad X Y) H → va_S A s.heap H locs → lv_has ls 10 [(0, .ref (ad 95)), (2, .int x2), (3, .int x3), (4, .int x4)] → k45 x2 x3 x4 X = some res → W p l e zR_Mod_gifts s m args below meth c H locs 0 0 (MQ below (zu_Qi D cA ad A res.1 res.2 Y) args s 0 0 A) (F0 m 45 ls [])) (x2 : Int32) (x3 : Int32) (x4 : Int32) (x5 : Int32) (x6 : Int32) (y0 : Int32) (X : IX) (H : Heap) (locs : List Loc) (ls : Array Slot) (hP : va_P D zu_cl (zu_pic cA ad X Y) H) (hS : va_S A s.heap H locs) (hl : lv_has ls 10 [(0, .ref (ad 95)), (2, .int x2), (3, .int x3), (4, .int x4), (5, .int x5), (6, .int x6)]) (hf : fn_Mod_gifts_L186 k45 x2 x3 x4 x5 x6 y0 X = some res) : W p l e zR_Mod_gifts s m args below meth c H locs 0 0 (MQ below (zu_Qi D cA ad A res.1 res.2 Y) args s 0 0 A) (F0 m 186 ls [.int y0]) := by
  obtain ⟨hx, hb, hml, hown, hts, hST⟩ := id B
  unfold fn_Mod_gifts_L186 at hf
  refine lv_istore (lv' := [(9, .int y0), (0, .ref (ad 95)), (2, .int x2), (3, .int x3), (4, .int x4), (5, .int x5), (6, .int x6)]) hx hb zd_Mod_gifts_186 hl (by decide) rfl (fun ls hl => ?_)
  refine lv_aload_n hx hb zd_Mod_gifts_188 rfl (lv_at hl 1 rfl) ?_
  refine zg_Mod_thanks B hP rfl zq_873 zd_Mod_gifts_189 ?_
  refine lv_iload hx hb zd_Mod_gifts_192 (lv_at hl 5 rfl) ?_
  refine lv_dup2_11 hx hb zd_Mod_gifts_194 rfl rfl ?_
  obtain ⟨hg23, hf⟩ := zu_gd_e hf
  refine zr_iald rfl B hP rfl (by decide) rfl hg23 zd_Mod_gifts_195 ?_
  refine lv_iload hx hb zd_Mod_gifts_196 (lv_at hl 0 rfl) ?_
  refine lv_isub hx hb zd_Mod_gifts_198 ?_
  obtain ⟨hg24, hf⟩ := zu_gd_e hf
  refine zr_iast rfl B hP hS hf rfl (by decide) rfl hg24 zd_Mod_gifts_199 (fun X25 H locs hf hP hS => ?_)
  refine lv_aload_n hx hb zd_Mod_gifts_200 rfl (lv_at hl 1 rfl) ?_
  refine zg_Mod_thanks B hP rfl zq_873 zd_Mod_gifts_201 ?_
  refine lv_iload hx hb zd_Mod_gifts_204 (lv_at hl 6 rfl) ?_
  refine lv_dup2_11 hx hb zd_Mod_gifts_206 rfl rfl ?_
  obtain ⟨hg26, hf⟩ := zu_gd_e hf
  refine zr_iald rfl B hP rfl (by decide) rfl hg26 zd_Mod_gifts_207 ?_
  refine lv_iload hx hb zd_Mod_gifts_208 (lv_at hl 0 rfl) ?_
  refine lv_iadd hx hb zd_Mod_gifts_210 ?_
  obtain ⟨hg27, hf⟩ := zu_gd_e hf
  refine zr_iast rfl B hP hS hf rfl (by decide) rfl hg27 zd_Mod_gifts_211 (fun X28 H locs hf hP hS => ?_)
  obtain ⟨v29, ev29, hf⟩ := zu_nx_e hf
  refine lv_iinc (v := v29) (lv' := [(3, .int v29), (9, .int y0), (0, .ref (ad 95)), (2, .int x2), (4, .int x4), (5, .int x5), (6, .int x6)]) hx hb zd_Mod_gifts_212 hl (k := 3) rfl (by rw [ev29]; rfl) (by decide) rfl (fun ls hl => ?_)
  clear ev29
  exact zl_Mod_gifts_L215 B hret hlk hk45 x2 v29 x4 X28 _ _ _ hP hS (lv_sub hl [2, 3, 0, 4] rfl) hf
set_option maxHeartbeats 4000000 in
theorem zl_Mod_gifts_L165 {p : Program} {l : Launch} {e : Env} {s : State} {m : MethodId} {args : Array Value} {below : List Frame} {meth : Method} {c : Code} {D : va_G} {cA : Nat → ClassId} {ad : Nat → Nat} {A : Nat → Prop} (B : zu_B p s m args c zb_Mod_gifts 10 "StonePostModel" D cA ad A) (hret : meth.sig.returnType = (some .int)) (hlk : meth.locks = false) {Y : LX} {res : Int32 × IX} {k45 : Int32 → Int32 → Int32 → IX → Option (Int32 × IX)} (hk45 : ∀ (x2 : Int32) (x3 : Int32) (x4 : Int32) (X : IX) (H : Heap) (locs : List Loc) (ls : Array Slot), va_P D zu_cl (zu_pic cA ad X Y) H → va_S A s.heap H locs → lv_has ls 10 [(0, .ref (ad 95)), (2, .int x2), (3, .int x3), (4, .int x4)] → k45 x2 x3 x4 X = some res → W p l e zR_Mod_gifts s m args below meth c H locs 0 0 (MQ below (zu_Qi D cA ad A res.1 res.2 Y) args s 0 0 A) (F0 m 45 ls [])) (x2 : Int32) (x3 : Int32) (x5 : Int32) (x6 : Int32) (x7 : Int32) (x8 : Int32) (y0 : Int32) (X : IX) (H : Heap) (locs : List Loc) (ls : Array Slot) (hP : va_P D zu_cl (zu_pic cA ad X Y) H) (hS : va_S A s.heap H locs) (hl : lv_has ls 10 [(0, .ref (ad 95)), (2, .int x2), (3, .int x3), (5, .int x5), (6, .int x6), (7, .int x7), (8, .int x8)]) (hf : fn_Mod_gifts_L165 k45 x2 x3 x5 x6 x7 x8 y0 X = some res) : W p l e zR_Mod_gifts s m args below meth c H locs 0 0 (MQ below (zu_Qi D cA ad A res.1 res.2 Y) args s 0 0 A) (F0 m 165 ls [.int y0]) := by
  obtain ⟨hx, hb, hml, hown, hts, hST⟩ := id B
  unfold fn_Mod_gifts_L165 at hf
  refine lv_istore (lv' := [(4, .int y0), (0, .ref (ad 95)), (2, .int x2), (3, .int x3), (5, .int x5), (6, .int x6), (7, .int x7), (8, .int x8)]) hx hb zd_Mod_gifts_165 hl (by decide) rfl (fun ls hl => ?_)
  refine lv_iload hx hb zd_Mod_gifts_167 (lv_at hl 0 rfl) ?_
  refine lv_if_eq (tgt := 215) hx hb zd_Mod_gifts_169 (by decide) (fun c18 => ?_) (fun c18 => ?_)
  · have hf := zu_t c18 hf
    exact zl_Mod_gifts_L215 B hret hlk hk45 x2 x3 y0 X _ _ _ hP hS (lv_sub hl [1, 2, 3, 0] rfl) hf
  · have hf := zu_f c18 hf
    refine lv_iload hx hb zd_Mod_gifts_172 (lv_at hl 6 rfl) ?_
    refine lv_iload hx hb zd_Mod_gifts_174 (lv_at hl 7 rfl) ?_
    refine lv_icmp_ge (tgt := 184) hx hb zd_Mod_gifts_176 (by decide) (fun c19 => ?_) (fun c19 => ?_)
    · have hf := zu_t c19 hf
      refine lv_iload hx hb zd_Mod_gifts_184 (lv_at hl 7 rfl) ?_
      exact zl_Mod_gifts_L186 B hret hlk hk45 x2 x3 y0 x5 x6 x8 X _ _ _ hP hS (lv_sub hl [1, 2, 3, 0, 4, 5] rfl) hf
    · have hf := zu_f c19 hf
      refine lv_iload hx hb zd_Mod_gifts_179 (lv_at hl 6 rfl) ?_
      refine lv_goto (tgt := 186) hx hb zd_Mod_gifts_181 (by decide) ?_
      exact zl_Mod_gifts_L186 B hret hlk hk45 x2 x3 y0 x5 x6 x7 X _ _ _ hP hS (lv_sub hl [1, 2, 3, 0, 4, 5] rfl) hf
set_option maxHeartbeats 4000000 in
theorem zl_Mod_gifts_L164 {p : Program} {l : Launch} {e : Env} {s : State} {m : MethodId} {args : Array Value} {below : List Frame} {meth : Method} {c : Code} {D : va_G} {cA : Nat → ClassId} {ad : Nat → Nat} {A : Nat → Prop} (B : zu_B p s m args c zb_Mod_gifts 10 "StonePostModel" D cA ad A) (hret : meth.sig.returnType = (some .int)) (hlk : meth.locks = false) {Y : LX} {res : Int32 × IX} {k45 : Int32 → Int32 → Int32 → IX → Option (Int32 × IX)} (hk45 : ∀ (x2 : Int32) (x3 : Int32) (x4 : Int32) (X : IX) (H : Heap) (locs : List Loc) (ls : Array Slot), va_P D zu_cl (zu_pic cA ad X Y) H → va_S A s.heap H locs → lv_has ls 10 [(0, .ref (ad 95)), (2, .int x2), (3, .int x3), (4, .int x4)] → k45 x2 x3 x4 X = some res → W p l e zR_Mod_gifts s m args below meth c H locs 0 0 (MQ below (zu_Qi D cA ad A res.1 res.2 Y) args s 0 0 A) (F0 m 45 ls [])) (x2 : Int32) (x3 : Int32) (x5 : Int32) (x6 : Int32) (x7 : Int32) (x8 : Int32) (X : IX) (H : Heap) (locs : List Loc) (ls : Array Slot) (hP : va_P D zu_cl (zu_pic cA ad X Y) H) (hS : va_S A s.heap H locs) (hl : lv_has ls 10 [(0, .ref (ad 95)), (2, .int x2), (3, .int x3), (5, .int x5), (6, .int x6), (7, .int x7), (8, .int x8)]) (hf : fn_Mod_gifts_L164 k45 x2 x3 x5 x6 x7 x8 X = some res) : W p l e zR_Mod_gifts s m args below meth c H locs 0 0 (MQ below (zu_Qi D cA ad A res.1 res.2 Y) args s 0 0 A) (F0 m 164 ls []) := by
  obtain ⟨hx, hb, hml, hown, hts, hST⟩ := id B
  unfold fn_Mod_gifts_L164 at hf
  refine lv_iconst (v := 0) hx hb zd_Mod_gifts_164 (by decide) ?_
  exact zl_Mod_gifts_L165 B hret hlk hk45 x2 x3 x5 x6 x7 x8 (0 : Int32) X _ _ _ hP hS (lv_sub hl [0, 1, 2, 3, 4, 5, 6] rfl) hf
set_option maxHeartbeats 4000000 in
theorem zl_Mod_gifts_L120 {p : Program} {l : Launch} {e : Env} {s : State} {m : MethodId} {args : Array Value} {below : List Frame} {meth : Method} {c : Code} {D : va_G} {cA : Nat → ClassId} {ad : Nat → Nat} {A : Nat → Prop} (B : zu_B p s m args c zb_Mod_gifts 10 "StonePostModel" D cA ad A) (hret : meth.sig.returnType = (some .int)) (hlk : meth.locks = false) {Y : LX} {res : Int32 × IX} {k45 : Int32 → Int32 → Int32 → IX → Option (Int32 × IX)} (hk45 : ∀ (x2 : Int32) (x3 : Int32) (x4 : Int32) (X : IX) (H : Heap) (locs : List Loc) (ls : Array Slot), va_P D zu_cl (zu_pic cA ad X Y) H → va_S A s.heap H locs → lv_has ls 10 [(0, .ref (ad 95)), (2, .int x2), (3, .int x3), (4, .int x4)] → k45 x2 x3 x4 X = some res → W p l e zR_Mod_gifts s m args below meth c H locs 0 0 (MQ below (zu_Qi D cA ad A res.1 res.2 Y) args s 0 0 A) (F0 m 45 ls [])) {k59 : Int32 → Int32 → Int32 → Int32 → Int32 → IX → Option (Int32 × IX)} (hk59 : ∀ (x2 : Int32) (x3 : Int32) (x5 : Int32) (x6 : Int32) (x7 : Int32) (X : IX) (H : Heap) (locs : List Loc) (ls : Array Slot), va_P D zu_cl (zu_pic cA ad X Y) H → va_S A s.heap H locs → lv_has ls 10 [(0, .ref (ad 95)), (2, .int x2), (3, .int x3), (5, .int x5), (6, .int x6), (7, .int x7)] → k59 x2 x3 x5 x6 x7 X = some res → W p l e zR_Mod_gifts s m args below meth c H locs 0 0 (MQ below (zu_Qi D cA ad A res.1 res.2 Y) args s 0 0 A) (F0 m 59 ls [])) (x2 : Int32) (x3 : Int32) (x5 : Int32) (x7 : Int32) (y0 : Int32) (X : IX) (H : Heap) (locs : List Loc) (ls : Array Slot) (hP : va_P D zu_cl (zu_pic cA ad X Y) H) (hS : va_S A s.heap H locs) (hl : lv_has ls 10 [(0, .ref (ad 95)), (2, .int x2), (3, .int x3), (5, .int x5), (7, .int x7)]) (hf : fn_Mod_gifts_L120 k45 k59 x2 x3 x5 x7 y0 X = some res) : W p l e zR_Mod_gifts s m args below meth c H locs 0 0 (MQ below (zu_Qi D cA ad A res.1 res.2 Y) args s 0 0 A) (F0 m 120 ls [.int y0]) := by
  obtain ⟨hx, hb, hml, hown, hts, hST⟩ := id B
  unfold fn_Mod_gifts_L120 at hf
  refine lv_istore (lv' := [(6, .int y0), (0, .ref (ad 95)), (2, .int x2), (3, .int x3), (5, .int x5), (7, .int x7)]) hx hb zd_Mod_gifts_120 hl (by decide) rfl (fun ls hl => ?_)
  obtain ⟨v30, ev30, hf⟩ := zu_nx_e hf
  refine lv_iinc (v := v30) (lv' := [(7, .int v30), (6, .int y0), (0, .ref (ad 95)), (2, .int x2), (3, .int x3), (5, .int x5)]) hx hb zd_Mod_gifts_122 hl (k := 5) rfl (by rw [ev30]; rfl) (by decide) rfl (fun ls hl => ?_)
  clear ev30
  refine lv_goto (tgt := 59) hx hb zd_Mod_gifts_125 (by decide) ?_
  exact hk59 x2 x3 x5 y0 v30 X _ _ _ hP hS (lv_sub hl [2, 3, 4, 5, 1, 0] rfl) hf
set_option maxHeartbeats 4000000 in
theorem zl_Mod_gifts_L94 {p : Program} {l : Launch} {e : Env} {s : State} {m : MethodId} {args : Array Value} {below : List Frame} {meth : Method} {c : Code} {D : va_G} {cA : Nat → ClassId} {ad : Nat → Nat} {A : Nat → Prop} (B : zu_B p s m args c zb_Mod_gifts 10 "StonePostModel" D cA ad A) (hret : meth.sig.returnType = (some .int)) (hlk : meth.locks = false) {Y : LX} {res : Int32 × IX} {k45 : Int32 → Int32 → Int32 → IX → Option (Int32 × IX)} (hk45 : ∀ (x2 : Int32) (x3 : Int32) (x4 : Int32) (X : IX) (H : Heap) (locs : List Loc) (ls : Array Slot), va_P D zu_cl (zu_pic cA ad X Y) H → va_S A s.heap H locs → lv_has ls 10 [(0, .ref (ad 95)), (2, .int x2), (3, .int x3), (4, .int x4)] → k45 x2 x3 x4 X = some res → W p l e zR_Mod_gifts s m args below meth c H locs 0 0 (MQ below (zu_Qi D cA ad A res.1 res.2 Y) args s 0 0 A) (F0 m 45 ls [])) {k59 : Int32 → Int32 → Int32 → Int32 → Int32 → IX → Option (Int32 × IX)} (hk59 : ∀ (x2 : Int32) (x3 : Int32) (x5 : Int32) (x6 : Int32) (x7 : Int32) (X : IX) (H : Heap) (locs : List Loc) (ls : Array Slot), va_P D zu_cl (zu_pic cA ad X Y) H → va_S A s.heap H locs → lv_has ls 10 [(0, .ref (ad 95)), (2, .int x2), (3, .int x3), (5, .int x5), (6, .int x6), (7, .int x7)] → k59 x2 x3 x5 x6 x7 X = some res → W p l e zR_Mod_gifts s m args below meth c H locs 0 0 (MQ below (zu_Qi D cA ad A res.1 res.2 Y) args s 0 0 A) (F0 m 59 ls [])) (x2 : Int32) (x3 : Int32) (x6 : Int32) (x7 : Int32) (y0 : Int32) (X : IX) (H : Heap) (locs : List Loc) (ls : Array Slot) (hP : va_P D zu_cl (zu_pic cA ad X Y) H) (hS : va_S A s.heap H locs) (hl : lv_has ls 10 [(0, .ref (ad 95)), (2, .int x2), (3, .int x3), (6, .int x6), (7, .int x7)]) (hf : fn_Mod_gifts_L94 k45 k59 x2 x3 x6 x7 y0 X = some res) : W p l e zR_Mod_gifts s m args below meth c H locs 0 0 (MQ below (zu_Qi D cA ad A res.1 res.2 Y) args s 0 0 A) (F0 m 94 ls [.int y0]) := by
  obtain ⟨hx, hb, hml, hown, hts, hST⟩ := id B
  unfold fn_Mod_gifts_L94 at hf
  refine lv_istore (lv' := [(5, .int y0), (0, .ref (ad 95)), (2, .int x2), (3, .int x3), (6, .int x6), (7, .int x7)]) hx hb zd_Mod_gifts_94 hl (by decide) rfl (fun ls hl => ?_)
  refine lv_aload_n hx hb zd_Mod_gifts_96 rfl (lv_at hl 1 rfl) ?_
  refine zg_Mod_thanks B hP rfl zq_873 zd_Mod_gifts_97 ?_
  refine lv_iload hx hb zd_Mod_gifts_100 (lv_at hl 5 rfl) ?_
  obtain ⟨hg20, hf⟩ := zu_gd_e hf
  refine zr_iald rfl B hP rfl (by decide) rfl hg20 zd_Mod_gifts_102 ?_
  refine lv_aload_n hx hb zd_Mod_gifts_103 rfl (lv_at hl 1 rfl) ?_
  refine zg_Mod_thanks B hP rfl zq_873 zd_Mod_gifts_104 ?_
  refine lv_iload hx hb zd_Mod_gifts_107 (lv_at hl 4 rfl) ?_
  obtain ⟨hg21, hf⟩ := zu_gd_e hf
  refine zr_iald rfl B hP rfl (by decide) rfl hg21 zd_Mod_gifts_109 ?_
  refine lv_icmp_ge (tgt := 118) hx hb zd_Mod_gifts_110 (by decide) (fun c22 => ?_) (fun c22 => ?_)
  · have hf := zu_t c22 hf
    refine lv_iload hx hb zd_Mod_gifts_118 (lv_at hl 4 rfl) ?_
    exact zl_Mod_gifts_L120 B hret hlk hk45 hk59 x2 x3 y0 x7 x6 X _ _ _ hP hS (lv_sub hl [1, 2, 3, 0, 5] rfl) hf
  · have hf := zu_f c22 hf
    refine lv_iload hx hb zd_Mod_gifts_113 (lv_at hl 5 rfl) ?_
    refine lv_goto (tgt := 120) hx hb zd_Mod_gifts_115 (by decide) ?_
    exact zl_Mod_gifts_L120 B hret hlk hk45 hk59 x2 x3 y0 x7 x7 X _ _ _ hP hS (lv_sub hl [1, 2, 3, 0, 5] rfl) hf
set_option maxHeartbeats 4000000 in
theorem zl_Mod_gifts_B59 {p : Program} {l : Launch} {e : Env} {s : State} {m : MethodId} {args : Array Value} {below : List Frame} {meth : Method} {c : Code} {D : va_G} {cA : Nat → ClassId} {ad : Nat → Nat} {A : Nat → Prop} (B : zu_B p s m args c zb_Mod_gifts 10 "StonePostModel" D cA ad A) (hret : meth.sig.returnType = (some .int)) (hlk : meth.locks = false) {Y : LX} {res : Int32 × IX} {k45 : Int32 → Int32 → Int32 → IX → Option (Int32 × IX)} (hk45 : ∀ (x2 : Int32) (x3 : Int32) (x4 : Int32) (X : IX) (H : Heap) (locs : List Loc) (ls : Array Slot), va_P D zu_cl (zu_pic cA ad X Y) H → va_S A s.heap H locs → lv_has ls 10 [(0, .ref (ad 95)), (2, .int x2), (3, .int x3), (4, .int x4)] → k45 x2 x3 x4 X = some res → W p l e zR_Mod_gifts s m args below meth c H locs 0 0 (MQ below (zu_Qi D cA ad A res.1 res.2 Y) args s 0 0 A) (F0 m 45 ls [])) {k59 : Int32 → Int32 → Int32 → Int32 → Int32 → IX → Option (Int32 × IX)} (hk59 : ∀ (x2 : Int32) (x3 : Int32) (x5 : Int32) (x6 : Int32) (x7 : Int32) (X : IX) (H : Heap) (locs : List Loc) (ls : Array Slot), va_P D zu_cl (zu_pic cA ad X Y) H → va_S A s.heap H locs → lv_has ls 10 [(0, .ref (ad 95)), (2, .int x2), (3, .int x3), (5, .int x5), (6, .int x6), (7, .int x7)] → k59 x2 x3 x5 x6 x7 X = some res → W p l e zR_Mod_gifts s m args below meth c H locs 0 0 (MQ below (zu_Qi D cA ad A res.1 res.2 Y) args s 0 0 A) (F0 m 59 ls [])) (x2 : Int32) (x3 : Int32) (x5 : Int32) (x6 : Int32) (x7 : Int32) (X : IX) (H : Heap) (locs : List Loc) (ls : Array Slot) (hP : va_P D zu_cl (zu_pic cA ad X Y) H) (hS : va_S A s.heap H locs) (hl : lv_has ls 10 [(0, .ref (ad 95)), (2, .int x2), (3, .int x3), (5, .int x5), (6, .int x6), (7, .int x7)]) (hf : fn_Mod_gifts_B59 k45 k59 x2 x3 x5 x6 x7 X = some res) : W p l e zR_Mod_gifts s m args below meth c H locs 0 0 (MQ below (zu_Qi D cA ad A res.1 res.2 Y) args s 0 0 A) (F0 m 59 ls []) := by
  obtain ⟨hx, hb, hml, hown, hts, hST⟩ := id B
  unfold fn_Mod_gifts_B59 at hf
  refine lv_iload hx hb zd_Mod_gifts_59 (lv_at hl 5 rfl) ?_
  refine lv_aload_n hx hb zd_Mod_gifts_61 rfl (lv_at hl 0 rfl) ?_
  refine zg_Mod_s B hP rfl zq_861 zd_Mod_gifts_62 ?_
  refine lv_iconst (v := 1) hx hb zd_Mod_gifts_65 (by decide) ?_
  refine zr_iald (j := 1) (by decide) B hP rfl (by decide) rfl (by decide) zd_Mod_gifts_66 ?_
  refine lv_icmp_ge (tgt := 128) hx hb zd_Mod_gifts_67 (by decide) (fun c8 => ?_) (fun c8 => ?_)
  · have hf := zu_t c8 hf
    refine lv_aload_n hx hb zd_Mod_gifts_128 rfl (lv_at hl 0 rfl) ?_
    refine zg_Mod_thanks B hP rfl zq_873 zd_Mod_gifts_129 ?_
    refine lv_iload hx hb zd_Mod_gifts_132 (lv_at hl 3 rfl) ?_
    obtain ⟨hg9, hf⟩ := zu_gd_e hf
    refine zr_iald rfl B hP rfl (by decide) rfl hg9 zd_Mod_gifts_134 ?_
    refine lv_iload_n hx hb zd_Mod_gifts_135 rfl (lv_at hl 1 rfl) ?_
    refine lv_isub hx hb zd_Mod_gifts_136 ?_
    refine zr_nxi hf (fun v10 hf => ?_)
    refine lv_istore (lv' := [(7, .int v10), (0, .ref (ad 95)), (2, .int x2), (3, .int x3), (5, .int x5), (6, .int x6)]) hx hb zd_Mod_gifts_137 hl (by decide) rfl (fun ls hl => ?_)
    refine lv_iload_n hx hb zd_Mod_gifts_139 rfl (lv_at hl 2 rfl) ?_
    refine lv_aload_n hx hb zd_Mod_gifts_140 rfl (lv_at hl 1 rfl) ?_
    refine zg_Mod_thanks B hP rfl zq_873 zd_Mod_gifts_141 ?_
    refine lv_iload hx hb zd_Mod_gifts_144 (lv_at hl 5 rfl) ?_
    obtain ⟨hg11, hf⟩ := zu_gd_e hf
    refine zr_iald rfl B hP rfl (by decide) rfl hg11 zd_Mod_gifts_146 ?_
    refine lv_isub hx hb zd_Mod_gifts_147 ?_
    refine zr_nxi hf (fun v12 hf => ?_)
    refine lv_istore (lv' := [(8, .int v12), (7, .int v10), (0, .ref (ad 95)), (2, .int x2), (3, .int x3), (5, .int x5), (6, .int x6)]) hx hb zd_Mod_gifts_148 hl (by decide) rfl (fun ls hl => ?_)
    refine lv_iload hx hb zd_Mod_gifts_150 (lv_at hl 1 rfl) ?_
    refine lv_if_le (tgt := 164) hx hb zd_Mod_gifts_152 (by decide) (fun c13 => ?_) (fun c13 => ?_)
    · have hf := zu_t c13 hf
      exact zl_Mod_gifts_L164 B hret hlk hk45 x2 x3 x5 x6 v10 v12 X _ _ _ hP hS (lv_sub hl [2, 3, 4, 5, 6, 1, 0] rfl) hf
    · have hf := zu_f c13 hf
      refine lv_iload hx hb zd_Mod_gifts_155 (lv_at hl 0 rfl) ?_
      refine lv_if_le (tgt := 164) hx hb zd_Mod_gifts_157 (by decide) (fun c14 => ?_) (fun c14 => ?_)
      · have hf := zu_t c14 hf
        exact zl_Mod_gifts_L164 B hret hlk hk45 x2 x3 x5 x6 v10 v12 X _ _ _ hP hS (lv_sub hl [2, 3, 4, 5, 6, 1, 0] rfl) hf
      · have hf := zu_f c14 hf
        refine lv_iconst (v := 1) hx hb zd_Mod_gifts_160 (by decide) ?_
        refine lv_goto (tgt := 165) hx hb zd_Mod_gifts_161 (by decide) ?_
        exact zl_Mod_gifts_L165 B hret hlk hk45 x2 x3 x5 x6 v10 v12 (1 : Int32) X _ _ _ hP hS (lv_sub hl [2, 3, 4, 5, 6, 1, 0] rfl) hf
  · have hf := zu_f c8 hf
    refine lv_aload_n hx hb zd_Mod_gifts_70 rfl (lv_at hl 0 rfl) ?_
    refine zg_Mod_thanks B hP rfl zq_873 zd_Mod_gifts_71 ?_
    refine lv_iload hx hb zd_Mod_gifts_74 (lv_at hl 5 rfl) ?_
    obtain ⟨hg15, hf⟩ := zu_gd_e hf
    refine zr_iald rfl B hP rfl (by decide) rfl hg15 zd_Mod_gifts_76 ?_
    refine lv_aload_n hx hb zd_Mod_gifts_77 rfl (lv_at hl 0 rfl) ?_
    refine zg_Mod_thanks B hP rfl zq_873 zd_Mod_gifts_78 ?_
    refine lv_iload hx hb zd_Mod_gifts_81 (lv_at hl 3 rfl) ?_
    obtain ⟨hg16, hf⟩ := zu_gd_e hf
    refine zr_iald rfl B hP rfl (by decide) rfl hg16 zd_Mod_gifts_83 ?_
    refine lv_icmp_le (tgt := 92) hx hb zd_Mod_gifts_84 (by decide) (fun c17 => ?_) (fun c17 => ?_)
    · have hf := zu_t c17 hf
      refine lv_iload hx hb zd_Mod_gifts_92 (lv_at hl 3 rfl) ?_
      exact zl_Mod_gifts_L94 B hret hlk hk45 hk59 x2 x3 x6 x7 x5 X _ _ _ hP hS (lv_sub hl [0, 1, 2, 4, 5] rfl) hf
    · have hf := zu_f c17 hf
      refine lv_iload hx hb zd_Mod_gifts_87 (lv_at hl 5 rfl) ?_
      refine lv_goto (tgt := 94) hx hb zd_Mod_gifts_89 (by decide) ?_
      exact zl_Mod_gifts_L94 B hret hlk hk45 hk59 x2 x3 x6 x7 x7 X _ _ _ hP hS (lv_sub hl [0, 1, 2, 4, 5] rfl) hf
theorem zl_Mod_gifts_L59 {p : Program} {l : Launch} {e : Env} {s : State} {m : MethodId} {args : Array Value} {below : List Frame} {meth : Method} {c : Code} {D : va_G} {cA : Nat → ClassId} {ad : Nat → Nat} {A : Nat → Prop} (B : zu_B p s m args c zb_Mod_gifts 10 "StonePostModel" D cA ad A) (hret : meth.sig.returnType = (some .int)) (hlk : meth.locks = false) {Y : LX} {res : Int32 × IX} {k45 : Int32 → Int32 → Int32 → IX → Option (Int32 × IX)} (hk45 : ∀ (x2 : Int32) (x3 : Int32) (x4 : Int32) (X : IX) (H : Heap) (locs : List Loc) (ls : Array Slot), va_P D zu_cl (zu_pic cA ad X Y) H → va_S A s.heap H locs → lv_has ls 10 [(0, .ref (ad 95)), (2, .int x2), (3, .int x3), (4, .int x4)] → k45 x2 x3 x4 X = some res → W p l e zR_Mod_gifts s m args below meth c H locs 0 0 (MQ below (zu_Qi D cA ad A res.1 res.2 Y) args s 0 0 A) (F0 m 45 ls [])) : ∀ (n : Nat) (x2 : Int32) (x3 : Int32) (x5 : Int32) (x6 : Int32) (x7 : Int32) (X : IX) (H : Heap) (locs : List Loc) (ls : Array Slot), va_P D zu_cl (zu_pic cA ad X Y) H → va_S A s.heap H locs → lv_has ls 10 [(0, .ref (ad 95)), (2, .int x2), (3, .int x3), (5, .int x5), (6, .int x6), (7, .int x7)] → fn_Mod_gifts_L59 k45 n x2 x3 x5 x6 x7 X = some res → W p l e zR_Mod_gifts s m args below meth c H locs 0 0 (MQ below (zu_Qi D cA ad A res.1 res.2 Y) args s 0 0 A) (F0 m 59 ls []) := by
  intro n
  induction n with
  | zero =>
    intro x2 x3 x5 x6 x7 X H locs ls hP hS hl hf
    exact (Option.some_ne_none _ hf.symm).elim
  | succ n ih =>
    intro x2 x3 x5 x6 x7 X H locs ls hP hS hl hf
    exact zl_Mod_gifts_B59 B hret hlk hk45 ih x2 x3 x5 x6 x7 X H locs ls hP hS hl  hf
set_option maxHeartbeats 4000000 in
theorem zl_Mod_gifts_B45 {p : Program} {l : Launch} {e : Env} {s : State} {m : MethodId} {args : Array Value} {below : List Frame} {meth : Method} {c : Code} {D : va_G} {cA : Nat → ClassId} {ad : Nat → Nat} {A : Nat → Prop} (B : zu_B p s m args c zb_Mod_gifts 10 "StonePostModel" D cA ad A) (hret : meth.sig.returnType = (some .int)) (hlk : meth.locks = false) {Y : LX} {res : Int32 × IX} {k45 : Int32 → Int32 → Int32 → IX → Option (Int32 × IX)} (hk45 : ∀ (x2 : Int32) (x3 : Int32) (x4 : Int32) (X : IX) (H : Heap) (locs : List Loc) (ls : Array Slot), va_P D zu_cl (zu_pic cA ad X Y) H → va_S A s.heap H locs → lv_has ls 10 [(0, .ref (ad 95)), (2, .int x2), (3, .int x3), (4, .int x4)] → k45 x2 x3 x4 X = some res → W p l e zR_Mod_gifts s m args below meth c H locs 0 0 (MQ below (zu_Qi D cA ad A res.1 res.2 Y) args s 0 0 A) (F0 m 45 ls [])) (x2 : Int32) (x3 : Int32) (x4 : Int32) (X : IX) (H : Heap) (locs : List Loc) (ls : Array Slot) (hP : va_P D zu_cl (zu_pic cA ad X Y) H) (hS : va_S A s.heap H locs) (hl : lv_has ls 10 [(0, .ref (ad 95)), (2, .int x2), (3, .int x3), (4, .int x4)]) (hf : fn_Mod_gifts_B45 k45 x2 x3 x4 X = some res) : W p l e zR_Mod_gifts s m args below meth c H locs 0 0 (MQ below (zu_Qi D cA ad A res.1 res.2 Y) args s 0 0 A) (F0 m 45 ls []) := by
  obtain ⟨hx, hb, hml, hown, hts, hST⟩ := id B
  unfold fn_Mod_gifts_B45 at hf
  refine lv_iload hx hb zd_Mod_gifts_45 (lv_at hl 3 rfl) ?_
  refine lv_if_eq (tgt := 218) hx hb zd_Mod_gifts_47 (by decide) (fun c7 => ?_) (fun c7 => ?_)
  · have hf := zu_t c7 hf
    refine lv_iload_n hx hb zd_Mod_gifts_218 rfl (lv_at hl 2 rfl) ?_
    obtain rfl := Option.some.inj hf
    exact zr_iret hx hb hret hlk hP hS zd_Mod_gifts_219
  · have hf := zu_f c7 hf
    refine lv_iconst (v := 0) hx hb zd_Mod_gifts_50 (by decide) ?_
    refine lv_istore (lv' := [(5, .int (0 : Int32)), (0, .ref (ad 95)), (2, .int x2), (3, .int x3), (4, .int x4)]) hx hb zd_Mod_gifts_51 hl (by decide) rfl (fun ls hl => ?_)
    refine lv_iconst (v := 0) hx hb zd_Mod_gifts_53 (by decide) ?_
    refine lv_istore (lv' := [(6, .int (0 : Int32)), (5, .int (0 : Int32)), (0, .ref (ad 95)), (2, .int x2), (3, .int x3), (4, .int x4)]) hx hb zd_Mod_gifts_54 hl (by decide) rfl (fun ls hl => ?_)
    refine lv_iconst (v := 1) hx hb zd_Mod_gifts_56 (by decide) ?_
    refine lv_istore (lv' := [(7, .int (1 : Int32)), (6, .int (0 : Int32)), (5, .int (0 : Int32)), (0, .ref (ad 95)), (2, .int x2), (3, .int x3), (4, .int x4)]) hx hb zd_Mod_gifts_57 hl (by decide) rfl (fun ls hl => ?_)
    exact zl_Mod_gifts_L59 B hret hlk hk45 400 x2 x3 (0 : Int32) (0 : Int32) (1 : Int32) X _ _ _ hP hS (lv_sub hl [3, 4, 5, 2, 1, 0] rfl) hf
theorem zl_Mod_gifts_L45 {p : Program} {l : Launch} {e : Env} {s : State} {m : MethodId} {args : Array Value} {below : List Frame} {meth : Method} {c : Code} {D : va_G} {cA : Nat → ClassId} {ad : Nat → Nat} {A : Nat → Prop} (B : zu_B p s m args c zb_Mod_gifts 10 "StonePostModel" D cA ad A) (hret : meth.sig.returnType = (some .int)) (hlk : meth.locks = false) {Y : LX} {res : Int32 × IX} : ∀ (n : Nat) (x2 : Int32) (x3 : Int32) (x4 : Int32) (X : IX) (H : Heap) (locs : List Loc) (ls : Array Slot), va_P D zu_cl (zu_pic cA ad X Y) H → va_S A s.heap H locs → lv_has ls 10 [(0, .ref (ad 95)), (2, .int x2), (3, .int x3), (4, .int x4)] → fn_Mod_gifts_L45 n x2 x3 x4 X = some res → W p l e zR_Mod_gifts s m args below meth c H locs 0 0 (MQ below (zu_Qi D cA ad A res.1 res.2 Y) args s 0 0 A) (F0 m 45 ls []) := by
  intro n
  induction n with
  | zero =>
    intro x2 x3 x4 X H locs ls hP hS hl hf
    exact (Option.some_ne_none _ hf.symm).elim
  | succ n ih =>
    intro x2 x3 x4 X H locs ls hP hS hl hf
    exact zl_Mod_gifts_B45 B hret hlk ih x2 x3 x4 X H locs ls hP hS hl  hf
set_option maxHeartbeats 4000000 in
theorem zl_Mod_gifts_L43 {p : Program} {l : Launch} {e : Env} {s : State} {m : MethodId} {args : Array Value} {below : List Frame} {meth : Method} {c : Code} {D : va_G} {cA : Nat → ClassId} {ad : Nat → Nat} {A : Nat → Prop} (B : zu_B p s m args c zb_Mod_gifts 10 "StonePostModel" D cA ad A) (hret : meth.sig.returnType = (some .int)) (hlk : meth.locks = false) {Y : LX} {res : Int32 × IX} (x2 : Int32) (x3 : Int32) (y0 : Int32) (X : IX) (H : Heap) (locs : List Loc) (ls : Array Slot) (hP : va_P D zu_cl (zu_pic cA ad X Y) H) (hS : va_S A s.heap H locs) (hl : lv_has ls 10 [(0, .ref (ad 95)), (2, .int x2), (3, .int x3)]) (hf : fn_Mod_gifts_L43 x2 x3 y0 X = some res) : W p l e zR_Mod_gifts s m args below meth c H locs 0 0 (MQ below (zu_Qi D cA ad A res.1 res.2 Y) args s 0 0 A) (F0 m 43 ls [.int y0]) := by
  obtain ⟨hx, hb, hml, hown, hts, hST⟩ := id B
  unfold fn_Mod_gifts_L43 at hf
  refine lv_istore (lv' := [(4, .int y0), (0, .ref (ad 95)), (2, .int x2), (3, .int x3)]) hx hb zd_Mod_gifts_43 hl (by decide) rfl (fun ls hl => ?_)
  exact zl_Mod_gifts_L45 B hret hlk 400 x2 x3 y0 X _ _ _ hP hS (lv_sub hl [1, 2, 3, 0] rfl) hf
set_option maxHeartbeats 4000000 in
theorem zl_Mod_gifts_L26 {p : Program} {l : Launch} {e : Env} {s : State} {m : MethodId} {args : Array Value} {below : List Frame} {meth : Method} {c : Code} {D : va_G} {cA : Nat → ClassId} {ad : Nat → Nat} {A : Nat → Prop} (B : zu_B p s m args c zb_Mod_gifts 10 "StonePostModel" D cA ad A) (hret : meth.sig.returnType = (some .int)) (hlk : meth.locks = false) {Y : LX} {res : Int32 × IX} (y0 : Int32) (X : IX) (H : Heap) (locs : List Loc) (ls : Array Slot) (hP : va_P D zu_cl (zu_pic cA ad X Y) H) (hS : va_S A s.heap H locs) (hl : lv_has ls 10 [(0, .ref (ad 95))]) (hf : fn_Mod_gifts_L26 y0 X = some res) : W p l e zR_Mod_gifts s m args below meth c H locs 0 0 (MQ below (zu_Qi D cA ad A res.1 res.2 Y) args s 0 0 A) (F0 m 26 ls [.int y0]) := by
  obtain ⟨hx, hb, hml, hown, hts, hST⟩ := id B
  unfold fn_Mod_gifts_L26 at hf
  refine lv_istore_n (lv' := [(2, .int y0), (0, .ref (ad 95))]) hx hb zd_Mod_gifts_26 rfl hl (by decide) rfl (fun ls hl => ?_)
  refine lv_iconst (v := 0) hx hb zd_Mod_gifts_27 (by decide) ?_
  refine lv_istore_n (lv' := [(3, .int (0 : Int32)), (2, .int y0), (0, .ref (ad 95))]) hx hb zd_Mod_gifts_28 rfl hl (by decide) rfl (fun ls hl => ?_)
  refine lv_aload_n hx hb zd_Mod_gifts_29 rfl (lv_at hl 2 rfl) ?_
  refine zg_Mod_s B hP rfl zq_861 zd_Mod_gifts_30 ?_
  refine lv_iconst (v := 1) hx hb zd_Mod_gifts_33 (by decide) ?_
  refine zr_iald (j := 1) (by decide) B hP rfl (by decide) rfl (by decide) zd_Mod_gifts_34 ?_
  refine lv_if_le (tgt := 42) hx hb zd_Mod_gifts_35 (by decide) (fun c6 => ?_) (fun c6 => ?_)
  · have hf := zu_t c6 hf
    refine lv_iconst (v := 0) hx hb zd_Mod_gifts_42 (by decide) ?_
    exact zl_Mod_gifts_L43 B hret hlk y0 (0 : Int32) (0 : Int32) X _ _ _ hP hS (lv_sub hl [2, 1, 0] rfl) hf
  · have hf := zu_f c6 hf
    refine lv_iconst (v := 1) hx hb zd_Mod_gifts_38 (by decide) ?_
    refine lv_goto (tgt := 43) hx hb zd_Mod_gifts_39 (by decide) ?_
    exact zl_Mod_gifts_L43 B hret hlk y0 (0 : Int32) (1 : Int32) X _ _ _ hP hS (lv_sub hl [2, 1, 0] rfl) hf
set_option maxHeartbeats 4000000 in
theorem zl_Mod_gifts {p : Program} {l : Launch} {e : Env} {s : State} {m : MethodId} {args : Array Value} {below : List Frame} {meth : Method} {c : Code} {D : va_G} {cA : Nat → ClassId} {ad : Nat → Nat} {A : Nat → Prop} (B : zu_B p s m args c zb_Mod_gifts 10 "StonePostModel" D cA ad A) (hret : meth.sig.returnType = (some .int)) (hlk : meth.locks = false) {Y : LX} {res : Int32 × IX} {X : IX} (H : Heap) (locs : List Loc) (ls : Array Slot) (hP : va_P D zu_cl (zu_pic cA ad X Y) H) (hS : va_S A s.heap H locs) (hl : lv_has ls 10 [(0, .ref (ad 95))]) (hf : fn_Mod_gifts X = some res) : W p l e zR_Mod_gifts s m args below meth c H locs 0 0 (MQ below (zu_Qi D cA ad A res.1 res.2 Y) args s 0 0 A) (F0 m 0 ls []) := by
  obtain ⟨hx, hb, hml, hown, hts, hST⟩ := id B
  unfold fn_Mod_gifts at hf
  refine lv_aload_n hx hb zd_Mod_gifts_0 rfl (lv_at hl 0 rfl) ?_
  obtain ⟨v1, X2, hq3, hf⟩ := zu_b2_e hf
  refine zw_Mod_thanksOf (rest := []) B hP hS hq3 zq_1222 (Nat.le_of_ble_eq_true rfl) (Nat.le_of_ble_eq_true rfl) hl.1 rfl (Nat.le_of_ble_eq_true rfl) zd_Mod_gifts_1 (by decide) (fun H locs hP hS => ?_)
  clear hq3
  refine lv_istore_n (lv' := [(1, .int v1), (0, .ref (ad 95))]) hx hb zd_Mod_gifts_4 rfl hl (by decide) rfl (fun ls hl => ?_)
  refine lv_aload_n hx hb zd_Mod_gifts_5 rfl (lv_at hl 1 rfl) ?_
  refine zg_Mod_s B hP rfl zq_861 zd_Mod_gifts_6 ?_
  refine lv_iconst (v := 1) hx hb zd_Mod_gifts_9 (by decide) ?_
  refine zr_iald (j := 1) (by decide) B hP rfl (by decide) rfl (by decide) zd_Mod_gifts_10 ?_
  refine lv_if_ne (tgt := 18) hx hb zd_Mod_gifts_11 (by decide) (fun c4 => ?_) (fun c4 => ?_)
  · have hf := zu_f c4 hf
    refine lv_iload_n hx hb zd_Mod_gifts_18 rfl (lv_at hl 0 rfl) ?_
    refine lv_aload_n hx hb zd_Mod_gifts_19 rfl (lv_at hl 1 rfl) ?_
    refine zg_Mod_s B hP rfl zq_861 zd_Mod_gifts_20 ?_
    refine lv_iconst (v := 1) hx hb zd_Mod_gifts_23 (by decide) ?_
    refine zr_iald (j := 1) (by decide) B hP rfl (by decide) rfl (by decide) zd_Mod_gifts_24 ?_
    obtain ⟨hg5, hf⟩ := zu_gd_e hf
    refine lv_idiv hx hb zd_Mod_gifts_25 (of_decide_eq_true hg5) ?_
    exact zl_Mod_gifts_L26 B hret hlk (v1 / (X2 96 1)) X2 _ _ _ hP hS (lv_sub hl [1] rfl) hf
  · have hf := zu_t c4 hf
    refine lv_iconst (v := 0) hx hb zd_Mod_gifts_14 (by decide) ?_
    refine lv_goto (tgt := 26) hx hb zd_Mod_gifts_15 (by decide) ?_
    exact zl_Mod_gifts_L26 B hret hlk (0 : Int32) X2 _ _ _ hP hS (lv_sub hl [1] rfl) hf
theorem zC_Mod_gifts (l : Launch) {D : va_G} {cA : Nat → ClassId} {ad : Nat → Nat} {A : Nat → Prop} {X : IX} {Y : LX} {res : Int32 × IX} (hf : fn_Mod_gifts X = some res) : Met l zm_Mod_gifts (zu_ws zm_Mod_gifts zb_Mod_gifts 10 (some .int)) zR_Mod_gifts (va_Pc [.ref (ad 95)] (zu_Pre D cA ad A X Y)) (zu_Qi D cA ad A res.1 res.2 Y) 0 0 A := by
  refine Met.ofW (cc := zb_Mod_gifts) (maxL := 10) (ret := (some .int)) (by decide +kernel) rfl ?_
  intro p e s m args below meth c s₁ B0 hml hv
  obtain ⟨rfl, hP, hST⟩ := hv
  have B : zu_B p s m _ c zb_Mod_gifts 10 "StonePostModel" D cA ad A := ⟨B0.exec, B0.bytes, hml, findClass_of_methodNamed B0.named, (fun w hw => atoms_spec (ws := zu_ws zm_Mod_gifts zb_Mod_gifts 10 (some .int)) B0.pre w (List.mem_cons_of_mem _ hw)), hST⟩
  have hl := lv_entry ([.ref (ad 95)]) (n := 10) (Nat.le_of_ble_eq_true rfl)
  rw [lg_entry_eq]
  generalize (lg_sl ([.ref (ad 95)]) ++ List.replicate (10 - (lg_sl ([.ref (ad 95)])).length) Slot.unset).toArray = ls at hl ⊢
  exact zl_Mod_gifts B B0.returns B0.notSynchronized s.heap [] ls hP va_S.rf hl  hf
theorem zw_Mod_gifts {p : Program} {l : Launch} {e : Env} {R : Room} {s : State} {m : MethodId} {args : Array Value} {below : List Frame} {meth : Method} {c : Code} {H : Heap} {locs : List Loc} {cells slots : Nat} {Q : State → Prop} {cc : ByteArray} {pc nL : Nat} {ls : Array Slot} {rest st0 : List Value} {D : va_G} {cA : Nat → ClassId} {ad : Nat → Nat} {A : Nat → Prop} {X : IX} {Y : LX} {own : String} {index : Nat} {v1 : Int32} {X1 : IX} (B : zu_B p s m args c cc nL own D cA ad A) (hP : va_P D zu_cl (zu_pic cA ad X Y) H) (hS : va_S A s.heap H locs) (hq : fn_Mod_gifts X = some (v1, X1)) (m1 : Cond.methodLink own index zm_Mod_gifts ∈ zu_TB) (hR1 : 3 + 1 ≤ R.frames) (hR2 : 8 + (10 + 11) + 65 ≤ R.locals) (hsz : ls.size = nL) (hst : st0 = .ref (ad 95) :: rest) (hw : (rest.map fun v => v.category).sum ≤ 8) (hdg : decode cc pc = .ok (.invokevirtual index, 3)) (h00 : cells ≤ R.cells ∧ slots ≤ R.slots) (kk : ∀ (H1 : Heap) (locs1 : List Loc), va_P D zu_cl (zu_pic cA ad X1 Y) H1 → va_S A s.heap H1 locs1 → W p l e R s m args below meth c H1 locs1 cells slots Q (F0 m (pc + 3) ls (.int v1 :: rest))) : W p l e R s m args below meth c H locs cells slots Q (F0 m pc ls st0) := by
  subst hst
  exact zr_cVi (As := []) (rest := rest) (n := 0) (C := "StonePostModel") (T := zt_Mod) (N := 23) B hP hS (zC_Mod_gifts l  hq) (K := 7) rfl (by decide) (by decide) rfl rfl m1 zq_1219 zq_1220 zq_8 zq_1221 (by decide +kernel) ⟨hR1, hR2⟩ rfl rfl rfl hsz rfl hw hdg h00 kk
abbrev zR_Mod_seed : Room := { frames := 0, cells := 0, slots := 0, locals := 0 }
theorem zd_Mod_seed_0 : decode zb_Mod_seed 0 = .ok (.aload_n 0, 1) := by decide +kernel
theorem zd_Mod_seed_1 : decode zb_Mod_seed 1 = .ok (.getfield 7, 3) := by decide +kernel
theorem zd_Mod_seed_4 : decode zb_Mod_seed 4 = .ok (.iconst 5, 1) := by decide +kernel
theorem zd_Mod_seed_5 : decode zb_Mod_seed 5 = .ok (.iaload, 1) := by decide +kernel
theorem zd_Mod_seed_6 : decode zb_Mod_seed 6 = .ok (.istore_n 2, 1) := by decide +kernel
theorem zd_Mod_seed_7 : decode zb_Mod_seed 7 = .ok (.aload_n 0, 1) := by decide +kernel
theorem zd_Mod_seed_8 : decode zb_Mod_seed 8 = .ok (.getfield 7, 3) := by decide +kernel
theorem zd_Mod_seed_11 : decode zb_Mod_seed 11 = .ok (.iconst 5, 1) := by decide +kernel
theorem zd_Mod_seed_12 : decode zb_Mod_seed 12 = .ok (.iload_n 1, 1) := by decide +kernel
theorem zd_Mod_seed_13 : decode zb_Mod_seed 13 = .ok (.iastore, 1) := by decide +kernel
theorem zd_Mod_seed_14 : decode zb_Mod_seed 14 = .ok (.iload_n 2, 1) := by decide +kernel
theorem zd_Mod_seed_15 : decode zb_Mod_seed 15 = .ok (.ireturn, 1) := by decide +kernel
set_option maxHeartbeats 4000000 in
theorem zl_Mod_seed {p : Program} {l : Launch} {e : Env} {s : State} {m : MethodId} {args : Array Value} {below : List Frame} {meth : Method} {c : Code} {D : va_G} {cA : Nat → ClassId} {ad : Nat → Nat} {A : Nat → Prop} (B : zu_B p s m args c zb_Mod_seed 3 "StonePostModel" D cA ad A) (hret : meth.sig.returnType = (some .int)) (hlk : meth.locks = false) {Y : LX} {res : Int32 × IX} {a1 : Int32} {X : IX} (H : Heap) (locs : List Loc) (ls : Array Slot) (hP : va_P D zu_cl (zu_pic cA ad X Y) H) (hS : va_S A s.heap H locs) (hl : lv_has ls 3 [(0, .ref (ad 95)), (1, .int a1)]) (hf : fn_Mod_seed a1 X = some res) : W p l e zR_Mod_seed s m args below meth c H locs 0 0 (MQ below (zu_Qi D cA ad A res.1 res.2 Y) args s 0 0 A) (F0 m 0 ls []) := by
  obtain ⟨hx, hb, hml, hown, hts, hST⟩ := id B
  unfold fn_Mod_seed at hf
  refine lv_aload_n hx hb zd_Mod_seed_0 rfl (lv_at hl 0 rfl) ?_
  refine zg_Mod_s B hP rfl zq_861 zd_Mod_seed_1 ?_
  refine lv_iconst (v := 5) hx hb zd_Mod_seed_4 (by decide) ?_
  refine zr_iald (j := 5) (by decide) B hP rfl (by decide) rfl (by decide) zd_Mod_seed_5 ?_
  refine zr_nxi hf (fun v1 hf => ?_)
  refine lv_istore_n (lv' := [(2, .int v1), (0, .ref (ad 95)), (1, .int a1)]) hx hb zd_Mod_seed_6 rfl hl (by decide) rfl (fun ls hl => ?_)
  refine lv_aload_n hx hb zd_Mod_seed_7 rfl (lv_at hl 1 rfl) ?_
  refine zg_Mod_s B hP rfl zq_861 zd_Mod_seed_8 ?_
  refine lv_iconst (v := 5) hx hb zd_Mod_seed_11 (by decide) ?_
  refine lv_iload_n hx hb zd_Mod_seed_12 rfl (lv_at hl 2 rfl) ?_
  refine zr_iast (j := 5) (by decide) B hP hS hf rfl (by decide) rfl (by decide) zd_Mod_seed_13 (fun X2 H locs hf hP hS => ?_)
  refine lv_iload_n hx hb zd_Mod_seed_14 rfl (lv_at hl 0 rfl) ?_
  obtain rfl := Option.some.inj hf
  exact zr_iret hx hb hret hlk hP hS zd_Mod_seed_15
theorem zC_Mod_seed (l : Launch) {D : va_G} {cA : Nat → ClassId} {ad : Nat → Nat} {A : Nat → Prop} {a1 : Int32} {X : IX} {Y : LX} {res : Int32 × IX} (hf : fn_Mod_seed a1 X = some res) : Met l zm_Mod_seed (zu_ws zm_Mod_seed zb_Mod_seed 3 (some .int)) zR_Mod_seed (va_Pc [.ref (ad 95), .int a1] (zu_Pre D cA ad A X Y)) (zu_Qi D cA ad A res.1 res.2 Y) 0 0 A := by
  refine Met.ofW (cc := zb_Mod_seed) (maxL := 3) (ret := (some .int)) (by decide +kernel) rfl ?_
  intro p e s m args below meth c s₁ B0 hml hv
  obtain ⟨rfl, hP, hST⟩ := hv
  have B : zu_B p s m _ c zb_Mod_seed 3 "StonePostModel" D cA ad A := ⟨B0.exec, B0.bytes, hml, findClass_of_methodNamed B0.named, (fun w hw => atoms_spec (ws := zu_ws zm_Mod_seed zb_Mod_seed 3 (some .int)) B0.pre w (List.mem_cons_of_mem _ hw)), hST⟩
  have hl := lv_entry ([.ref (ad 95), .int a1]) (n := 3) (Nat.le_of_ble_eq_true rfl)
  rw [lg_entry_eq]
  generalize (lg_sl ([.ref (ad 95), .int a1]) ++ List.replicate (3 - (lg_sl ([.ref (ad 95), .int a1])).length) Slot.unset).toArray = ls at hl ⊢
  exact zl_Mod_seed B B0.returns B0.notSynchronized s.heap [] ls hP va_S.rf hl  hf
theorem zw_Mod_seed {p : Program} {l : Launch} {e : Env} {R : Room} {s : State} {m : MethodId} {args : Array Value} {below : List Frame} {meth : Method} {c : Code} {H : Heap} {locs : List Loc} {cells slots : Nat} {Q : State → Prop} {cc : ByteArray} {pc nL : Nat} {ls : Array Slot} {rest st0 : List Value} {D : va_G} {cA : Nat → ClassId} {ad : Nat → Nat} {A : Nat → Prop} {X : IX} {Y : LX} {own : String} {index : Nat} {a1 : Int32} {v1 : Int32} {X1 : IX} (B : zu_B p s m args c cc nL own D cA ad A) (hP : va_P D zu_cl (zu_pic cA ad X Y) H) (hS : va_S A s.heap H locs) (hq : fn_Mod_seed a1 X = some (v1, X1)) (m1 : Cond.methodLink own index zm_Mod_seed ∈ zu_TB) (hR1 : 0 + 1 ≤ R.frames) (hR2 : 8 + (3 + 11) + 0 ≤ R.locals) (hsz : ls.size = nL) (hst : st0 = .int a1 :: .ref (ad 95) :: rest) (hw : (rest.map fun v => v.category).sum ≤ 8) (hdg : decode cc pc = .ok (.invokevirtual index, 3)) (h00 : cells ≤ R.cells ∧ slots ≤ R.slots) (kk : ∀ (H1 : Heap) (locs1 : List Loc), va_P D zu_cl (zu_pic cA ad X1 Y) H1 → va_S A s.heap H1 locs1 → W p l e R s m args below meth c H1 locs1 cells slots Q (F0 m (pc + 3) ls (.int v1 :: rest))) : W p l e R s m args below meth c H locs cells slots Q (F0 m pc ls st0) := by
  subst hst
  exact zr_cVi (As := [.int a1]) (rest := rest) (n := 1) (C := "StonePostModel") (T := zt_Mod) (N := 23) B hP hS (zC_Mod_seed l  hq) (K := 7) rfl (by decide) (by decide) rfl rfl m1 zq_1227 zq_1228 zq_8 zq_1229 (by decide +kernel) ⟨hR1, hR2⟩ rfl rfl rfl hsz rfl hw hdg h00 kk
abbrev zR_Mod_feed : Room := { frames := 1, cells := 0, slots := 0, locals := 25 }
theorem zd_Mod_feed_0 : decode zb_Mod_feed 0 = .ok (.iload_n 2, 1) := by decide +kernel
theorem zd_Mod_feed_1 : decode zb_Mod_feed 1 = .ok (.i2l, 1) := by decide +kernel
theorem zd_Mod_feed_2 : decode zb_Mod_feed 2 = .ok (.lconst 1, 1) := by decide +kernel
theorem zd_Mod_feed_3 : decode zb_Mod_feed 3 = .ok (.ldc2_w 230, 3) := by decide +kernel
theorem zd_Mod_feed_6 : decode zb_Mod_feed 6 = .ok (.invokestatic 53, 3) := by decide +kernel
theorem zd_Mod_feed_9 : decode zb_Mod_feed 9 = .ok (.ifCond .ne 10, 3) := by decide +kernel
theorem zd_Mod_feed_12 : decode zb_Mod_feed 12 = .ok (.aload_n 0, 1) := by decide +kernel
theorem zd_Mod_feed_13 : decode zb_Mod_feed 13 = .ok (.ldc 50, 2) := by decide +kernel
theorem zd_Mod_feed_15 : decode zb_Mod_feed 15 = .ok (.invokevirtual 64, 3) := by decide +kernel
theorem zd_Mod_feed_18 : decode zb_Mod_feed 18 = .ok (.ireturn, 1) := by decide +kernel
theorem zd_Mod_feed_19 : decode zb_Mod_feed 19 = .ok (.aload_n 0, 1) := by decide +kernel
theorem zd_Mod_feed_20 : decode zb_Mod_feed 20 = .ok (.getfield 232, 3) := by decide +kernel
theorem zd_Mod_feed_23 : decode zb_Mod_feed 23 = .ok (.iload_n 2, 1) := by decide +kernel
theorem zd_Mod_feed_24 : decode zb_Mod_feed 24 = .ok (.iadd, 1) := by decide +kernel
theorem zd_Mod_feed_25 : decode zb_Mod_feed 25 = .ok (.bipush 120, 2) := by decide +kernel
theorem zd_Mod_feed_27 : decode zb_Mod_feed 27 = .ok (.if_icmp .le 10, 3) := by decide +kernel
theorem zd_Mod_feed_30 : decode zb_Mod_feed 30 = .ok (.aload_n 0, 1) := by decide +kernel
theorem zd_Mod_feed_31 : decode zb_Mod_feed 31 = .ok (.ldc 83, 2) := by decide +kernel
theorem zd_Mod_feed_33 : decode zb_Mod_feed 33 = .ok (.invokevirtual 64, 3) := by decide +kernel
theorem zd_Mod_feed_36 : decode zb_Mod_feed 36 = .ok (.ireturn, 1) := by decide +kernel
theorem zd_Mod_feed_37 : decode zb_Mod_feed 37 = .ok (.iload_n 2, 1) := by decide +kernel
theorem zd_Mod_feed_38 : decode zb_Mod_feed 38 = .ok (.iconst 1, 1) := by decide +kernel
theorem zd_Mod_feed_39 : decode zb_Mod_feed 39 = .ok (.isub, 1) := by decide +kernel
theorem zd_Mod_feed_40 : decode zb_Mod_feed 40 = .ok (.istore_n 3, 1) := by decide +kernel
theorem zd_Mod_feed_41 : decode zb_Mod_feed 41 = .ok (.iload_n 3, 1) := by decide +kernel
theorem zd_Mod_feed_42 : decode zb_Mod_feed 42 = .ok (.ifCond .lt 38, 3) := by decide +kernel
theorem zd_Mod_feed_45 : decode zb_Mod_feed 45 = .ok (.aload_n 0, 1) := by decide +kernel
theorem zd_Mod_feed_46 : decode zb_Mod_feed 46 = .ok (.getfield 35, 3) := by decide +kernel
theorem zd_Mod_feed_49 : decode zb_Mod_feed 49 = .ok (.aload_n 0, 1) := by decide +kernel
theorem zd_Mod_feed_50 : decode zb_Mod_feed 50 = .ok (.getfield 232, 3) := by decide +kernel
theorem zd_Mod_feed_53 : decode zb_Mod_feed 53 = .ok (.iload_n 1, 1) := by decide +kernel
theorem zd_Mod_feed_54 : decode zb_Mod_feed 54 = .ok (.bipush 8, 2) := by decide +kernel
theorem zd_Mod_feed_56 : decode zb_Mod_feed 56 = .ok (.iload_n 3, 1) := by decide +kernel
theorem zd_Mod_feed_57 : decode zb_Mod_feed 57 = .ok (.imul, 1) := by decide +kernel
theorem zd_Mod_feed_58 : decode zb_Mod_feed 58 = .ok (.ishr, 1) := by decide +kernel
theorem zd_Mod_feed_59 : decode zb_Mod_feed 59 = .ok (.sipush 255, 3) := by decide +kernel
theorem zd_Mod_feed_62 : decode zb_Mod_feed 62 = .ok (.iand, 1) := by decide +kernel
theorem zd_Mod_feed_63 : decode zb_Mod_feed 63 = .ok (.iastore, 1) := by decide +kernel
theorem zd_Mod_feed_64 : decode zb_Mod_feed 64 = .ok (.aload_n 0, 1) := by decide +kernel
theorem zd_Mod_feed_65 : decode zb_Mod_feed 65 = .ok (.dup, 1) := by decide +kernel
theorem zd_Mod_feed_66 : decode zb_Mod_feed 66 = .ok (.getfield 232, 3) := by decide +kernel
theorem zd_Mod_feed_69 : decode zb_Mod_feed 69 = .ok (.iconst 1, 1) := by decide +kernel
theorem zd_Mod_feed_70 : decode zb_Mod_feed 70 = .ok (.iadd, 1) := by decide +kernel
theorem zd_Mod_feed_71 : decode zb_Mod_feed 71 = .ok (.putfield 232, 3) := by decide +kernel
theorem zd_Mod_feed_74 : decode zb_Mod_feed 74 = .ok (.iinc 3 (-1), 3) := by decide +kernel
theorem zd_Mod_feed_77 : decode zb_Mod_feed 77 = .ok (.goto (-36), 3) := by decide +kernel
theorem zd_Mod_feed_80 : decode zb_Mod_feed 80 = .ok (.aload_n 0, 1) := by decide +kernel
theorem zd_Mod_feed_81 : decode zb_Mod_feed 81 = .ok (.getfield 232, 3) := by decide +kernel
theorem zd_Mod_feed_84 : decode zb_Mod_feed 84 = .ok (.ireturn, 1) := by decide +kernel
set_option maxHeartbeats 4000000 in
theorem zl_Mod_feed_B41 {p : Program} {l : Launch} {e : Env} {s : State} {m : MethodId} {args : Array Value} {below : List Frame} {meth : Method} {c : Code} {D : va_G} {cA : Nat → ClassId} {ad : Nat → Nat} {A : Nat → Prop} (B : zu_B p s m args c zb_Mod_feed 4 "StonePostModel" D cA ad A) (hret : meth.sig.returnType = (some .int)) (hlk : meth.locks = false) {Y : LX} {res : Int32 × IX} {k41 : Int32 → Int32 → IX → Option (Int32 × IX)} (hk41 : ∀ (x1 : Int32) (x3 : Int32) (X : IX) (H : Heap) (locs : List Loc) (ls : Array Slot), va_P D zu_cl (zu_pic cA ad X Y) H → va_S A s.heap H locs → lv_has ls 4 [(0, .ref (ad 95)), (1, .int x1), (3, .int x3)] → k41 x1 x3 X = some res → W p l e zR_Mod_feed s m args below meth c H locs 0 0 (MQ below (zu_Qi D cA ad A res.1 res.2 Y) args s 0 0 A) (F0 m 41 ls [])) (x1 : Int32) (x3 : Int32) (X : IX) (H : Heap) (locs : List Loc) (ls : Array Slot) (hP : va_P D zu_cl (zu_pic cA ad X Y) H) (hS : va_S A s.heap H locs) (hl : lv_has ls 4 [(0, .ref (ad 95)), (1, .int x1), (3, .int x3)]) (hf : fn_Mod_feed_B41 k41 x1 x3 X = some res) : W p l e zR_Mod_feed s m args below meth c H locs 0 0 (MQ below (zu_Qi D cA ad A res.1 res.2 Y) args s 0 0 A) (F0 m 41 ls []) := by
  obtain ⟨hx, hb, hml, hown, hts, hST⟩ := id B
  unfold fn_Mod_feed_B41 at hf
  refine lv_iload_n hx hb zd_Mod_feed_41 rfl (lv_at hl 2 rfl) ?_
  refine lv_if_lt (tgt := 80) hx hb zd_Mod_feed_42 (by decide) (fun c12 => ?_) (fun c12 => ?_)
  · have hf := zu_t c12 hf
    refine lv_aload_n hx hb zd_Mod_feed_80 rfl (lv_at hl 0 rfl) ?_
    refine zg_Mod_taped B hP rfl zq_875 zd_Mod_feed_81 ?_
    obtain rfl := Option.some.inj hf
    exact zr_iret hx hb hret hlk hP hS zd_Mod_feed_84
  · have hf := zu_f c12 hf
    refine lv_aload_n hx hb zd_Mod_feed_45 rfl (lv_at hl 0 rfl) ?_
    refine zg_Mod_tape B hP rfl zq_874 zd_Mod_feed_46 ?_
    refine lv_aload_n hx hb zd_Mod_feed_49 rfl (lv_at hl 0 rfl) ?_
    refine zg_Mod_taped B hP rfl zq_875 zd_Mod_feed_50 ?_
    refine lv_iload_n hx hb zd_Mod_feed_53 rfl (lv_at hl 1 rfl) ?_
    refine lv_bipush (v := 8) hx hb zd_Mod_feed_54 (by decide) ?_
    refine lv_iload_n hx hb zd_Mod_feed_56 rfl (lv_at hl 2 rfl) ?_
    refine lv_imul hx hb zd_Mod_feed_57 ?_
    refine lv_ishr hx hb zd_Mod_feed_58 ?_
    refine lv_sipush (v := 255) hx hb zd_Mod_feed_59 (by decide) ?_
    refine lv_iand hx hb zd_Mod_feed_62 ?_
    obtain ⟨hg13, hf⟩ := zu_gd_e hf
    refine zr_iast rfl B hP hS hf rfl (by decide) rfl hg13 zd_Mod_feed_63 (fun X14 H locs hf hP hS => ?_)
    refine lv_aload_n hx hb zd_Mod_feed_64 rfl (lv_at hl 0 rfl) ?_
    refine lv_dup hx hb zd_Mod_feed_65 rfl ?_
    refine zg_Mod_taped B hP rfl zq_875 zd_Mod_feed_66 ?_
    refine lv_iconst (v := 1) hx hb zd_Mod_feed_69 (by decide) ?_
    refine lv_iadd hx hb zd_Mod_feed_70 ?_
    refine zp_Mod_taped B hP hS hf rfl zq_875 zd_Mod_feed_71 (fun X15 H locs hf hP hS => ?_)
    obtain ⟨v16, ev16, hf⟩ := zu_nx_e hf
    refine lv_iinc (v := v16) (lv' := [(3, .int v16), (0, .ref (ad 95)), (1, .int x1)]) hx hb zd_Mod_feed_74 hl (k := 2) rfl (by rw [ev16]; rfl) (by decide) rfl (fun ls hl => ?_)
    clear ev16
    refine lv_goto (tgt := 41) hx hb zd_Mod_feed_77 (by decide) ?_
    exact hk41 x1 v16 X15 _ _ _ hP hS (lv_sub hl [1, 2, 0] rfl) hf
theorem zl_Mod_feed_L41 {p : Program} {l : Launch} {e : Env} {s : State} {m : MethodId} {args : Array Value} {below : List Frame} {meth : Method} {c : Code} {D : va_G} {cA : Nat → ClassId} {ad : Nat → Nat} {A : Nat → Prop} (B : zu_B p s m args c zb_Mod_feed 4 "StonePostModel" D cA ad A) (hret : meth.sig.returnType = (some .int)) (hlk : meth.locks = false) {Y : LX} {res : Int32 × IX} : ∀ (n : Nat) (x1 : Int32) (x3 : Int32) (X : IX) (H : Heap) (locs : List Loc) (ls : Array Slot), va_P D zu_cl (zu_pic cA ad X Y) H → va_S A s.heap H locs → lv_has ls 4 [(0, .ref (ad 95)), (1, .int x1), (3, .int x3)] → fn_Mod_feed_L41 n x1 x3 X = some res → W p l e zR_Mod_feed s m args below meth c H locs 0 0 (MQ below (zu_Qi D cA ad A res.1 res.2 Y) args s 0 0 A) (F0 m 41 ls []) := by
  intro n
  induction n with
  | zero =>
    intro x1 x3 X H locs ls hP hS hl hf
    exact (Option.some_ne_none _ hf.symm).elim
  | succ n ih =>
    intro x1 x3 X H locs ls hP hS hl hf
    exact zl_Mod_feed_B41 B hret hlk ih x1 x3 X H locs ls hP hS hl  hf
set_option maxHeartbeats 4000000 in
theorem zl_Mod_feed {p : Program} {l : Launch} {e : Env} {s : State} {m : MethodId} {args : Array Value} {below : List Frame} {meth : Method} {c : Code} {D : va_G} {cA : Nat → ClassId} {ad : Nat → Nat} {A : Nat → Prop} (B : zu_B p s m args c zb_Mod_feed 4 "StonePostModel" D cA ad A) (hret : meth.sig.returnType = (some .int)) (hlk : meth.locks = false) {Y : LX} {res : Int32 × IX} {a1 : Int32} {a2 : Int32} {X : IX} (H : Heap) (locs : List Loc) (ls : Array Slot) (hP : va_P D zu_cl (zu_pic cA ad X Y) H) (hS : va_S A s.heap H locs) (hl : lv_has ls 4 [(0, .ref (ad 95)), (1, .int a1), (2, .int a2)]) (hf : fn_Mod_feed a1 a2 X = some res) : W p l e zR_Mod_feed s m args below meth c H locs 0 0 (MQ below (zu_Qi D cA ad A res.1 res.2 Y) args s 0 0 A) (F0 m 0 ls []) := by
  obtain ⟨hx, hb, hml, hown, hts, hST⟩ := id B
  unfold fn_Mod_feed at hf
  refine lv_iload_n hx hb zd_Mod_feed_0 rfl (lv_at hl 2 rfl) ?_
  refine lv_i2l hx hb zd_Mod_feed_1 rfl ?_
  refine lv_lconst (v := 1) hx hb zd_Mod_feed_2 (by decide) ?_
  refine lv_ldc2 (v := 4) hx hb hown (hts _ zq_1234) zd_Mod_feed_3 ?_
  obtain ⟨v1, hq2, hf⟩ := zu_b1_e hf
  refine zw_Mod_in (rest := []) B hP hS hq2 zq_939 (Nat.le_of_ble_eq_true rfl) (Nat.le_of_ble_eq_true rfl) hl.1 rfl (Nat.le_of_ble_eq_true rfl) zd_Mod_feed_6 (by decide) (fun H locs hP hS => ?_)
  clear hq2
  refine lv_if_ne (tgt := 19) hx hb zd_Mod_feed_9 (by decide) (fun c3 => ?_) (fun c3 => ?_)
  · have hf := zu_f c3 hf
    refine lv_aload_n hx hb zd_Mod_feed_19 rfl (lv_at hl 0 rfl) ?_
    refine zg_Mod_taped B hP rfl zq_875 zd_Mod_feed_20 ?_
    refine lv_iload_n hx hb zd_Mod_feed_23 rfl (lv_at hl 2 rfl) ?_
    refine lv_iadd hx hb zd_Mod_feed_24 ?_
    refine lv_bipush (v := 120) hx hb zd_Mod_feed_25 (by decide) ?_
    refine lv_icmp_le (tgt := 37) hx hb zd_Mod_feed_27 (by decide) (fun c4 => ?_) (fun c4 => ?_)
    · have hf := zu_t c4 hf
      refine lv_iload_n hx hb zd_Mod_feed_37 rfl (lv_at hl 2 rfl) ?_
      refine lv_iconst (v := 1) hx hb zd_Mod_feed_38 (by decide) ?_
      refine lv_isub hx hb zd_Mod_feed_39 ?_
      refine zr_nxi hf (fun v5 hf => ?_)
      refine lv_istore_n (lv' := [(3, .int v5), (0, .ref (ad 95)), (1, .int a1), (2, .int a2)]) hx hb zd_Mod_feed_40 rfl hl (by decide) rfl (fun ls hl => ?_)
      exact zl_Mod_feed_L41 B hret hlk 400 a1 v5 X _ _ _ hP hS (lv_sub hl [1, 2, 0] rfl) hf
    · have hf := zu_f c4 hf
      refine lv_aload_n hx hb zd_Mod_feed_30 rfl (lv_at hl 0 rfl) ?_
      refine lv_ldc (v := -1000002) hx hb hown (hts _ zq_970) zd_Mod_feed_31 ?_
      obtain ⟨v6, X7, hq8, hf⟩ := zu_b2_e hf
      refine zw_Mod_finds (rest := []) B hP hS hq8 zq_944 (Nat.le_of_ble_eq_true rfl) (Nat.le_of_ble_eq_true rfl) hl.1 rfl (Nat.le_of_ble_eq_true rfl) zd_Mod_feed_33 (by decide) (fun H locs hP hS => ?_)
      clear hq8
      obtain rfl := Option.some.inj hf
      exact zr_iret hx hb hret hlk hP hS zd_Mod_feed_36
  · have hf := zu_t c3 hf
    refine lv_aload_n hx hb zd_Mod_feed_12 rfl (lv_at hl 0 rfl) ?_
    refine lv_ldc (v := -1000001) hx hb hown (hts _ zq_943) zd_Mod_feed_13 ?_
    obtain ⟨v9, X10, hq11, hf⟩ := zu_b2_e hf
    refine zw_Mod_finds (rest := []) B hP hS hq11 zq_944 (Nat.le_of_ble_eq_true rfl) (Nat.le_of_ble_eq_true rfl) hl.1 rfl (Nat.le_of_ble_eq_true rfl) zd_Mod_feed_15 (by decide) (fun H locs hP hS => ?_)
    clear hq11
    obtain rfl := Option.some.inj hf
    exact zr_iret hx hb hret hlk hP hS zd_Mod_feed_18
theorem zC_Mod_feed (l : Launch) {D : va_G} {cA : Nat → ClassId} {ad : Nat → Nat} {A : Nat → Prop} {a1 : Int32} {a2 : Int32} {X : IX} {Y : LX} {res : Int32 × IX} (hf : fn_Mod_feed a1 a2 X = some res) : Met l zm_Mod_feed (zu_ws zm_Mod_feed zb_Mod_feed 4 (some .int)) zR_Mod_feed (va_Pc [.ref (ad 95), .int a1, .int a2] (zu_Pre D cA ad A X Y)) (zu_Qi D cA ad A res.1 res.2 Y) 0 0 A := by
  refine Met.ofW (cc := zb_Mod_feed) (maxL := 4) (ret := (some .int)) (by decide +kernel) rfl ?_
  intro p e s m args below meth c s₁ B0 hml hv
  obtain ⟨rfl, hP, hST⟩ := hv
  have B : zu_B p s m _ c zb_Mod_feed 4 "StonePostModel" D cA ad A := ⟨B0.exec, B0.bytes, hml, findClass_of_methodNamed B0.named, (fun w hw => atoms_spec (ws := zu_ws zm_Mod_feed zb_Mod_feed 4 (some .int)) B0.pre w (List.mem_cons_of_mem _ hw)), hST⟩
  have hl := lv_entry ([.ref (ad 95), .int a1, .int a2]) (n := 4) (Nat.le_of_ble_eq_true rfl)
  rw [lg_entry_eq]
  generalize (lg_sl ([.ref (ad 95), .int a1, .int a2]) ++ List.replicate (4 - (lg_sl ([.ref (ad 95), .int a1, .int a2])).length) Slot.unset).toArray = ls at hl ⊢
  exact zl_Mod_feed B B0.returns B0.notSynchronized s.heap [] ls hP va_S.rf hl  hf
theorem zw_Mod_feed {p : Program} {l : Launch} {e : Env} {R : Room} {s : State} {m : MethodId} {args : Array Value} {below : List Frame} {meth : Method} {c : Code} {H : Heap} {locs : List Loc} {cells slots : Nat} {Q : State → Prop} {cc : ByteArray} {pc nL : Nat} {ls : Array Slot} {rest st0 : List Value} {D : va_G} {cA : Nat → ClassId} {ad : Nat → Nat} {A : Nat → Prop} {X : IX} {Y : LX} {own : String} {index : Nat} {a1 : Int32} {a2 : Int32} {v1 : Int32} {X1 : IX} (B : zu_B p s m args c cc nL own D cA ad A) (hP : va_P D zu_cl (zu_pic cA ad X Y) H) (hS : va_S A s.heap H locs) (hq : fn_Mod_feed a1 a2 X = some (v1, X1)) (m1 : Cond.methodLink own index zm_Mod_feed ∈ zu_TB) (hR1 : 1 + 1 ≤ R.frames) (hR2 : 8 + (4 + 11) + 25 ≤ R.locals) (hsz : ls.size = nL) (hst : st0 = .int a2 :: .int a1 :: .ref (ad 95) :: rest) (hw : (rest.map fun v => v.category).sum ≤ 8) (hdg : decode cc pc = .ok (.invokevirtual index, 3)) (h00 : cells ≤ R.cells ∧ slots ≤ R.slots) (kk : ∀ (H1 : Heap) (locs1 : List Loc), va_P D zu_cl (zu_pic cA ad X1 Y) H1 → va_S A s.heap H1 locs1 → W p l e R s m args below meth c H1 locs1 cells slots Q (F0 m (pc + 3) ls (.int v1 :: rest))) : W p l e R s m args below meth c H locs cells slots Q (F0 m pc ls st0) := by
  subst hst
  exact zr_cVi (As := [.int a1, .int a2]) (rest := rest) (n := 2) (C := "StonePostModel") (T := zt_Mod) (N := 23) B hP hS (zC_Mod_feed l  hq) (K := 7) rfl (by decide) (by decide) rfl rfl m1 zq_1231 zq_1232 zq_8 zq_1233 (by decide +kernel) ⟨hR1, hR2⟩ rfl rfl rfl hsz rfl hw hdg h00 kk
abbrev zR_Mod_wipe : Room := { frames := 0, cells := 0, slots := 0, locals := 0 }
theorem zd_Mod_wipe_0 : decode zb_Mod_wipe 0 = .ok (.aload_n 0, 1) := by decide +kernel
theorem zd_Mod_wipe_1 : decode zb_Mod_wipe 1 = .ok (.getfield 232, 3) := by decide +kernel
theorem zd_Mod_wipe_4 : decode zb_Mod_wipe 4 = .ok (.istore_n 1, 1) := by decide +kernel
theorem zd_Mod_wipe_5 : decode zb_Mod_wipe 5 = .ok (.aload_n 0, 1) := by decide +kernel
theorem zd_Mod_wipe_6 : decode zb_Mod_wipe 6 = .ok (.iconst 0, 1) := by decide +kernel
theorem zd_Mod_wipe_7 : decode zb_Mod_wipe 7 = .ok (.putfield 232, 3) := by decide +kernel
theorem zd_Mod_wipe_10 : decode zb_Mod_wipe 10 = .ok (.iload_n 1, 1) := by decide +kernel
theorem zd_Mod_wipe_11 : decode zb_Mod_wipe 11 = .ok (.ireturn, 1) := by decide +kernel
set_option maxHeartbeats 4000000 in
theorem zl_Mod_wipe {p : Program} {l : Launch} {e : Env} {s : State} {m : MethodId} {args : Array Value} {below : List Frame} {meth : Method} {c : Code} {D : va_G} {cA : Nat → ClassId} {ad : Nat → Nat} {A : Nat → Prop} (B : zu_B p s m args c zb_Mod_wipe 2 "StonePostModel" D cA ad A) (hret : meth.sig.returnType = (some .int)) (hlk : meth.locks = false) {Y : LX} {res : Int32 × IX} {X : IX} (H : Heap) (locs : List Loc) (ls : Array Slot) (hP : va_P D zu_cl (zu_pic cA ad X Y) H) (hS : va_S A s.heap H locs) (hl : lv_has ls 2 [(0, .ref (ad 95))]) (hf : fn_Mod_wipe X = some res) : W p l e zR_Mod_wipe s m args below meth c H locs 0 0 (MQ below (zu_Qi D cA ad A res.1 res.2 Y) args s 0 0 A) (F0 m 0 ls []) := by
  obtain ⟨hx, hb, hml, hown, hts, hST⟩ := id B
  unfold fn_Mod_wipe at hf
  refine lv_aload_n hx hb zd_Mod_wipe_0 rfl (lv_at hl 0 rfl) ?_
  refine zg_Mod_taped B hP rfl zq_875 zd_Mod_wipe_1 ?_
  refine zr_nxi hf (fun v1 hf => ?_)
  refine lv_istore_n (lv' := [(1, .int v1), (0, .ref (ad 95))]) hx hb zd_Mod_wipe_4 rfl hl (by decide) rfl (fun ls hl => ?_)
  refine lv_aload_n hx hb zd_Mod_wipe_5 rfl (lv_at hl 1 rfl) ?_
  refine lv_iconst (v := 0) hx hb zd_Mod_wipe_6 (by decide) ?_
  refine zp_Mod_taped B hP hS hf rfl zq_875 zd_Mod_wipe_7 (fun X2 H locs hf hP hS => ?_)
  refine lv_iload_n hx hb zd_Mod_wipe_10 rfl (lv_at hl 0 rfl) ?_
  obtain rfl := Option.some.inj hf
  exact zr_iret hx hb hret hlk hP hS zd_Mod_wipe_11
theorem zC_Mod_wipe (l : Launch) {D : va_G} {cA : Nat → ClassId} {ad : Nat → Nat} {A : Nat → Prop} {X : IX} {Y : LX} {res : Int32 × IX} (hf : fn_Mod_wipe X = some res) : Met l zm_Mod_wipe (zu_ws zm_Mod_wipe zb_Mod_wipe 2 (some .int)) zR_Mod_wipe (va_Pc [.ref (ad 95)] (zu_Pre D cA ad A X Y)) (zu_Qi D cA ad A res.1 res.2 Y) 0 0 A := by
  refine Met.ofW (cc := zb_Mod_wipe) (maxL := 2) (ret := (some .int)) (by decide +kernel) rfl ?_
  intro p e s m args below meth c s₁ B0 hml hv
  obtain ⟨rfl, hP, hST⟩ := hv
  have B : zu_B p s m _ c zb_Mod_wipe 2 "StonePostModel" D cA ad A := ⟨B0.exec, B0.bytes, hml, findClass_of_methodNamed B0.named, (fun w hw => atoms_spec (ws := zu_ws zm_Mod_wipe zb_Mod_wipe 2 (some .int)) B0.pre w (List.mem_cons_of_mem _ hw)), hST⟩
  have hl := lv_entry ([.ref (ad 95)]) (n := 2) (Nat.le_of_ble_eq_true rfl)
  rw [lg_entry_eq]
  generalize (lg_sl ([.ref (ad 95)]) ++ List.replicate (2 - (lg_sl ([.ref (ad 95)])).length) Slot.unset).toArray = ls at hl ⊢
  exact zl_Mod_wipe B B0.returns B0.notSynchronized s.heap [] ls hP va_S.rf hl  hf
theorem zw_Mod_wipe {p : Program} {l : Launch} {e : Env} {R : Room} {s : State} {m : MethodId} {args : Array Value} {below : List Frame} {meth : Method} {c : Code} {H : Heap} {locs : List Loc} {cells slots : Nat} {Q : State → Prop} {cc : ByteArray} {pc nL : Nat} {ls : Array Slot} {rest st0 : List Value} {D : va_G} {cA : Nat → ClassId} {ad : Nat → Nat} {A : Nat → Prop} {X : IX} {Y : LX} {own : String} {index : Nat} {v1 : Int32} {X1 : IX} (B : zu_B p s m args c cc nL own D cA ad A) (hP : va_P D zu_cl (zu_pic cA ad X Y) H) (hS : va_S A s.heap H locs) (hq : fn_Mod_wipe X = some (v1, X1)) (m1 : Cond.methodLink own index zm_Mod_wipe ∈ zu_TB) (hR1 : 0 + 1 ≤ R.frames) (hR2 : 8 + (2 + 11) + 0 ≤ R.locals) (hsz : ls.size = nL) (hst : st0 = .ref (ad 95) :: rest) (hw : (rest.map fun v => v.category).sum ≤ 8) (hdg : decode cc pc = .ok (.invokevirtual index, 3)) (h00 : cells ≤ R.cells ∧ slots ≤ R.slots) (kk : ∀ (H1 : Heap) (locs1 : List Loc), va_P D zu_cl (zu_pic cA ad X1 Y) H1 → va_S A s.heap H1 locs1 → W p l e R s m args below meth c H1 locs1 cells slots Q (F0 m (pc + 3) ls (.int v1 :: rest))) : W p l e R s m args below meth c H locs cells slots Q (F0 m pc ls st0) := by
  subst hst
  exact zr_cVi (As := []) (rest := rest) (n := 0) (C := "StonePostModel") (T := zt_Mod) (N := 23) B hP hS (zC_Mod_wipe l  hq) (K := 7) rfl (by decide) (by decide) rfl rfl m1 zq_1236 zq_1237 zq_8 zq_1238 (by decide +kernel) ⟨hR1, hR2⟩ rfl rfl rfl hsz rfl hw hdg h00 kk
abbrev zR_Mod_byteAt : Room := { frames := 0, cells := 0, slots := 0, locals := 0 }
theorem zd_Mod_byteAt_0 : decode zb_Mod_byteAt 0 = .ok (.iload_n 1, 1) := by decide +kernel
theorem zd_Mod_byteAt_1 : decode zb_Mod_byteAt 1 = .ok (.aload_n 0, 1) := by decide +kernel
theorem zd_Mod_byteAt_2 : decode zb_Mod_byteAt 2 = .ok (.getfield 232, 3) := by decide +kernel
theorem zd_Mod_byteAt_5 : decode zb_Mod_byteAt 5 = .ok (.if_icmp .ge 12, 3) := by decide +kernel
theorem zd_Mod_byteAt_8 : decode zb_Mod_byteAt 8 = .ok (.aload_n 0, 1) := by decide +kernel
theorem zd_Mod_byteAt_9 : decode zb_Mod_byteAt 9 = .ok (.getfield 35, 3) := by decide +kernel
theorem zd_Mod_byteAt_12 : decode zb_Mod_byteAt 12 = .ok (.iload_n 1, 1) := by decide +kernel
theorem zd_Mod_byteAt_13 : decode zb_Mod_byteAt 13 = .ok (.iaload, 1) := by decide +kernel
theorem zd_Mod_byteAt_14 : decode zb_Mod_byteAt 14 = .ok (.goto 4, 3) := by decide +kernel
theorem zd_Mod_byteAt_17 : decode zb_Mod_byteAt 17 = .ok (.iconst (-1), 1) := by decide +kernel
theorem zd_Mod_byteAt_18 : decode zb_Mod_byteAt 18 = .ok (.ireturn, 1) := by decide +kernel
set_option maxHeartbeats 4000000 in
theorem zl_Mod_byteAt_L18 {p : Program} {l : Launch} {e : Env} {s : State} {m : MethodId} {args : Array Value} {below : List Frame} {meth : Method} {c : Code} {D : va_G} {cA : Nat → ClassId} {ad : Nat → Nat} {A : Nat → Prop} (B : zu_B p s m args c zb_Mod_byteAt 2 "StonePostModel" D cA ad A) (hret : meth.sig.returnType = (some .int)) (hlk : meth.locks = false) {X : IX} {Y : LX} {res : Int32} (y0 : Int32) (H : Heap) (locs : List Loc) (ls : Array Slot) (hP : va_P D zu_cl (zu_pic cA ad X Y) H) (hS : va_S A s.heap H locs) (hl : lv_has ls 2 []) (hf : fn_Mod_byteAt_L18 X y0 = some res) : W p l e zR_Mod_byteAt s m args below meth c H locs 0 0 (MQ below (zu_Qi D cA ad A res X Y) args s 0 0 A) (F0 m 18 ls [.int y0]) := by
  obtain ⟨hx, hb, hml, hown, hts, hST⟩ := id B
  unfold fn_Mod_byteAt_L18 at hf
  obtain rfl := Option.some.inj hf
  exact zr_iret hx hb hret hlk hP hS zd_Mod_byteAt_18
set_option maxHeartbeats 4000000 in
theorem zl_Mod_byteAt {p : Program} {l : Launch} {e : Env} {s : State} {m : MethodId} {args : Array Value} {below : List Frame} {meth : Method} {c : Code} {D : va_G} {cA : Nat → ClassId} {ad : Nat → Nat} {A : Nat → Prop} (B : zu_B p s m args c zb_Mod_byteAt 2 "StonePostModel" D cA ad A) (hret : meth.sig.returnType = (some .int)) (hlk : meth.locks = false) {X : IX} {Y : LX} {res : Int32} {a1 : Int32} (H : Heap) (locs : List Loc) (ls : Array Slot) (hP : va_P D zu_cl (zu_pic cA ad X Y) H) (hS : va_S A s.heap H locs) (hl : lv_has ls 2 [(0, .ref (ad 95)), (1, .int a1)]) (hf : fn_Mod_byteAt X a1 = some res) : W p l e zR_Mod_byteAt s m args below meth c H locs 0 0 (MQ below (zu_Qi D cA ad A res X Y) args s 0 0 A) (F0 m 0 ls []) := by
  obtain ⟨hx, hb, hml, hown, hts, hST⟩ := id B
  unfold fn_Mod_byteAt at hf
  refine lv_iload_n hx hb zd_Mod_byteAt_0 rfl (lv_at hl 1 rfl) ?_
  refine lv_aload_n hx hb zd_Mod_byteAt_1 rfl (lv_at hl 0 rfl) ?_
  refine zg_Mod_taped B hP rfl zq_875 zd_Mod_byteAt_2 ?_
  refine lv_icmp_ge (tgt := 17) hx hb zd_Mod_byteAt_5 (by decide) (fun c1 => ?_) (fun c1 => ?_)
  · have hf := zu_t c1 hf
    refine lv_iconst (v := -1) hx hb zd_Mod_byteAt_17 (by decide) ?_
    exact zl_Mod_byteAt_L18 B hret hlk (-1 : Int32) _ _ _ hP hS (lv_sub hl [] rfl) hf
  · have hf := zu_f c1 hf
    refine lv_aload_n hx hb zd_Mod_byteAt_8 rfl (lv_at hl 0 rfl) ?_
    refine zg_Mod_tape B hP rfl zq_874 zd_Mod_byteAt_9 ?_
    refine lv_iload_n hx hb zd_Mod_byteAt_12 rfl (lv_at hl 1 rfl) ?_
    obtain ⟨hg2, hf⟩ := zu_gd_e hf
    refine zr_iald rfl B hP rfl (by decide) rfl hg2 zd_Mod_byteAt_13 ?_
    refine lv_goto (tgt := 18) hx hb zd_Mod_byteAt_14 (by decide) ?_
    exact zl_Mod_byteAt_L18 B hret hlk (X 104 (a1.toNatClampNeg)) _ _ _ hP hS (lv_sub hl [] rfl) hf
theorem zC_Mod_byteAt (l : Launch) {D : va_G} {cA : Nat → ClassId} {ad : Nat → Nat} {A : Nat → Prop} {a1 : Int32} {X : IX} {Y : LX} {res : Int32} (hf : fn_Mod_byteAt X a1 = some res) : Met l zm_Mod_byteAt (zu_ws zm_Mod_byteAt zb_Mod_byteAt 2 (some .int)) zR_Mod_byteAt (va_Pc [.ref (ad 95), .int a1] (zu_Pre D cA ad A X Y)) (zu_Qi D cA ad A res X Y) 0 0 A := by
  refine Met.ofW (cc := zb_Mod_byteAt) (maxL := 2) (ret := (some .int)) (by decide +kernel) rfl ?_
  intro p e s m args below meth c s₁ B0 hml hv
  obtain ⟨rfl, hP, hST⟩ := hv
  have B : zu_B p s m _ c zb_Mod_byteAt 2 "StonePostModel" D cA ad A := ⟨B0.exec, B0.bytes, hml, findClass_of_methodNamed B0.named, (fun w hw => atoms_spec (ws := zu_ws zm_Mod_byteAt zb_Mod_byteAt 2 (some .int)) B0.pre w (List.mem_cons_of_mem _ hw)), hST⟩
  have hl := lv_entry ([.ref (ad 95), .int a1]) (n := 2) (Nat.le_of_ble_eq_true rfl)
  rw [lg_entry_eq]
  generalize (lg_sl ([.ref (ad 95), .int a1]) ++ List.replicate (2 - (lg_sl ([.ref (ad 95), .int a1])).length) Slot.unset).toArray = ls at hl ⊢
  exact zl_Mod_byteAt B B0.returns B0.notSynchronized s.heap [] ls hP va_S.rf hl  hf
theorem zw_Mod_byteAt {p : Program} {l : Launch} {e : Env} {R : Room} {s : State} {m : MethodId} {args : Array Value} {below : List Frame} {meth : Method} {c : Code} {H : Heap} {locs : List Loc} {cells slots : Nat} {Q : State → Prop} {cc : ByteArray} {pc nL : Nat} {ls : Array Slot} {rest st0 : List Value} {D : va_G} {cA : Nat → ClassId} {ad : Nat → Nat} {A : Nat → Prop} {X : IX} {Y : LX} {own : String} {index : Nat} {a1 : Int32} {v1 : Int32} (B : zu_B p s m args c cc nL own D cA ad A) (hP : va_P D zu_cl (zu_pic cA ad X Y) H) (hS : va_S A s.heap H locs) (hq : fn_Mod_byteAt X a1 = some v1) (m1 : Cond.methodLink own index zm_Mod_byteAt ∈ zu_TB) (hR1 : 0 + 1 ≤ R.frames) (hR2 : 8 + (2 + 11) + 0 ≤ R.locals) (hsz : ls.size = nL) (hst : st0 = .int a1 :: .ref (ad 95) :: rest) (hw : (rest.map fun v => v.category).sum ≤ 8) (hdg : decode cc pc = .ok (.invokevirtual index, 3)) (h00 : cells ≤ R.cells ∧ slots ≤ R.slots) (kk : ∀ (H1 : Heap) (locs1 : List Loc), va_P D zu_cl (zu_pic cA ad X Y) H1 → va_S A s.heap H1 locs1 → W p l e R s m args below meth c H1 locs1 cells slots Q (F0 m (pc + 3) ls (.int v1 :: rest))) : W p l e R s m args below meth c H locs cells slots Q (F0 m pc ls st0) := by
  subst hst
  exact zr_cVi (As := [.int a1]) (rest := rest) (n := 1) (C := "StonePostModel") (T := zt_Mod) (N := 23) B hP hS (zC_Mod_byteAt l  hq) (K := 7) rfl (by decide) (by decide) rfl rfl m1 zq_1249 zqP_50 zq_8 zq_1250 (by decide +kernel) ⟨hR1, hR2⟩ rfl rfl rfl hsz rfl hw hdg h00 kk
abbrev zR_Mod_isAlpha : Room := { frames := 1, cells := 0, slots := 0, locals := 25 }
theorem zd_Mod_isAlpha_0 : decode zb_Mod_isAlpha 0 = .ok (.iload_n 0, 1) := by decide +kernel
theorem zd_Mod_isAlpha_1 : decode zb_Mod_isAlpha 1 = .ok (.i2l, 1) := by decide +kernel
theorem zd_Mod_isAlpha_2 : decode zb_Mod_isAlpha 2 = .ok (.ldc2_w 235, 3) := by decide +kernel
theorem zd_Mod_isAlpha_5 : decode zb_Mod_isAlpha 5 = .ok (.ldc2_w 237, 3) := by decide +kernel
theorem zd_Mod_isAlpha_8 : decode zb_Mod_isAlpha 8 = .ok (.invokestatic 53, 3) := by decide +kernel
theorem zd_Mod_isAlpha_11 : decode zb_Mod_isAlpha 11 = .ok (.ireturn, 1) := by decide +kernel
set_option maxHeartbeats 4000000 in
theorem zl_Mod_isAlpha {p : Program} {l : Launch} {e : Env} {s : State} {m : MethodId} {args : Array Value} {below : List Frame} {meth : Method} {c : Code} {D : va_G} {cA : Nat → ClassId} {ad : Nat → Nat} {A : Nat → Prop} (B : zu_B p s m args c zb_Mod_isAlpha 1 "StonePostModel" D cA ad A) (hret : meth.sig.returnType = (some .boolean)) (hlk : meth.locks = false) {X : IX} {Y : LX} {res : Int32} {a0 : Int32} (H : Heap) (locs : List Loc) (ls : Array Slot) (hP : va_P D zu_cl (zu_pic cA ad X Y) H) (hS : va_S A s.heap H locs) (hl : lv_has ls 1 [(0, .int a0)]) (hf : fn_Mod_isAlpha a0 = some res) : W p l e zR_Mod_isAlpha s m args below meth c H locs 0 0 (MQ below (zu_Qi D cA ad A res X Y) args s 0 0 A) (F0 m 0 ls []) := by
  obtain ⟨hx, hb, hml, hown, hts, hST⟩ := id B
  unfold fn_Mod_isAlpha at hf
  refine lv_iload_n hx hb zd_Mod_isAlpha_0 rfl (lv_at hl 0 rfl) ?_
  refine lv_i2l hx hb zd_Mod_isAlpha_1 rfl ?_
  refine lv_ldc2 (v := 97) hx hb hown (hts _ zq_1254) zd_Mod_isAlpha_2 ?_
  refine lv_ldc2 (v := 122) hx hb hown (hts _ zq_1255) zd_Mod_isAlpha_5 ?_
  obtain ⟨v1, hq2, hf⟩ := zu_b1_e hf
  refine zw_Mod_in (rest := []) B hP hS hq2 zq_939 (Nat.le_of_ble_eq_true rfl) (Nat.le_of_ble_eq_true rfl) hl.1 rfl (Nat.le_of_ble_eq_true rfl) zd_Mod_isAlpha_8 (by decide) (fun H locs hP hS => ?_)
  clear hq2
  obtain ⟨hg3, hf⟩ := zu_gd_e hf
  obtain rfl := Option.some.inj hf
  exact zr_zret hx hb hret hlk hP hS hg3 zd_Mod_isAlpha_11
theorem zC_Mod_isAlpha (l : Launch) {D : va_G} {cA : Nat → ClassId} {ad : Nat → Nat} {A : Nat → Prop} {a0 : Int32} {X : IX} {Y : LX} {res : Int32} (hf : fn_Mod_isAlpha a0 = some res) : Met l zm_Mod_isAlpha (zu_ws zm_Mod_isAlpha zb_Mod_isAlpha 1 (some .boolean)) zR_Mod_isAlpha (va_Pc [.int a0] (zu_Pre D cA ad A X Y)) (zu_Qi D cA ad A res X Y) 0 0 A := by
  refine Met.ofW (cc := zb_Mod_isAlpha) (maxL := 1) (ret := (some .boolean)) (by decide +kernel) rfl ?_
  intro p e s m args below meth c s₁ B0 hml hv
  obtain ⟨rfl, hP, hST⟩ := hv
  have B : zu_B p s m _ c zb_Mod_isAlpha 1 "StonePostModel" D cA ad A := ⟨B0.exec, B0.bytes, hml, findClass_of_methodNamed B0.named, (fun w hw => atoms_spec (ws := zu_ws zm_Mod_isAlpha zb_Mod_isAlpha 1 (some .boolean)) B0.pre w (List.mem_cons_of_mem _ hw)), hST⟩
  have hl := lv_entry ([.int a0]) (n := 1) (Nat.le_of_ble_eq_true rfl)
  rw [lg_entry_eq]
  generalize (lg_sl ([.int a0]) ++ List.replicate (1 - (lg_sl ([.int a0])).length) Slot.unset).toArray = ls at hl ⊢
  exact zl_Mod_isAlpha B B0.returns B0.notSynchronized s.heap [] ls hP va_S.rf hl  hf
theorem zw_Mod_isAlpha {p : Program} {l : Launch} {e : Env} {R : Room} {s : State} {m : MethodId} {args : Array Value} {below : List Frame} {meth : Method} {c : Code} {H : Heap} {locs : List Loc} {cells slots : Nat} {Q : State → Prop} {cc : ByteArray} {pc nL : Nat} {ls : Array Slot} {rest st0 : List Value} {D : va_G} {cA : Nat → ClassId} {ad : Nat → Nat} {A : Nat → Prop} {X : IX} {Y : LX} {own : String} {index : Nat} {a0 : Int32} {v1 : Int32} (B : zu_B p s m args c cc nL own D cA ad A) (hP : va_P D zu_cl (zu_pic cA ad X Y) H) (hS : va_S A s.heap H locs) (hq : fn_Mod_isAlpha a0 = some v1) (m1 : Cond.methodLink own index zm_Mod_isAlpha ∈ zu_TB) (hR1 : 1 + 1 ≤ R.frames) (hR2 : 8 + (1 + 11) + 25 ≤ R.locals) (hsz : ls.size = nL) (hst : st0 = .int a0 ::  rest) (hw : (rest.map fun v => v.category).sum ≤ 8) (hdg : decode cc pc = .ok (.invokestatic index, 3)) (h00 : cells ≤ R.cells ∧ slots ≤ R.slots) (kk : ∀ (H1 : Heap) (locs1 : List Loc), va_P D zu_cl (zu_pic cA ad X Y) H1 → va_S A s.heap H1 locs1 → W p l e R s m args below meth c H1 locs1 cells slots Q (F0 m (pc + 3) ls (.int v1 :: rest))) : W p l e R s m args below meth c H locs cells slots Q (F0 m pc ls st0) := by
  subst hst
  exact zr_cSi (As := [.int a0]) (rest := rest) (n := 1) B hP hS (zC_Mod_isAlpha l  hq) m1 zq_1252 zq_8 zq_1253 (by decide +kernel) ⟨hR1, hR2⟩ rfl rfl rfl hsz rfl hw hdg h00 kk
