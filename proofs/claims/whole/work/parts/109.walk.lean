abbrev zR_Post_count : Room := { frames := 2, cells := 0, slots := 0, locals := 44 }
theorem zd_Post_count_0 : decode zb_Post_count 0 = .ok (.iload_n 1, 1) := by decide +kernel
theorem zd_Post_count_1 : decode zb_Post_count 1 = .ok (.tableswitch 111 0 7 #[47, 55, 63, 71, 79, 87, 95, 103], 47) := by decide +kernel
theorem zd_Post_count_48 : decode zb_Post_count 48 = .ok (.aload_n 0, 1) := by decide +kernel
theorem zd_Post_count_49 : decode zb_Post_count 49 = .ok (.getfield 10, 3) := by decide +kernel
theorem zd_Post_count_52 : decode zb_Post_count 52 = .ok (.getfield 133, 3) := by decide +kernel
theorem zd_Post_count_55 : decode zb_Post_count 55 = .ok (.ireturn, 1) := by decide +kernel
theorem zd_Post_count_56 : decode zb_Post_count 56 = .ok (.aload_n 0, 1) := by decide +kernel
theorem zd_Post_count_57 : decode zb_Post_count 57 = .ok (.getfield 10, 3) := by decide +kernel
theorem zd_Post_count_60 : decode zb_Post_count 60 = .ok (.getfield 182, 3) := by decide +kernel
theorem zd_Post_count_63 : decode zb_Post_count 63 = .ok (.ireturn, 1) := by decide +kernel
theorem zd_Post_count_64 : decode zb_Post_count 64 = .ok (.aload_n 0, 1) := by decide +kernel
theorem zd_Post_count_65 : decode zb_Post_count 65 = .ok (.getfield 10, 3) := by decide +kernel
theorem zd_Post_count_68 : decode zb_Post_count 68 = .ok (.getfield 130, 3) := by decide +kernel
theorem zd_Post_count_71 : decode zb_Post_count 71 = .ok (.ireturn, 1) := by decide +kernel
theorem zd_Post_count_72 : decode zb_Post_count 72 = .ok (.aload_n 0, 1) := by decide +kernel
theorem zd_Post_count_73 : decode zb_Post_count 73 = .ok (.getfield 10, 3) := by decide +kernel
theorem zd_Post_count_76 : decode zb_Post_count 76 = .ok (.invokevirtual 216, 3) := by decide +kernel
theorem zd_Post_count_79 : decode zb_Post_count 79 = .ok (.ireturn, 1) := by decide +kernel
theorem zd_Post_count_80 : decode zb_Post_count 80 = .ok (.aload_n 0, 1) := by decide +kernel
theorem zd_Post_count_81 : decode zb_Post_count 81 = .ok (.getfield 10, 3) := by decide +kernel
theorem zd_Post_count_84 : decode zb_Post_count 84 = .ok (.invokevirtual 293, 3) := by decide +kernel
theorem zd_Post_count_87 : decode zb_Post_count 87 = .ok (.ireturn, 1) := by decide +kernel
theorem zd_Post_count_88 : decode zb_Post_count 88 = .ok (.aload_n 0, 1) := by decide +kernel
theorem zd_Post_count_89 : decode zb_Post_count 89 = .ok (.getfield 32, 3) := by decide +kernel
theorem zd_Post_count_92 : decode zb_Post_count 92 = .ok (.getfield 234, 3) := by decide +kernel
theorem zd_Post_count_95 : decode zb_Post_count 95 = .ok (.ireturn, 1) := by decide +kernel
theorem zd_Post_count_96 : decode zb_Post_count 96 = .ok (.aload_n 0, 1) := by decide +kernel
theorem zd_Post_count_97 : decode zb_Post_count 97 = .ok (.getfield 10, 3) := by decide +kernel
theorem zd_Post_count_100 : decode zb_Post_count 100 = .ok (.getfield 231, 3) := by decide +kernel
theorem zd_Post_count_103 : decode zb_Post_count 103 = .ok (.ireturn, 1) := by decide +kernel
theorem zd_Post_count_104 : decode zb_Post_count 104 = .ok (.aload_n 0, 1) := by decide +kernel
theorem zd_Post_count_105 : decode zb_Post_count 105 = .ok (.getfield 10, 3) := by decide +kernel
theorem zd_Post_count_108 : decode zb_Post_count 108 = .ok (.invokevirtual 296, 3) := by decide +kernel
theorem zd_Post_count_111 : decode zb_Post_count 111 = .ok (.ireturn, 1) := by decide +kernel
theorem zd_Post_count_112 : decode zb_Post_count 112 = .ok (.aload_n 0, 1) := by decide +kernel
theorem zd_Post_count_113 : decode zb_Post_count 113 = .ok (.ldc 55, 2) := by decide +kernel
theorem zd_Post_count_115 : decode zb_Post_count 115 = .ok (.invokevirtual 56, 3) := by decide +kernel
theorem zd_Post_count_118 : decode zb_Post_count 118 = .ok (.ireturn, 1) := by decide +kernel
set_option maxHeartbeats 4000000 in
theorem zl_Post_count {p : Program} {l : Launch} {e : Env} {s : State} {m : MethodId} {args : Array Value} {below : List Frame} {meth : Method} {c : Code} {D : va_G} {cA : Nat → ClassId} {ad : Nat → Nat} {A : Nat → Prop} (B : zu_B p s m args c zb_Post_count 2 "StonePost" D cA ad A) (hret : meth.sig.returnType = (some .int)) (hlk : meth.locks = false) {Y : LX} {res : Int32 × IX} {a1 : Int32} {X : IX} (H : Heap) (locs : List Loc) (ls : Array Slot) (hP : va_P D zu_cl (zu_pic cA ad X Y) H) (hS : va_S A s.heap H locs) (hl : lv_has ls 2 [(0, .ref (ad 0)), (1, .int a1)]) (hf : fn_Post_count a1 X = some res) : W p l e zR_Post_count s m args below meth c H locs 0 0 (MQ below (zu_Qi D cA ad A res.1 res.2 Y) args s 0 0 A) (F0 m 0 ls []) := by
  obtain ⟨hx, hb, hml, hown, hts, hST⟩ := id B
  unfold fn_Post_count at hf
  refine lv_iload_n hx hb zd_Post_count_0 rfl (lv_at hl 1 rfl) ?_
  by_cases h1_0 : a1 = (0 : Int32)
  · have hf := zu_t h1_0 hf
    refine lv_tableIn (tgt := 48) (off := 47) hx hb zd_Post_count_1 (by rw [h1_0]; decide) (by rw [h1_0]; decide) (by rw [h1_0]; decide) (by decide) ?_
    refine lv_aload_n hx hb zd_Post_count_48 rfl (lv_at hl 0 rfl) ?_
    refine zg_Post_land B hP rfl zq_191 zd_Post_count_49 ?_
    refine zg_Land_hour B hP rfl zq_76 zd_Post_count_52 ?_
    obtain rfl := Option.some.inj hf
    exact zr_iret hx hb hret hlk hP hS zd_Post_count_55
  · have hf := zu_f h1_0 hf
    by_cases h1_1 : a1 = (1 : Int32)
    · have hf := zu_t h1_1 hf
      refine lv_tableIn (tgt := 56) (off := 55) hx hb zd_Post_count_1 (by rw [h1_1]; decide) (by rw [h1_1]; decide) (by rw [h1_1]; decide) (by decide) ?_
      refine lv_aload_n hx hb zd_Post_count_56 rfl (lv_at hl 0 rfl) ?_
      refine zg_Post_land B hP rfl zq_191 zd_Post_count_57 ?_
      refine zg_Land_throwerCount B hP rfl zq_63 zd_Post_count_60 ?_
      obtain rfl := Option.some.inj hf
      exact zr_iret hx hb hret hlk hP hS zd_Post_count_63
    · have hf := zu_f h1_1 hf
      by_cases h1_2 : a1 = (2 : Int32)
      · have hf := zu_t h1_2 hf
        refine lv_tableIn (tgt := 64) (off := 63) hx hb zd_Post_count_1 (by rw [h1_2]; decide) (by rw [h1_2]; decide) (by rw [h1_2]; decide) (by decide) ?_
        refine lv_aload_n hx hb zd_Post_count_64 rfl (lv_at hl 0 rfl) ?_
        refine zg_Post_land B hP rfl zq_191 zd_Post_count_65 ?_
        refine zg_Land_letterCount B hP rfl zq_66 zd_Post_count_68 ?_
        obtain rfl := Option.some.inj hf
        exact zr_iret hx hb hret hlk hP hS zd_Post_count_71
      · have hf := zu_f h1_2 hf
        by_cases h1_3 : a1 = (3 : Int32)
        · have hf := zu_t h1_3 hf
          refine lv_tableIn (tgt := 72) (off := 71) hx hb zd_Post_count_1 (by rw [h1_3]; decide) (by rw [h1_3]; decide) (by rw [h1_3]; decide) (by decide) ?_
          refine lv_aload_n hx hb zd_Post_count_72 rfl (lv_at hl 0 rfl) ?_
          refine zg_Post_land B hP rfl zq_191 zd_Post_count_73 ?_
          obtain ⟨v1, hq2, hf⟩ := zu_b1_e hf
          refine zw_Land_thanksOfAll (rest := []) B hP hS rfl hq2 zq_592 (Nat.le_of_ble_eq_true rfl) (Nat.le_of_ble_eq_true rfl) hl.1 rfl (Nat.le_of_ble_eq_true rfl) zd_Post_count_76 (by decide) (fun H locs hP hS => ?_)
          clear hq2
          obtain rfl := Option.some.inj hf
          exact zr_iret hx hb hret hlk hP hS zd_Post_count_79
        · have hf := zu_f h1_3 hf
          by_cases h1_4 : a1 = (4 : Int32)
          · have hf := zu_t h1_4 hf
            refine lv_tableIn (tgt := 80) (off := 79) hx hb zd_Post_count_1 (by rw [h1_4]; decide) (by rw [h1_4]; decide) (by rw [h1_4]; decide) (by decide) ?_
            refine lv_aload_n hx hb zd_Post_count_80 rfl (lv_at hl 0 rfl) ?_
            refine zg_Post_land B hP rfl zq_191 zd_Post_count_81 ?_
            obtain ⟨v3, hq4, hf⟩ := zu_b1_e hf
            refine zw_Land_illCount (rest := []) B hP hS rfl hq4 zq_843 (Nat.le_of_ble_eq_true rfl) (Nat.le_of_ble_eq_true rfl) hl.1 rfl (Nat.le_of_ble_eq_true rfl) zd_Post_count_84 (by decide) (fun H locs hP hS => ?_)
            clear hq4
            obtain rfl := Option.some.inj hf
            exact zr_iret hx hb hret hlk hP hS zd_Post_count_87
          · have hf := zu_f h1_4 hf
            by_cases h1_5 : a1 = (5 : Int32)
            · have hf := zu_t h1_5 hf
              refine lv_tableIn (tgt := 88) (off := 87) hx hb zd_Post_count_1 (by rw [h1_5]; decide) (by rw [h1_5]; decide) (by rw [h1_5]; decide) (by decide) ?_
              refine lv_aload_n hx hb zd_Post_count_88 rfl (lv_at hl 0 rfl) ?_
              refine zg_Post_tape B hP rfl zq_195 zd_Post_count_89 ?_
              refine zg_Tape_length B hP rfl zq_150 zd_Post_count_92 ?_
              obtain rfl := Option.some.inj hf
              exact zr_iret hx hb hret hlk hP hS zd_Post_count_95
            · have hf := zu_f h1_5 hf
              by_cases h1_6 : a1 = (6 : Int32)
              · have hf := zu_t h1_6 hf
                refine lv_tableIn (tgt := 96) (off := 95) hx hb zd_Post_count_1 (by rw [h1_6]; decide) (by rw [h1_6]; decide) (by rw [h1_6]; decide) (by decide) ?_
                refine lv_aload_n hx hb zd_Post_count_96 rfl (lv_at hl 0 rfl) ?_
                refine zg_Post_land B hP rfl zq_191 zd_Post_count_97 ?_
                refine zg_Land_z B hP rfl zq_78 zd_Post_count_100 ?_
                obtain rfl := Option.some.inj hf
                exact zr_iret hx hb hret hlk hP hS zd_Post_count_103
              · have hf := zu_f h1_6 hf
                by_cases h1_7 : a1 = (7 : Int32)
                · have hf := zu_t h1_7 hf
                  refine lv_tableIn (tgt := 104) (off := 103) hx hb zd_Post_count_1 (by rw [h1_7]; decide) (by rw [h1_7]; decide) (by rw [h1_7]; decide) (by decide) ?_
                  refine lv_aload_n hx hb zd_Post_count_104 rfl (lv_at hl 0 rfl) ?_
                  refine zg_Post_land B hP rfl zq_191 zd_Post_count_105 ?_
                  obtain ⟨v5, hq6, hf⟩ := zu_b1_e hf
                  refine zw_Land_heldSpots (rest := []) B hP hS rfl hq6 zq_847 (Nat.le_of_ble_eq_true rfl) (Nat.le_of_ble_eq_true rfl) hl.1 rfl (Nat.le_of_ble_eq_true rfl) zd_Post_count_108 (by decide) (fun H locs hP hS => ?_)
                  clear hq6
                  obtain rfl := Option.some.inj hf
                  exact zr_iret hx hb hret hlk hP hS zd_Post_count_111
                · have hf := zu_f h1_7 hf
                  have hsw : a1.toInt < 0 ∨ 7 < a1.toInt := by
                    have n0 := lv_neT h1_0 (a := 0) (by decide)
                    have n1 := lv_neT h1_1 (a := 1) (by decide)
                    have n2 := lv_neT h1_2 (a := 2) (by decide)
                    have n3 := lv_neT h1_3 (a := 3) (by decide)
                    have n4 := lv_neT h1_4 (a := 4) (by decide)
                    have n5 := lv_neT h1_5 (a := 5) (by decide)
                    have n6 := lv_neT h1_6 (a := 6) (by decide)
                    have n7 := lv_neT h1_7 (a := 7) (by decide)
                    omega
                  refine lv_tableOut (tgt := 112) hx hb zd_Post_count_1 hsw (by decide) ?_
                  refine lv_aload_n hx hb zd_Post_count_112 rfl (lv_at hl 0 rfl) ?_
                  refine lv_ldc (v := -1000001) hx hb hown (hts _ zq_226) zd_Post_count_113 ?_
                  obtain ⟨v7, X8, hq9, hf⟩ := zu_b2_e hf
                  refine zw_Post_finding (rest := []) B hP hS hq9 zq_227 (Nat.le_of_ble_eq_true rfl) (Nat.le_of_ble_eq_true rfl) hl.1 rfl (Nat.le_of_ble_eq_true rfl) zd_Post_count_115 (by decide) (fun H locs hP hS => ?_)
                  clear hq9
                  obtain rfl := Option.some.inj hf
                  exact zr_iret hx hb hret hlk hP hS zd_Post_count_118
theorem zC_Post_count (l : Launch) {D : va_G} {cA : Nat → ClassId} {ad : Nat → Nat} {A : Nat → Prop} {a1 : Int32} {X : IX} {Y : LX} {res : Int32 × IX} (hf : fn_Post_count a1 X = some res) : Met l zm_Post_count (zu_ws zm_Post_count zb_Post_count 2 (some .int)) zR_Post_count (va_Pc [.ref (ad 0), .int a1] (zu_Pre D cA ad A X Y)) (zu_Qi D cA ad A res.1 res.2 Y) 0 0 A := by
  refine Met.ofW (cc := zb_Post_count) (maxL := 2) (ret := (some .int)) (by decide +kernel) rfl ?_
  intro p e s m args below meth c s₁ B0 hml hv
  obtain ⟨rfl, hP, hST⟩ := hv
  have B : zu_B p s m _ c zb_Post_count 2 "StonePost" D cA ad A := ⟨B0.exec, B0.bytes, hml, findClass_of_methodNamed B0.named, (fun w hw => atoms_spec (ws := zu_ws zm_Post_count zb_Post_count 2 (some .int)) B0.pre w (List.mem_cons_of_mem _ hw)), hST⟩
  have hl := lv_entry ([.ref (ad 0), .int a1]) (n := 2) (Nat.le_of_ble_eq_true rfl)
  rw [lg_entry_eq]
  generalize (lg_sl ([.ref (ad 0), .int a1]) ++ List.replicate (2 - (lg_sl ([.ref (ad 0), .int a1])).length) Slot.unset).toArray = ls at hl ⊢
  exact zl_Post_count B B0.returns B0.notSynchronized s.heap [] ls hP va_S.rf hl  hf
theorem zw_Post_count {p : Program} {l : Launch} {e : Env} {R : Room} {s : State} {m : MethodId} {args : Array Value} {below : List Frame} {meth : Method} {c : Code} {H : Heap} {locs : List Loc} {cells slots : Nat} {Q : State → Prop} {cc : ByteArray} {pc nL : Nat} {ls : Array Slot} {rest st0 : List Value} {D : va_G} {cA : Nat → ClassId} {ad : Nat → Nat} {A : Nat → Prop} {X : IX} {Y : LX} {own : String} {index : Nat} {a1 : Int32} {v1 : Int32} {X1 : IX} (B : zu_B p s m args c cc nL own D cA ad A) (hP : va_P D zu_cl (zu_pic cA ad X Y) H) (hS : va_S A s.heap H locs) (hq : fn_Post_count a1 X = some (v1, X1)) (m1 : Cond.methodLink own index zm_Post_count ∈ zu_TB) (hR1 : 2 + 1 ≤ R.frames) (hR2 : 8 + (2 + 11) + 44 ≤ R.locals) (hsz : ls.size = nL) (hst : st0 = .int a1 :: .ref (ad 0) :: rest) (hw : (rest.map fun v => v.category).sum ≤ 8) (hdg : decode cc pc = .ok (.invokevirtual index, 3)) (h00 : cells ≤ R.cells ∧ slots ≤ R.slots) (kk : ∀ (H1 : Heap) (locs1 : List Loc), va_P D zu_cl (zu_pic cA ad X1 Y) H1 → va_S A s.heap H1 locs1 → W p l e R s m args below meth c H1 locs1 cells slots Q (F0 m (pc + 3) ls (.int v1 :: rest))) : W p l e R s m args below meth c H locs cells slots Q (F0 m pc ls st0) := by
  subst hst
  exact zr_cVi (As := [.int a1]) (rest := rest) (n := 1) (C := "StonePost") (T := zt_Post) (N := 8) B hP hS (zC_Post_count l  hq) (K := 1) rfl (by decide) (by decide) rfl rfl m1 zq_840 zq_841 zq_1 zq_842 (by decide +kernel) ⟨hR1, hR2⟩ rfl rfl rfl hsz rfl hw hdg h00 kk
abbrev zR_Post_status : Room := { frames := 2, cells := 0, slots := 0, locals := 44 }
theorem zd_Post_status_0 : decode zb_Post_status 0 = .ok (.iload_n 1, 1) := by decide +kernel
theorem zd_Post_status_1 : decode zb_Post_status 1 = .ok (.iconst 0, 1) := by decide +kernel
theorem zd_Post_status_2 : decode zb_Post_status 2 = .ok (.bipush 6, 2) := by decide +kernel
theorem zd_Post_status_4 : decode zb_Post_status 4 = .ok (.invokestatic 51, 3) := by decide +kernel
theorem zd_Post_status_7 : decode zb_Post_status 7 = .ok (.ifCond .eq 10, 3) := by decide +kernel
theorem zd_Post_status_10 : decode zb_Post_status 10 = .ok (.aload_n 0, 1) := by decide +kernel
theorem zd_Post_status_11 : decode zb_Post_status 11 = .ok (.getfield 42, 3) := by decide +kernel
theorem zd_Post_status_14 : decode zb_Post_status 14 = .ok (.iload_n 1, 1) := by decide +kernel
theorem zd_Post_status_15 : decode zb_Post_status 15 = .ok (.iaload, 1) := by decide +kernel
theorem zd_Post_status_16 : decode zb_Post_status 16 = .ok (.ireturn, 1) := by decide +kernel
theorem zd_Post_status_17 : decode zb_Post_status 17 = .ok (.iload_n 1, 1) := by decide +kernel
theorem zd_Post_status_18 : decode zb_Post_status 18 = .ok (.iconst (-1), 1) := by decide +kernel
theorem zd_Post_status_19 : decode zb_Post_status 19 = .ok (.if_icmp .eq 10, 3) := by decide +kernel
theorem zd_Post_status_22 : decode zb_Post_status 22 = .ok (.aload_n 0, 1) := by decide +kernel
theorem zd_Post_status_23 : decode zb_Post_status 23 = .ok (.ldc 55, 2) := by decide +kernel
theorem zd_Post_status_25 : decode zb_Post_status 25 = .ok (.invokevirtual 56, 3) := by decide +kernel
theorem zd_Post_status_28 : decode zb_Post_status 28 = .ok (.ireturn, 1) := by decide +kernel
theorem zd_Post_status_29 : decode zb_Post_status 29 = .ok (.iconst 0, 1) := by decide +kernel
theorem zd_Post_status_30 : decode zb_Post_status 30 = .ok (.istore_n 2, 1) := by decide +kernel
theorem zd_Post_status_31 : decode zb_Post_status 31 = .ok (.iconst 0, 1) := by decide +kernel
theorem zd_Post_status_32 : decode zb_Post_status 32 = .ok (.istore_n 3, 1) := by decide +kernel
theorem zd_Post_status_33 : decode zb_Post_status 33 = .ok (.iload_n 3, 1) := by decide +kernel
theorem zd_Post_status_34 : decode zb_Post_status 34 = .ok (.bipush 7, 2) := by decide +kernel
theorem zd_Post_status_36 : decode zb_Post_status 36 = .ok (.if_icmp .ge 18, 3) := by decide +kernel
theorem zd_Post_status_39 : decode zb_Post_status 39 = .ok (.iload_n 2, 1) := by decide +kernel
theorem zd_Post_status_40 : decode zb_Post_status 40 = .ok (.aload_n 0, 1) := by decide +kernel
theorem zd_Post_status_41 : decode zb_Post_status 41 = .ok (.getfield 42, 3) := by decide +kernel
theorem zd_Post_status_44 : decode zb_Post_status 44 = .ok (.iload_n 3, 1) := by decide +kernel
theorem zd_Post_status_45 : decode zb_Post_status 45 = .ok (.iaload, 1) := by decide +kernel
theorem zd_Post_status_46 : decode zb_Post_status 46 = .ok (.iadd, 1) := by decide +kernel
theorem zd_Post_status_47 : decode zb_Post_status 47 = .ok (.istore_n 2, 1) := by decide +kernel
theorem zd_Post_status_48 : decode zb_Post_status 48 = .ok (.iinc 3 1, 3) := by decide +kernel
theorem zd_Post_status_51 : decode zb_Post_status 51 = .ok (.goto (-18), 3) := by decide +kernel
theorem zd_Post_status_54 : decode zb_Post_status 54 = .ok (.iload_n 2, 1) := by decide +kernel
theorem zd_Post_status_55 : decode zb_Post_status 55 = .ok (.ireturn, 1) := by decide +kernel
set_option maxHeartbeats 4000000 in
theorem zl_Post_status_B33 {p : Program} {l : Launch} {e : Env} {s : State} {m : MethodId} {args : Array Value} {below : List Frame} {meth : Method} {c : Code} {D : va_G} {cA : Nat → ClassId} {ad : Nat → Nat} {A : Nat → Prop} (B : zu_B p s m args c zb_Post_status 4 "StonePost" D cA ad A) (hret : meth.sig.returnType = (some .int)) (hlk : meth.locks = false) {Y : LX} {res : Int32 × IX} {k33 : Int32 → Int32 → IX → Option (Int32 × IX)} (hk33 : ∀ (x2 : Int32) (x3 : Int32) (X : IX) (H : Heap) (locs : List Loc) (ls : Array Slot), va_P D zu_cl (zu_pic cA ad X Y) H → va_S A s.heap H locs → lv_has ls 4 [(0, .ref (ad 0)), (2, .int x2), (3, .int x3)] → k33 x2 x3 X = some res → W p l e zR_Post_status s m args below meth c H locs 0 0 (MQ below (zu_Qi D cA ad A res.1 res.2 Y) args s 0 0 A) (F0 m 33 ls [])) (x2 : Int32) (x3 : Int32) (X : IX) (H : Heap) (locs : List Loc) (ls : Array Slot) (hP : va_P D zu_cl (zu_pic cA ad X Y) H) (hS : va_S A s.heap H locs) (hl : lv_has ls 4 [(0, .ref (ad 0)), (2, .int x2), (3, .int x3)]) (hf : fn_Post_status_B33 k33 x2 x3 X = some res) : W p l e zR_Post_status s m args below meth c H locs 0 0 (MQ below (zu_Qi D cA ad A res.1 res.2 Y) args s 0 0 A) (F0 m 33 ls []) := by
  obtain ⟨hx, hb, hml, hown, hts, hST⟩ := id B
  unfold fn_Post_status_B33 at hf
  refine lv_iload_n hx hb zd_Post_status_33 rfl (lv_at hl 2 rfl) ?_
  refine lv_bipush (v := 7) hx hb zd_Post_status_34 (by decide) ?_
  refine lv_icmp_ge (tgt := 54) hx hb zd_Post_status_36 (by decide) (fun c9 => ?_) (fun c9 => ?_)
  · have hf := zu_t c9 hf
    refine lv_iload_n hx hb zd_Post_status_54 rfl (lv_at hl 1 rfl) ?_
    obtain rfl := Option.some.inj hf
    exact zr_iret hx hb hret hlk hP hS zd_Post_status_55
  · have hf := zu_f c9 hf
    refine lv_iload_n hx hb zd_Post_status_39 rfl (lv_at hl 1 rfl) ?_
    refine lv_aload_n hx hb zd_Post_status_40 rfl (lv_at hl 0 rfl) ?_
    refine zg_Post_found B hP rfl zq_197 zd_Post_status_41 ?_
    refine lv_iload_n hx hb zd_Post_status_44 rfl (lv_at hl 2 rfl) ?_
    obtain ⟨hg10, hf⟩ := zu_gd_e hf
    refine zr_iald rfl B hP rfl (by decide) rfl hg10 zd_Post_status_45 ?_
    refine lv_iadd hx hb zd_Post_status_46 ?_
    refine zr_nxi hf (fun v11 hf => ?_)
    refine lv_istore_n (lv' := [(2, .int v11), (0, .ref (ad 0)), (3, .int x3)]) hx hb zd_Post_status_47 rfl hl (by decide) rfl (fun ls hl => ?_)
    obtain ⟨v12, ev12, hf⟩ := zu_nx_e hf
    refine lv_iinc (v := v12) (lv' := [(3, .int v12), (2, .int v11), (0, .ref (ad 0))]) hx hb zd_Post_status_48 hl (k := 2) rfl (by rw [ev12]; rfl) (by decide) rfl (fun ls hl => ?_)
    clear ev12
    refine lv_goto (tgt := 33) hx hb zd_Post_status_51 (by decide) ?_
    exact hk33 v11 v12 X _ _ _ hP hS (lv_sub hl [2, 1, 0] rfl) hf
theorem zl_Post_status_L33 {p : Program} {l : Launch} {e : Env} {s : State} {m : MethodId} {args : Array Value} {below : List Frame} {meth : Method} {c : Code} {D : va_G} {cA : Nat → ClassId} {ad : Nat → Nat} {A : Nat → Prop} (B : zu_B p s m args c zb_Post_status 4 "StonePost" D cA ad A) (hret : meth.sig.returnType = (some .int)) (hlk : meth.locks = false) {Y : LX} {res : Int32 × IX} : ∀ (n : Nat) (x2 : Int32) (x3 : Int32) (X : IX) (H : Heap) (locs : List Loc) (ls : Array Slot), va_P D zu_cl (zu_pic cA ad X Y) H → va_S A s.heap H locs → lv_has ls 4 [(0, .ref (ad 0)), (2, .int x2), (3, .int x3)] → fn_Post_status_L33 n x2 x3 X = some res → W p l e zR_Post_status s m args below meth c H locs 0 0 (MQ below (zu_Qi D cA ad A res.1 res.2 Y) args s 0 0 A) (F0 m 33 ls []) := by
  intro n
  induction n with
  | zero =>
    intro x2 x3 X H locs ls hP hS hl hf
    exact (Option.some_ne_none _ hf.symm).elim
  | succ n ih =>
    intro x2 x3 X H locs ls hP hS hl hf
    exact zl_Post_status_B33 B hret hlk ih x2 x3 X H locs ls hP hS hl  hf
set_option maxHeartbeats 4000000 in
theorem zl_Post_status {p : Program} {l : Launch} {e : Env} {s : State} {m : MethodId} {args : Array Value} {below : List Frame} {meth : Method} {c : Code} {D : va_G} {cA : Nat → ClassId} {ad : Nat → Nat} {A : Nat → Prop} (B : zu_B p s m args c zb_Post_status 4 "StonePost" D cA ad A) (hret : meth.sig.returnType = (some .int)) (hlk : meth.locks = false) {Y : LX} {res : Int32 × IX} {a1 : Int32} {X : IX} (H : Heap) (locs : List Loc) (ls : Array Slot) (hP : va_P D zu_cl (zu_pic cA ad X Y) H) (hS : va_S A s.heap H locs) (hl : lv_has ls 4 [(0, .ref (ad 0)), (1, .int a1)]) (hf : fn_Post_status a1 X = some res) : W p l e zR_Post_status s m args below meth c H locs 0 0 (MQ below (zu_Qi D cA ad A res.1 res.2 Y) args s 0 0 A) (F0 m 0 ls []) := by
  obtain ⟨hx, hb, hml, hown, hts, hST⟩ := id B
  unfold fn_Post_status at hf
  refine lv_iload_n hx hb zd_Post_status_0 rfl (lv_at hl 1 rfl) ?_
  refine lv_iconst (v := 0) hx hb zd_Post_status_1 (by decide) ?_
  refine lv_bipush (v := 6) hx hb zd_Post_status_2 (by decide) ?_
  obtain ⟨v1, hq2, hf⟩ := zu_b1_e hf
  refine zw_Post_isWithin (rest := []) B hP hS hq2 zq_223 (Nat.le_of_ble_eq_true rfl) (Nat.le_of_ble_eq_true rfl) hl.1 rfl (Nat.le_of_ble_eq_true rfl) zd_Post_status_4 (by decide) (fun H locs hP hS => ?_)
  clear hq2
  refine lv_if_eq (tgt := 17) hx hb zd_Post_status_7 (by decide) (fun c3 => ?_) (fun c3 => ?_)
  · have hf := zu_t c3 hf
    refine lv_iload_n hx hb zd_Post_status_17 rfl (lv_at hl 1 rfl) ?_
    refine lv_iconst (v := -1) hx hb zd_Post_status_18 (by decide) ?_
    refine lv_icmp_eq (tgt := 29) hx hb zd_Post_status_19 (by decide) (fun c4 => ?_) (fun c4 => ?_)
    · have hf := zu_t c4 hf
      refine lv_iconst (v := 0) hx hb zd_Post_status_29 (by decide) ?_
      refine lv_istore_n (lv' := [(2, .int (0 : Int32)), (0, .ref (ad 0)), (1, .int a1)]) hx hb zd_Post_status_30 rfl hl (by decide) rfl (fun ls hl => ?_)
      refine lv_iconst (v := 0) hx hb zd_Post_status_31 (by decide) ?_
      refine lv_istore_n (lv' := [(3, .int (0 : Int32)), (2, .int (0 : Int32)), (0, .ref (ad 0)), (1, .int a1)]) hx hb zd_Post_status_32 rfl hl (by decide) rfl (fun ls hl => ?_)
      exact zl_Post_status_L33 B hret hlk 400 (0 : Int32) (0 : Int32) X _ _ _ hP hS (lv_sub hl [2, 1, 0] rfl) hf
    · have hf := zu_f c4 hf
      refine lv_aload_n hx hb zd_Post_status_22 rfl (lv_at hl 0 rfl) ?_
      refine lv_ldc (v := -1000001) hx hb hown (hts _ zq_226) zd_Post_status_23 ?_
      obtain ⟨v5, X6, hq7, hf⟩ := zu_b2_e hf
      refine zw_Post_finding (rest := []) B hP hS hq7 zq_227 (Nat.le_of_ble_eq_true rfl) (Nat.le_of_ble_eq_true rfl) hl.1 rfl (Nat.le_of_ble_eq_true rfl) zd_Post_status_25 (by decide) (fun H locs hP hS => ?_)
      clear hq7
      obtain rfl := Option.some.inj hf
      exact zr_iret hx hb hret hlk hP hS zd_Post_status_28
  · have hf := zu_f c3 hf
    refine lv_aload_n hx hb zd_Post_status_10 rfl (lv_at hl 0 rfl) ?_
    refine zg_Post_found B hP rfl zq_197 zd_Post_status_11 ?_
    refine lv_iload_n hx hb zd_Post_status_14 rfl (lv_at hl 1 rfl) ?_
    obtain ⟨hg8, hf⟩ := zu_gd_e hf
    refine zr_iald rfl B hP rfl (by decide) rfl hg8 zd_Post_status_15 ?_
    obtain rfl := Option.some.inj hf
    exact zr_iret hx hb hret hlk hP hS zd_Post_status_16
theorem zC_Post_status (l : Launch) {D : va_G} {cA : Nat → ClassId} {ad : Nat → Nat} {A : Nat → Prop} {a1 : Int32} {X : IX} {Y : LX} {res : Int32 × IX} (hf : fn_Post_status a1 X = some res) : Met l zm_Post_status (zu_ws zm_Post_status zb_Post_status 4 (some .int)) zR_Post_status (va_Pc [.ref (ad 0), .int a1] (zu_Pre D cA ad A X Y)) (zu_Qi D cA ad A res.1 res.2 Y) 0 0 A := by
  refine Met.ofW (cc := zb_Post_status) (maxL := 4) (ret := (some .int)) (by decide +kernel) rfl ?_
  intro p e s m args below meth c s₁ B0 hml hv
  obtain ⟨rfl, hP, hST⟩ := hv
  have B : zu_B p s m _ c zb_Post_status 4 "StonePost" D cA ad A := ⟨B0.exec, B0.bytes, hml, findClass_of_methodNamed B0.named, (fun w hw => atoms_spec (ws := zu_ws zm_Post_status zb_Post_status 4 (some .int)) B0.pre w (List.mem_cons_of_mem _ hw)), hST⟩
  have hl := lv_entry ([.ref (ad 0), .int a1]) (n := 4) (Nat.le_of_ble_eq_true rfl)
  rw [lg_entry_eq]
  generalize (lg_sl ([.ref (ad 0), .int a1]) ++ List.replicate (4 - (lg_sl ([.ref (ad 0), .int a1])).length) Slot.unset).toArray = ls at hl ⊢
  exact zl_Post_status B B0.returns B0.notSynchronized s.heap [] ls hP va_S.rf hl  hf
theorem zw_Post_status {p : Program} {l : Launch} {e : Env} {R : Room} {s : State} {m : MethodId} {args : Array Value} {below : List Frame} {meth : Method} {c : Code} {H : Heap} {locs : List Loc} {cells slots : Nat} {Q : State → Prop} {cc : ByteArray} {pc nL : Nat} {ls : Array Slot} {rest st0 : List Value} {D : va_G} {cA : Nat → ClassId} {ad : Nat → Nat} {A : Nat → Prop} {X : IX} {Y : LX} {own : String} {index : Nat} {a1 : Int32} {v1 : Int32} {X1 : IX} (B : zu_B p s m args c cc nL own D cA ad A) (hP : va_P D zu_cl (zu_pic cA ad X Y) H) (hS : va_S A s.heap H locs) (hq : fn_Post_status a1 X = some (v1, X1)) (m1 : Cond.methodLink own index zm_Post_status ∈ zu_TB) (hR1 : 2 + 1 ≤ R.frames) (hR2 : 8 + (4 + 11) + 44 ≤ R.locals) (hsz : ls.size = nL) (hst : st0 = .int a1 :: .ref (ad 0) :: rest) (hw : (rest.map fun v => v.category).sum ≤ 8) (hdg : decode cc pc = .ok (.invokevirtual index, 3)) (h00 : cells ≤ R.cells ∧ slots ≤ R.slots) (kk : ∀ (H1 : Heap) (locs1 : List Loc), va_P D zu_cl (zu_pic cA ad X1 Y) H1 → va_S A s.heap H1 locs1 → W p l e R s m args below meth c H1 locs1 cells slots Q (F0 m (pc + 3) ls (.int v1 :: rest))) : W p l e R s m args below meth c H locs cells slots Q (F0 m pc ls st0) := by
  subst hst
  exact zr_cVi (As := [.int a1]) (rest := rest) (n := 1) (C := "StonePost") (T := zt_Post) (N := 8) B hP hS (zC_Post_status l  hq) (K := 1) rfl (by decide) (by decide) rfl rfl m1 zq_852 zq_853 zq_1 zq_854 (by decide +kernel) ⟨hR1, hR2⟩ rfl rfl rfl hsz rfl hw hdg h00 kk
abbrev zR_Mod_in : Room := { frames := 0, cells := 0, slots := 0, locals := 0 }
theorem zd_Mod_in_0 : decode zb_Mod_in 0 = .ok (.lload_n 0, 1) := by decide +kernel
theorem zd_Mod_in_1 : decode zb_Mod_in 1 = .ok (.lload_n 2, 1) := by decide +kernel
theorem zd_Mod_in_2 : decode zb_Mod_in 2 = .ok (.lcmp, 1) := by decide +kernel
theorem zd_Mod_in_3 : decode zb_Mod_in 3 = .ok (.ifCond .lt 14, 3) := by decide +kernel
theorem zd_Mod_in_6 : decode zb_Mod_in 6 = .ok (.lload_n 0, 1) := by decide +kernel
theorem zd_Mod_in_7 : decode zb_Mod_in 7 = .ok (.lload 4, 2) := by decide +kernel
theorem zd_Mod_in_9 : decode zb_Mod_in 9 = .ok (.lcmp, 1) := by decide +kernel
theorem zd_Mod_in_10 : decode zb_Mod_in 10 = .ok (.ifCond .gt 7, 3) := by decide +kernel
theorem zd_Mod_in_13 : decode zb_Mod_in 13 = .ok (.iconst 1, 1) := by decide +kernel
theorem zd_Mod_in_14 : decode zb_Mod_in 14 = .ok (.goto 4, 3) := by decide +kernel
theorem zd_Mod_in_17 : decode zb_Mod_in 17 = .ok (.iconst 0, 1) := by decide +kernel
theorem zd_Mod_in_18 : decode zb_Mod_in 18 = .ok (.ireturn, 1) := by decide +kernel
set_option maxHeartbeats 4000000 in
theorem zl_Mod_in_L18 {p : Program} {l : Launch} {e : Env} {s : State} {m : MethodId} {args : Array Value} {below : List Frame} {meth : Method} {c : Code} {D : va_G} {cA : Nat → ClassId} {ad : Nat → Nat} {A : Nat → Prop} (B : zu_B p s m args c zb_Mod_in 6 "StonePostModel" D cA ad A) (hret : meth.sig.returnType = (some .boolean)) (hlk : meth.locks = false) {X : IX} {Y : LX} {res : Int32} (y0 : Int32) (H : Heap) (locs : List Loc) (ls : Array Slot) (hP : va_P D zu_cl (zu_pic cA ad X Y) H) (hS : va_S A s.heap H locs) (hl : lv_has ls 6 []) (hf : fn_Mod_in_L18 y0 = some res) : W p l e zR_Mod_in s m args below meth c H locs 0 0 (MQ below (zu_Qi D cA ad A res X Y) args s 0 0 A) (F0 m 18 ls [.int y0]) := by
  obtain ⟨hx, hb, hml, hown, hts, hST⟩ := id B
  unfold fn_Mod_in_L18 at hf
  obtain ⟨hg3, hf⟩ := zu_gd_e hf
  obtain rfl := Option.some.inj hf
  exact zr_zret hx hb hret hlk hP hS hg3 zd_Mod_in_18
set_option maxHeartbeats 4000000 in
theorem zl_Mod_in_L17 {p : Program} {l : Launch} {e : Env} {s : State} {m : MethodId} {args : Array Value} {below : List Frame} {meth : Method} {c : Code} {D : va_G} {cA : Nat → ClassId} {ad : Nat → Nat} {A : Nat → Prop} (B : zu_B p s m args c zb_Mod_in 6 "StonePostModel" D cA ad A) (hret : meth.sig.returnType = (some .boolean)) (hlk : meth.locks = false) {X : IX} {Y : LX} {res : Int32} (H : Heap) (locs : List Loc) (ls : Array Slot) (hP : va_P D zu_cl (zu_pic cA ad X Y) H) (hS : va_S A s.heap H locs) (hl : lv_has ls 6 []) (hf : fn_Mod_in_L17 = some res) : W p l e zR_Mod_in s m args below meth c H locs 0 0 (MQ below (zu_Qi D cA ad A res X Y) args s 0 0 A) (F0 m 17 ls []) := by
  obtain ⟨hx, hb, hml, hown, hts, hST⟩ := id B
  unfold fn_Mod_in_L17 at hf
  refine lv_iconst (v := 0) hx hb zd_Mod_in_17 (by decide) ?_
  exact zl_Mod_in_L18 B hret hlk (0 : Int32) _ _ _ hP hS (lv_sub hl [] rfl) hf
set_option maxHeartbeats 4000000 in
theorem zl_Mod_in {p : Program} {l : Launch} {e : Env} {s : State} {m : MethodId} {args : Array Value} {below : List Frame} {meth : Method} {c : Code} {D : va_G} {cA : Nat → ClassId} {ad : Nat → Nat} {A : Nat → Prop} (B : zu_B p s m args c zb_Mod_in 6 "StonePostModel" D cA ad A) (hret : meth.sig.returnType = (some .boolean)) (hlk : meth.locks = false) {X : IX} {Y : LX} {res : Int32} {a0 : Int64} {a2 : Int64} {a4 : Int64} (H : Heap) (locs : List Loc) (ls : Array Slot) (hP : va_P D zu_cl (zu_pic cA ad X Y) H) (hS : va_S A s.heap H locs) (hl : lv_has ls 6 [(0, .long a0), (2, .long a2), (4, .long a4)]) (hf : fn_Mod_in a0 a2 a4 = some res) : W p l e zR_Mod_in s m args below meth c H locs 0 0 (MQ below (zu_Qi D cA ad A res X Y) args s 0 0 A) (F0 m 0 ls []) := by
  obtain ⟨hx, hb, hml, hown, hts, hST⟩ := id B
  unfold fn_Mod_in at hf
  refine lv_lload_n hx hb zd_Mod_in_0 rfl (lv_at hl 0 rfl) ?_
  refine lv_lload_n hx hb zd_Mod_in_1 rfl (lv_at hl 1 rfl) ?_
  refine W.lcmp hx hb zd_Mod_in_2 ?_
  refine lv_if_lt (tgt := 17) hx hb zd_Mod_in_3 (by decide) (fun c1 => ?_) (fun c1 => ?_)
  · have hf := zu_t c1 hf
    exact zl_Mod_in_L17 B hret hlk _ _ _ hP hS (lv_sub hl [] rfl) hf
  · have hf := zu_f c1 hf
    refine lv_lload_n hx hb zd_Mod_in_6 rfl (lv_at hl 0 rfl) ?_
    refine lv_lload hx hb zd_Mod_in_7 (lv_at hl 2 rfl) ?_
    refine W.lcmp hx hb zd_Mod_in_9 ?_
    refine lv_if_gt (tgt := 17) hx hb zd_Mod_in_10 (by decide) (fun c2 => ?_) (fun c2 => ?_)
    · have hf := zu_t c2 hf
      exact zl_Mod_in_L17 B hret hlk _ _ _ hP hS (lv_sub hl [] rfl) hf
    · have hf := zu_f c2 hf
      refine lv_iconst (v := 1) hx hb zd_Mod_in_13 (by decide) ?_
      refine lv_goto (tgt := 18) hx hb zd_Mod_in_14 (by decide) ?_
      exact zl_Mod_in_L18 B hret hlk (1 : Int32) _ _ _ hP hS (lv_sub hl [] rfl) hf
theorem zC_Mod_in (l : Launch) {D : va_G} {cA : Nat → ClassId} {ad : Nat → Nat} {A : Nat → Prop} {a0 : Int64} {a2 : Int64} {a4 : Int64} {X : IX} {Y : LX} {res : Int32} (hf : fn_Mod_in a0 a2 a4 = some res) : Met l zm_Mod_in (zu_ws zm_Mod_in zb_Mod_in 6 (some .boolean)) zR_Mod_in (va_Pc [.long a0, .long a2, .long a4] (zu_Pre D cA ad A X Y)) (zu_Qi D cA ad A res X Y) 0 0 A := by
  refine Met.ofW (cc := zb_Mod_in) (maxL := 6) (ret := (some .boolean)) (by decide +kernel) rfl ?_
  intro p e s m args below meth c s₁ B0 hml hv
  obtain ⟨rfl, hP, hST⟩ := hv
  have B : zu_B p s m _ c zb_Mod_in 6 "StonePostModel" D cA ad A := ⟨B0.exec, B0.bytes, hml, findClass_of_methodNamed B0.named, (fun w hw => atoms_spec (ws := zu_ws zm_Mod_in zb_Mod_in 6 (some .boolean)) B0.pre w (List.mem_cons_of_mem _ hw)), hST⟩
  have hl := lv_entry ([.long a0, .long a2, .long a4]) (n := 6) (Nat.le_of_ble_eq_true rfl)
  rw [lg_entry_eq]
  generalize (lg_sl ([.long a0, .long a2, .long a4]) ++ List.replicate (6 - (lg_sl ([.long a0, .long a2, .long a4])).length) Slot.unset).toArray = ls at hl ⊢
  exact zl_Mod_in B B0.returns B0.notSynchronized s.heap [] ls hP va_S.rf hl  hf
theorem zw_Mod_in {p : Program} {l : Launch} {e : Env} {R : Room} {s : State} {m : MethodId} {args : Array Value} {below : List Frame} {meth : Method} {c : Code} {H : Heap} {locs : List Loc} {cells slots : Nat} {Q : State → Prop} {cc : ByteArray} {pc nL : Nat} {ls : Array Slot} {rest st0 : List Value} {D : va_G} {cA : Nat → ClassId} {ad : Nat → Nat} {A : Nat → Prop} {X : IX} {Y : LX} {own : String} {index : Nat} {a0 : Int64} {a2 : Int64} {a4 : Int64} {v1 : Int32} (B : zu_B p s m args c cc nL own D cA ad A) (hP : va_P D zu_cl (zu_pic cA ad X Y) H) (hS : va_S A s.heap H locs) (hq : fn_Mod_in a0 a2 a4 = some v1) (m1 : Cond.methodLink own index zm_Mod_in ∈ zu_TB) (hR1 : 0 + 1 ≤ R.frames) (hR2 : 8 + (6 + 11) + 0 ≤ R.locals) (hsz : ls.size = nL) (hst : st0 = .long a4 :: .long a2 :: .long a0 ::  rest) (hw : (rest.map fun v => v.category).sum ≤ 8) (hdg : decode cc pc = .ok (.invokestatic index, 3)) (h00 : cells ≤ R.cells ∧ slots ≤ R.slots) (kk : ∀ (H1 : Heap) (locs1 : List Loc), va_P D zu_cl (zu_pic cA ad X Y) H1 → va_S A s.heap H1 locs1 → W p l e R s m args below meth c H1 locs1 cells slots Q (F0 m (pc + 3) ls (.int v1 :: rest))) : W p l e R s m args below meth c H locs cells slots Q (F0 m pc ls st0) := by
  subst hst
  exact zr_cSi (As := [.long a0, .long a2, .long a4]) (rest := rest) (n := 3) B hP hS (zC_Mod_in l  hq) m1 zq_940 zq_8 zq_941 (by decide +kernel) ⟨hR1, hR2⟩ rfl rfl rfl hsz rfl hw hdg h00 kk
abbrev zR_Mod_finds : Room := { frames := 0, cells := 0, slots := 0, locals := 0 }
theorem zd_Mod_finds_0 : decode zb_Mod_finds 0 = .ok (.aload_n 0, 1) := by decide +kernel
theorem zd_Mod_finds_1 : decode zb_Mod_finds 1 = .ok (.getfield 19, 3) := by decide +kernel
theorem zd_Mod_finds_4 : decode zb_Mod_finds 4 = .ok (.ldc 50, 2) := by decide +kernel
theorem zd_Mod_finds_6 : decode zb_Mod_finds 6 = .ok (.iload_n 1, 1) := by decide +kernel
theorem zd_Mod_finds_7 : decode zb_Mod_finds 7 = .ok (.isub, 1) := by decide +kernel
theorem zd_Mod_finds_8 : decode zb_Mod_finds 8 = .ok (.dup2, 1) := by decide +kernel
theorem zd_Mod_finds_9 : decode zb_Mod_finds 9 = .ok (.iaload, 1) := by decide +kernel
theorem zd_Mod_finds_10 : decode zb_Mod_finds 10 = .ok (.iconst 1, 1) := by decide +kernel
theorem zd_Mod_finds_11 : decode zb_Mod_finds 11 = .ok (.iadd, 1) := by decide +kernel
theorem zd_Mod_finds_12 : decode zb_Mod_finds 12 = .ok (.iastore, 1) := by decide +kernel
theorem zd_Mod_finds_13 : decode zb_Mod_finds 13 = .ok (.iload_n 1, 1) := by decide +kernel
theorem zd_Mod_finds_14 : decode zb_Mod_finds 14 = .ok (.ireturn, 1) := by decide +kernel
set_option maxHeartbeats 4000000 in
theorem zl_Mod_finds {p : Program} {l : Launch} {e : Env} {s : State} {m : MethodId} {args : Array Value} {below : List Frame} {meth : Method} {c : Code} {D : va_G} {cA : Nat → ClassId} {ad : Nat → Nat} {A : Nat → Prop} (B : zu_B p s m args c zb_Mod_finds 2 "StonePostModel" D cA ad A) (hret : meth.sig.returnType = (some .int)) (hlk : meth.locks = false) {Y : LX} {res : Int32 × IX} {a1 : Int32} {X : IX} (H : Heap) (locs : List Loc) (ls : Array Slot) (hP : va_P D zu_cl (zu_pic cA ad X Y) H) (hS : va_S A s.heap H locs) (hl : lv_has ls 2 [(0, .ref (ad 95)), (1, .int a1)]) (hf : fn_Mod_finds a1 X = some res) : W p l e zR_Mod_finds s m args below meth c H locs 0 0 (MQ below (zu_Qi D cA ad A res.1 res.2 Y) args s 0 0 A) (F0 m 0 ls []) := by
  obtain ⟨hx, hb, hml, hown, hts, hST⟩ := id B
  unfold fn_Mod_finds at hf
  refine lv_aload_n hx hb zd_Mod_finds_0 rfl (lv_at hl 0 rfl) ?_
  refine zg_Mod_statuses B hP rfl zq_864 zd_Mod_finds_1 ?_
  refine lv_ldc (v := -1000001) hx hb hown (hts _ zq_943) zd_Mod_finds_4 ?_
  refine lv_iload_n hx hb zd_Mod_finds_6 rfl (lv_at hl 1 rfl) ?_
  refine lv_isub hx hb zd_Mod_finds_7 ?_
  refine lv_dup2_11 hx hb zd_Mod_finds_8 rfl rfl ?_
  obtain ⟨hg1, hf⟩ := zu_gd_e hf
  refine zr_iald rfl B hP rfl (by decide) rfl hg1 zd_Mod_finds_9 ?_
  refine lv_iconst (v := 1) hx hb zd_Mod_finds_10 (by decide) ?_
  refine lv_iadd hx hb zd_Mod_finds_11 ?_
  obtain ⟨hg2, hf⟩ := zu_gd_e hf
  refine zr_iast rfl B hP hS hf rfl (by decide) rfl hg2 zd_Mod_finds_12 (fun X3 H locs hf hP hS => ?_)
  refine lv_iload_n hx hb zd_Mod_finds_13 rfl (lv_at hl 1 rfl) ?_
  obtain rfl := Option.some.inj hf
  exact zr_iret hx hb hret hlk hP hS zd_Mod_finds_14
theorem zC_Mod_finds (l : Launch) {D : va_G} {cA : Nat → ClassId} {ad : Nat → Nat} {A : Nat → Prop} {a1 : Int32} {X : IX} {Y : LX} {res : Int32 × IX} (hf : fn_Mod_finds a1 X = some res) : Met l zm_Mod_finds (zu_ws zm_Mod_finds zb_Mod_finds 2 (some .int)) zR_Mod_finds (va_Pc [.ref (ad 95), .int a1] (zu_Pre D cA ad A X Y)) (zu_Qi D cA ad A res.1 res.2 Y) 0 0 A := by
  refine Met.ofW (cc := zb_Mod_finds) (maxL := 2) (ret := (some .int)) (by decide +kernel) rfl ?_
  intro p e s m args below meth c s₁ B0 hml hv
  obtain ⟨rfl, hP, hST⟩ := hv
  have B : zu_B p s m _ c zb_Mod_finds 2 "StonePostModel" D cA ad A := ⟨B0.exec, B0.bytes, hml, findClass_of_methodNamed B0.named, (fun w hw => atoms_spec (ws := zu_ws zm_Mod_finds zb_Mod_finds 2 (some .int)) B0.pre w (List.mem_cons_of_mem _ hw)), hST⟩
  have hl := lv_entry ([.ref (ad 95), .int a1]) (n := 2) (Nat.le_of_ble_eq_true rfl)
  rw [lg_entry_eq]
  generalize (lg_sl ([.ref (ad 95), .int a1]) ++ List.replicate (2 - (lg_sl ([.ref (ad 95), .int a1])).length) Slot.unset).toArray = ls at hl ⊢
  exact zl_Mod_finds B B0.returns B0.notSynchronized s.heap [] ls hP va_S.rf hl  hf
theorem zw_Mod_finds {p : Program} {l : Launch} {e : Env} {R : Room} {s : State} {m : MethodId} {args : Array Value} {below : List Frame} {meth : Method} {c : Code} {H : Heap} {locs : List Loc} {cells slots : Nat} {Q : State → Prop} {cc : ByteArray} {pc nL : Nat} {ls : Array Slot} {rest st0 : List Value} {D : va_G} {cA : Nat → ClassId} {ad : Nat → Nat} {A : Nat → Prop} {X : IX} {Y : LX} {own : String} {index : Nat} {a1 : Int32} {v1 : Int32} {X1 : IX} (B : zu_B p s m args c cc nL own D cA ad A) (hP : va_P D zu_cl (zu_pic cA ad X Y) H) (hS : va_S A s.heap H locs) (hq : fn_Mod_finds a1 X = some (v1, X1)) (m1 : Cond.methodLink own index zm_Mod_finds ∈ zu_TB) (hR1 : 0 + 1 ≤ R.frames) (hR2 : 8 + (2 + 11) + 0 ≤ R.locals) (hsz : ls.size = nL) (hst : st0 = .int a1 :: .ref (ad 95) :: rest) (hw : (rest.map fun v => v.category).sum ≤ 8) (hdg : decode cc pc = .ok (.invokevirtual index, 3)) (h00 : cells ≤ R.cells ∧ slots ≤ R.slots) (kk : ∀ (H1 : Heap) (locs1 : List Loc), va_P D zu_cl (zu_pic cA ad X1 Y) H1 → va_S A s.heap H1 locs1 → W p l e R s m args below meth c H1 locs1 cells slots Q (F0 m (pc + 3) ls (.int v1 :: rest))) : W p l e R s m args below meth c H locs cells slots Q (F0 m pc ls st0) := by
  subst hst
  exact zr_cVi (As := [.int a1]) (rest := rest) (n := 1) (C := "StonePostModel") (T := zt_Mod) (N := 23) B hP hS (zC_Mod_finds l  hq) (K := 7) rfl (by decide) (by decide) rfl rfl m1 zq_946 zqP_20 zq_8 zq_947 (by decide +kernel) ⟨hR1, hR2⟩ rfl rfl rfl hsz rfl hw hdg h00 kk
abbrev zR_Mod_isCell : Room := { frames := 1, cells := 0, slots := 0, locals := 25 }
theorem zd_Mod_isCell_0 : decode zb_Mod_isCell 0 = .ok (.iload_n 0, 1) := by decide +kernel
theorem zd_Mod_isCell_1 : decode zb_Mod_isCell 1 = .ok (.i2l, 1) := by decide +kernel
theorem zd_Mod_isCell_2 : decode zb_Mod_isCell 2 = .ok (.lconst 0, 1) := by decide +kernel
theorem zd_Mod_isCell_3 : decode zb_Mod_isCell 3 = .ok (.ldc2_w 51, 3) := by decide +kernel
theorem zd_Mod_isCell_6 : decode zb_Mod_isCell 6 = .ok (.invokestatic 53, 3) := by decide +kernel
theorem zd_Mod_isCell_9 : decode zb_Mod_isCell 9 = .ok (.ireturn, 1) := by decide +kernel
set_option maxHeartbeats 4000000 in
theorem zl_Mod_isCell {p : Program} {l : Launch} {e : Env} {s : State} {m : MethodId} {args : Array Value} {below : List Frame} {meth : Method} {c : Code} {D : va_G} {cA : Nat → ClassId} {ad : Nat → Nat} {A : Nat → Prop} (B : zu_B p s m args c zb_Mod_isCell 1 "StonePostModel" D cA ad A) (hret : meth.sig.returnType = (some .boolean)) (hlk : meth.locks = false) {X : IX} {Y : LX} {res : Int32} {a0 : Int32} (H : Heap) (locs : List Loc) (ls : Array Slot) (hP : va_P D zu_cl (zu_pic cA ad X Y) H) (hS : va_S A s.heap H locs) (hl : lv_has ls 1 [(0, .int a0)]) (hf : fn_Mod_isCell a0 = some res) : W p l e zR_Mod_isCell s m args below meth c H locs 0 0 (MQ below (zu_Qi D cA ad A res X Y) args s 0 0 A) (F0 m 0 ls []) := by
  obtain ⟨hx, hb, hml, hown, hts, hST⟩ := id B
  unfold fn_Mod_isCell at hf
  refine lv_iload_n hx hb zd_Mod_isCell_0 rfl (lv_at hl 0 rfl) ?_
  refine lv_i2l hx hb zd_Mod_isCell_1 rfl ?_
  refine lv_lconst (v := 0) hx hb zd_Mod_isCell_2 (by decide) ?_
  refine lv_ldc2 (v := 23) hx hb hown (hts _ zq_938) zd_Mod_isCell_3 ?_
  obtain ⟨v1, hq2, hf⟩ := zu_b1_e hf
  refine zw_Mod_in (rest := []) B hP hS hq2 zq_939 (Nat.le_of_ble_eq_true rfl) (Nat.le_of_ble_eq_true rfl) hl.1 rfl (Nat.le_of_ble_eq_true rfl) zd_Mod_isCell_6 (by decide) (fun H locs hP hS => ?_)
  clear hq2
  obtain ⟨hg3, hf⟩ := zu_gd_e hf
  obtain rfl := Option.some.inj hf
  exact zr_zret hx hb hret hlk hP hS hg3 zd_Mod_isCell_9
theorem zC_Mod_isCell (l : Launch) {D : va_G} {cA : Nat → ClassId} {ad : Nat → Nat} {A : Nat → Prop} {a0 : Int32} {X : IX} {Y : LX} {res : Int32} (hf : fn_Mod_isCell a0 = some res) : Met l zm_Mod_isCell (zu_ws zm_Mod_isCell zb_Mod_isCell 1 (some .boolean)) zR_Mod_isCell (va_Pc [.int a0] (zu_Pre D cA ad A X Y)) (zu_Qi D cA ad A res X Y) 0 0 A := by
  refine Met.ofW (cc := zb_Mod_isCell) (maxL := 1) (ret := (some .boolean)) (by decide +kernel) rfl ?_
  intro p e s m args below meth c s₁ B0 hml hv
  obtain ⟨rfl, hP, hST⟩ := hv
  have B : zu_B p s m _ c zb_Mod_isCell 1 "StonePostModel" D cA ad A := ⟨B0.exec, B0.bytes, hml, findClass_of_methodNamed B0.named, (fun w hw => atoms_spec (ws := zu_ws zm_Mod_isCell zb_Mod_isCell 1 (some .boolean)) B0.pre w (List.mem_cons_of_mem _ hw)), hST⟩
  have hl := lv_entry ([.int a0]) (n := 1) (Nat.le_of_ble_eq_true rfl)
  rw [lg_entry_eq]
  generalize (lg_sl ([.int a0]) ++ List.replicate (1 - (lg_sl ([.int a0])).length) Slot.unset).toArray = ls at hl ⊢
  exact zl_Mod_isCell B B0.returns B0.notSynchronized s.heap [] ls hP va_S.rf hl  hf
theorem zw_Mod_isCell {p : Program} {l : Launch} {e : Env} {R : Room} {s : State} {m : MethodId} {args : Array Value} {below : List Frame} {meth : Method} {c : Code} {H : Heap} {locs : List Loc} {cells slots : Nat} {Q : State → Prop} {cc : ByteArray} {pc nL : Nat} {ls : Array Slot} {rest st0 : List Value} {D : va_G} {cA : Nat → ClassId} {ad : Nat → Nat} {A : Nat → Prop} {X : IX} {Y : LX} {own : String} {index : Nat} {a0 : Int32} {v1 : Int32} (B : zu_B p s m args c cc nL own D cA ad A) (hP : va_P D zu_cl (zu_pic cA ad X Y) H) (hS : va_S A s.heap H locs) (hq : fn_Mod_isCell a0 = some v1) (m1 : Cond.methodLink own index zm_Mod_isCell ∈ zu_TB) (hR1 : 1 + 1 ≤ R.frames) (hR2 : 8 + (1 + 11) + 25 ≤ R.locals) (hsz : ls.size = nL) (hst : st0 = .int a0 ::  rest) (hw : (rest.map fun v => v.category).sum ≤ 8) (hdg : decode cc pc = .ok (.invokestatic index, 3)) (h00 : cells ≤ R.cells ∧ slots ≤ R.slots) (kk : ∀ (H1 : Heap) (locs1 : List Loc), va_P D zu_cl (zu_pic cA ad X Y) H1 → va_S A s.heap H1 locs1 → W p l e R s m args below meth c H1 locs1 cells slots Q (F0 m (pc + 3) ls (.int v1 :: rest))) : W p l e R s m args below meth c H locs cells slots Q (F0 m pc ls st0) := by
  subst hst
  exact zr_cSi (As := [.int a0]) (rest := rest) (n := 1) B hP hS (zC_Mod_isCell l  hq) m1 zq_936 zq_8 zq_937 (by decide +kernel) ⟨hR1, hR2⟩ rfl rfl rfl hsz rfl hw hdg h00 kk
abbrev zR_Mod_isThrower : Room := { frames := 1, cells := 0, slots := 0, locals := 25 }
theorem zd_Mod_isThrower_0 : decode zb_Mod_isThrower 0 = .ok (.iload_n 1, 1) := by decide +kernel
theorem zd_Mod_isThrower_1 : decode zb_Mod_isThrower 1 = .ok (.i2l, 1) := by decide +kernel
theorem zd_Mod_isThrower_2 : decode zb_Mod_isThrower 2 = .ok (.lconst 0, 1) := by decide +kernel
theorem zd_Mod_isThrower_3 : decode zb_Mod_isThrower 3 = .ok (.aload_n 0, 1) := by decide +kernel
theorem zd_Mod_isThrower_4 : decode zb_Mod_isThrower 4 = .ok (.getfield 7, 3) := by decide +kernel
theorem zd_Mod_isThrower_7 : decode zb_Mod_isThrower 7 = .ok (.iconst 1, 1) := by decide +kernel
theorem zd_Mod_isThrower_8 : decode zb_Mod_isThrower 8 = .ok (.iaload, 1) := by decide +kernel
theorem zd_Mod_isThrower_9 : decode zb_Mod_isThrower 9 = .ok (.iconst 1, 1) := by decide +kernel
theorem zd_Mod_isThrower_10 : decode zb_Mod_isThrower 10 = .ok (.isub, 1) := by decide +kernel
theorem zd_Mod_isThrower_11 : decode zb_Mod_isThrower 11 = .ok (.i2l, 1) := by decide +kernel
theorem zd_Mod_isThrower_12 : decode zb_Mod_isThrower 12 = .ok (.invokestatic 53, 3) := by decide +kernel
theorem zd_Mod_isThrower_15 : decode zb_Mod_isThrower 15 = .ok (.ireturn, 1) := by decide +kernel
set_option maxHeartbeats 4000000 in
theorem zl_Mod_isThrower {p : Program} {l : Launch} {e : Env} {s : State} {m : MethodId} {args : Array Value} {below : List Frame} {meth : Method} {c : Code} {D : va_G} {cA : Nat → ClassId} {ad : Nat → Nat} {A : Nat → Prop} (B : zu_B p s m args c zb_Mod_isThrower 2 "StonePostModel" D cA ad A) (hret : meth.sig.returnType = (some .boolean)) (hlk : meth.locks = false) {X : IX} {Y : LX} {res : Int32} {a1 : Int32} (H : Heap) (locs : List Loc) (ls : Array Slot) (hP : va_P D zu_cl (zu_pic cA ad X Y) H) (hS : va_S A s.heap H locs) (hl : lv_has ls 2 [(0, .ref (ad 95)), (1, .int a1)]) (hf : fn_Mod_isThrower X a1 = some res) : W p l e zR_Mod_isThrower s m args below meth c H locs 0 0 (MQ below (zu_Qi D cA ad A res X Y) args s 0 0 A) (F0 m 0 ls []) := by
  obtain ⟨hx, hb, hml, hown, hts, hST⟩ := id B
  unfold fn_Mod_isThrower at hf
  refine lv_iload_n hx hb zd_Mod_isThrower_0 rfl (lv_at hl 1 rfl) ?_
  refine lv_i2l hx hb zd_Mod_isThrower_1 rfl ?_
  refine lv_lconst (v := 0) hx hb zd_Mod_isThrower_2 (by decide) ?_
  refine lv_aload_n hx hb zd_Mod_isThrower_3 rfl (lv_at hl 0 rfl) ?_
  refine zg_Mod_s B hP rfl zq_861 zd_Mod_isThrower_4 ?_
  refine lv_iconst (v := 1) hx hb zd_Mod_isThrower_7 (by decide) ?_
  refine zr_iald (j := 1) (by decide) B hP rfl (by decide) rfl (by decide) zd_Mod_isThrower_8 ?_
  refine lv_iconst (v := 1) hx hb zd_Mod_isThrower_9 (by decide) ?_
  refine lv_isub hx hb zd_Mod_isThrower_10 ?_
  refine lv_i2l hx hb zd_Mod_isThrower_11 rfl ?_
  obtain ⟨v1, hq2, hf⟩ := zu_b1_e hf
  refine zw_Mod_in (rest := []) B hP hS hq2 zq_939 (Nat.le_of_ble_eq_true rfl) (Nat.le_of_ble_eq_true rfl) hl.1 rfl (Nat.le_of_ble_eq_true rfl) zd_Mod_isThrower_12 (by decide) (fun H locs hP hS => ?_)
  clear hq2
  obtain ⟨hg3, hf⟩ := zu_gd_e hf
  obtain rfl := Option.some.inj hf
  exact zr_zret hx hb hret hlk hP hS hg3 zd_Mod_isThrower_15
theorem zC_Mod_isThrower (l : Launch) {D : va_G} {cA : Nat → ClassId} {ad : Nat → Nat} {A : Nat → Prop} {a1 : Int32} {X : IX} {Y : LX} {res : Int32} (hf : fn_Mod_isThrower X a1 = some res) : Met l zm_Mod_isThrower (zu_ws zm_Mod_isThrower zb_Mod_isThrower 2 (some .boolean)) zR_Mod_isThrower (va_Pc [.ref (ad 95), .int a1] (zu_Pre D cA ad A X Y)) (zu_Qi D cA ad A res X Y) 0 0 A := by
  refine Met.ofW (cc := zb_Mod_isThrower) (maxL := 2) (ret := (some .boolean)) (by decide +kernel) rfl ?_
  intro p e s m args below meth c s₁ B0 hml hv
  obtain ⟨rfl, hP, hST⟩ := hv
  have B : zu_B p s m _ c zb_Mod_isThrower 2 "StonePostModel" D cA ad A := ⟨B0.exec, B0.bytes, hml, findClass_of_methodNamed B0.named, (fun w hw => atoms_spec (ws := zu_ws zm_Mod_isThrower zb_Mod_isThrower 2 (some .boolean)) B0.pre w (List.mem_cons_of_mem _ hw)), hST⟩
  have hl := lv_entry ([.ref (ad 95), .int a1]) (n := 2) (Nat.le_of_ble_eq_true rfl)
  rw [lg_entry_eq]
  generalize (lg_sl ([.ref (ad 95), .int a1]) ++ List.replicate (2 - (lg_sl ([.ref (ad 95), .int a1])).length) Slot.unset).toArray = ls at hl ⊢
  exact zl_Mod_isThrower B B0.returns B0.notSynchronized s.heap [] ls hP va_S.rf hl  hf
theorem zw_Mod_isThrower {p : Program} {l : Launch} {e : Env} {R : Room} {s : State} {m : MethodId} {args : Array Value} {below : List Frame} {meth : Method} {c : Code} {H : Heap} {locs : List Loc} {cells slots : Nat} {Q : State → Prop} {cc : ByteArray} {pc nL : Nat} {ls : Array Slot} {rest st0 : List Value} {D : va_G} {cA : Nat → ClassId} {ad : Nat → Nat} {A : Nat → Prop} {X : IX} {Y : LX} {own : String} {index : Nat} {a1 : Int32} {v1 : Int32} (B : zu_B p s m args c cc nL own D cA ad A) (hP : va_P D zu_cl (zu_pic cA ad X Y) H) (hS : va_S A s.heap H locs) (hq : fn_Mod_isThrower X a1 = some v1) (m1 : Cond.methodLink own index zm_Mod_isThrower ∈ zu_TB) (hR1 : 1 + 1 ≤ R.frames) (hR2 : 8 + (2 + 11) + 25 ≤ R.locals) (hsz : ls.size = nL) (hst : st0 = .int a1 :: .ref (ad 95) :: rest) (hw : (rest.map fun v => v.category).sum ≤ 8) (hdg : decode cc pc = .ok (.invokevirtual index, 3)) (h00 : cells ≤ R.cells ∧ slots ≤ R.slots) (kk : ∀ (H1 : Heap) (locs1 : List Loc), va_P D zu_cl (zu_pic cA ad X Y) H1 → va_S A s.heap H1 locs1 → W p l e R s m args below meth c H1 locs1 cells slots Q (F0 m (pc + 3) ls (.int v1 :: rest))) : W p l e R s m args below meth c H locs cells slots Q (F0 m pc ls st0) := by
  subst hst
  exact zr_cVi (As := [.int a1]) (rest := rest) (n := 1) (C := "StonePostModel") (T := zt_Mod) (N := 23) B hP hS (zC_Mod_isThrower l  hq) (K := 7) rfl (by decide) (by decide) rfl rfl m1 zq_981 zqP_24 zq_8 zq_982 (by decide +kernel) ⟨hR1, hR2⟩ rfl rfl rfl hsz rfl hw hdg h00 kk
abbrev zR_Mod_isLetter : Room := { frames := 1, cells := 0, slots := 0, locals := 25 }
theorem zd_Mod_isLetter_0 : decode zb_Mod_isLetter 0 = .ok (.iload_n 1, 1) := by decide +kernel
theorem zd_Mod_isLetter_1 : decode zb_Mod_isLetter 1 = .ok (.i2l, 1) := by decide +kernel
theorem zd_Mod_isLetter_2 : decode zb_Mod_isLetter 2 = .ok (.lconst 0, 1) := by decide +kernel
theorem zd_Mod_isLetter_3 : decode zb_Mod_isLetter 3 = .ok (.aload_n 0, 1) := by decide +kernel
theorem zd_Mod_isLetter_4 : decode zb_Mod_isLetter 4 = .ok (.getfield 7, 3) := by decide +kernel
theorem zd_Mod_isLetter_7 : decode zb_Mod_isLetter 7 = .ok (.iconst 2, 1) := by decide +kernel
theorem zd_Mod_isLetter_8 : decode zb_Mod_isLetter 8 = .ok (.iaload, 1) := by decide +kernel
theorem zd_Mod_isLetter_9 : decode zb_Mod_isLetter 9 = .ok (.iconst 1, 1) := by decide +kernel
theorem zd_Mod_isLetter_10 : decode zb_Mod_isLetter 10 = .ok (.isub, 1) := by decide +kernel
theorem zd_Mod_isLetter_11 : decode zb_Mod_isLetter 11 = .ok (.i2l, 1) := by decide +kernel
theorem zd_Mod_isLetter_12 : decode zb_Mod_isLetter 12 = .ok (.invokestatic 53, 3) := by decide +kernel
theorem zd_Mod_isLetter_15 : decode zb_Mod_isLetter 15 = .ok (.ireturn, 1) := by decide +kernel
set_option maxHeartbeats 4000000 in
theorem zl_Mod_isLetter {p : Program} {l : Launch} {e : Env} {s : State} {m : MethodId} {args : Array Value} {below : List Frame} {meth : Method} {c : Code} {D : va_G} {cA : Nat → ClassId} {ad : Nat → Nat} {A : Nat → Prop} (B : zu_B p s m args c zb_Mod_isLetter 2 "StonePostModel" D cA ad A) (hret : meth.sig.returnType = (some .boolean)) (hlk : meth.locks = false) {X : IX} {Y : LX} {res : Int32} {a1 : Int32} (H : Heap) (locs : List Loc) (ls : Array Slot) (hP : va_P D zu_cl (zu_pic cA ad X Y) H) (hS : va_S A s.heap H locs) (hl : lv_has ls 2 [(0, .ref (ad 95)), (1, .int a1)]) (hf : fn_Mod_isLetter X a1 = some res) : W p l e zR_Mod_isLetter s m args below meth c H locs 0 0 (MQ below (zu_Qi D cA ad A res X Y) args s 0 0 A) (F0 m 0 ls []) := by
  obtain ⟨hx, hb, hml, hown, hts, hST⟩ := id B
  unfold fn_Mod_isLetter at hf
  refine lv_iload_n hx hb zd_Mod_isLetter_0 rfl (lv_at hl 1 rfl) ?_
  refine lv_i2l hx hb zd_Mod_isLetter_1 rfl ?_
  refine lv_lconst (v := 0) hx hb zd_Mod_isLetter_2 (by decide) ?_
  refine lv_aload_n hx hb zd_Mod_isLetter_3 rfl (lv_at hl 0 rfl) ?_
  refine zg_Mod_s B hP rfl zq_861 zd_Mod_isLetter_4 ?_
  refine lv_iconst (v := 2) hx hb zd_Mod_isLetter_7 (by decide) ?_
  refine zr_iald (j := 2) (by decide) B hP rfl (by decide) rfl (by decide) zd_Mod_isLetter_8 ?_
  refine lv_iconst (v := 1) hx hb zd_Mod_isLetter_9 (by decide) ?_
  refine lv_isub hx hb zd_Mod_isLetter_10 ?_
  refine lv_i2l hx hb zd_Mod_isLetter_11 rfl ?_
  obtain ⟨v1, hq2, hf⟩ := zu_b1_e hf
  refine zw_Mod_in (rest := []) B hP hS hq2 zq_939 (Nat.le_of_ble_eq_true rfl) (Nat.le_of_ble_eq_true rfl) hl.1 rfl (Nat.le_of_ble_eq_true rfl) zd_Mod_isLetter_12 (by decide) (fun H locs hP hS => ?_)
  clear hq2
  obtain ⟨hg3, hf⟩ := zu_gd_e hf
  obtain rfl := Option.some.inj hf
  exact zr_zret hx hb hret hlk hP hS hg3 zd_Mod_isLetter_15
theorem zC_Mod_isLetter (l : Launch) {D : va_G} {cA : Nat → ClassId} {ad : Nat → Nat} {A : Nat → Prop} {a1 : Int32} {X : IX} {Y : LX} {res : Int32} (hf : fn_Mod_isLetter X a1 = some res) : Met l zm_Mod_isLetter (zu_ws zm_Mod_isLetter zb_Mod_isLetter 2 (some .boolean)) zR_Mod_isLetter (va_Pc [.ref (ad 95), .int a1] (zu_Pre D cA ad A X Y)) (zu_Qi D cA ad A res X Y) 0 0 A := by
  refine Met.ofW (cc := zb_Mod_isLetter) (maxL := 2) (ret := (some .boolean)) (by decide +kernel) rfl ?_
  intro p e s m args below meth c s₁ B0 hml hv
  obtain ⟨rfl, hP, hST⟩ := hv
  have B : zu_B p s m _ c zb_Mod_isLetter 2 "StonePostModel" D cA ad A := ⟨B0.exec, B0.bytes, hml, findClass_of_methodNamed B0.named, (fun w hw => atoms_spec (ws := zu_ws zm_Mod_isLetter zb_Mod_isLetter 2 (some .boolean)) B0.pre w (List.mem_cons_of_mem _ hw)), hST⟩
  have hl := lv_entry ([.ref (ad 95), .int a1]) (n := 2) (Nat.le_of_ble_eq_true rfl)
  rw [lg_entry_eq]
  generalize (lg_sl ([.ref (ad 95), .int a1]) ++ List.replicate (2 - (lg_sl ([.ref (ad 95), .int a1])).length) Slot.unset).toArray = ls at hl ⊢
  exact zl_Mod_isLetter B B0.returns B0.notSynchronized s.heap [] ls hP va_S.rf hl  hf
theorem zw_Mod_isLetter {p : Program} {l : Launch} {e : Env} {R : Room} {s : State} {m : MethodId} {args : Array Value} {below : List Frame} {meth : Method} {c : Code} {H : Heap} {locs : List Loc} {cells slots : Nat} {Q : State → Prop} {cc : ByteArray} {pc nL : Nat} {ls : Array Slot} {rest st0 : List Value} {D : va_G} {cA : Nat → ClassId} {ad : Nat → Nat} {A : Nat → Prop} {X : IX} {Y : LX} {own : String} {index : Nat} {a1 : Int32} {v1 : Int32} (B : zu_B p s m args c cc nL own D cA ad A) (hP : va_P D zu_cl (zu_pic cA ad X Y) H) (hS : va_S A s.heap H locs) (hq : fn_Mod_isLetter X a1 = some v1) (m1 : Cond.methodLink own index zm_Mod_isLetter ∈ zu_TB) (hR1 : 1 + 1 ≤ R.frames) (hR2 : 8 + (2 + 11) + 25 ≤ R.locals) (hsz : ls.size = nL) (hst : st0 = .int a1 :: .ref (ad 95) :: rest) (hw : (rest.map fun v => v.category).sum ≤ 8) (hdg : decode cc pc = .ok (.invokevirtual index, 3)) (h00 : cells ≤ R.cells ∧ slots ≤ R.slots) (kk : ∀ (H1 : Heap) (locs1 : List Loc), va_P D zu_cl (zu_pic cA ad X Y) H1 → va_S A s.heap H1 locs1 → W p l e R s m args below meth c H1 locs1 cells slots Q (F0 m (pc + 3) ls (.int v1 :: rest))) : W p l e R s m args below meth c H locs cells slots Q (F0 m pc ls st0) := by
  subst hst
  exact zr_cVi (As := [.int a1]) (rest := rest) (n := 1) (C := "StonePostModel") (T := zt_Mod) (N := 23) B hP hS (zC_Mod_isLetter l  hq) (K := 7) rfl (by decide) (by decide) rfl rfl m1 zq_1052 zqP_31 zq_8 zq_1053 (by decide +kernel) ⟨hR1, hR2⟩ rfl rfl rfl hsz rfl hw hdg h00 kk
abbrev zR_Mod_has : Room := { frames := 0, cells := 0, slots := 0, locals := 0 }
theorem zd_Mod_has_0 : decode zb_Mod_has 0 = .ok (.iload_n 0, 1) := by decide +kernel
theorem zd_Mod_has_1 : decode zb_Mod_has 1 = .ok (.iload_n 1, 1) := by decide +kernel
theorem zd_Mod_has_2 : decode zb_Mod_has 2 = .ok (.ishr, 1) := by decide +kernel
theorem zd_Mod_has_3 : decode zb_Mod_has 3 = .ok (.iconst 1, 1) := by decide +kernel
theorem zd_Mod_has_4 : decode zb_Mod_has 4 = .ok (.iand, 1) := by decide +kernel
theorem zd_Mod_has_5 : decode zb_Mod_has 5 = .ok (.iconst 1, 1) := by decide +kernel
theorem zd_Mod_has_6 : decode zb_Mod_has 6 = .ok (.if_icmp .ne 7, 3) := by decide +kernel
theorem zd_Mod_has_9 : decode zb_Mod_has 9 = .ok (.iconst 1, 1) := by decide +kernel
theorem zd_Mod_has_10 : decode zb_Mod_has 10 = .ok (.goto 4, 3) := by decide +kernel
theorem zd_Mod_has_13 : decode zb_Mod_has 13 = .ok (.iconst 0, 1) := by decide +kernel
theorem zd_Mod_has_14 : decode zb_Mod_has 14 = .ok (.ireturn, 1) := by decide +kernel
set_option maxHeartbeats 4000000 in
theorem zl_Mod_has_L14 {p : Program} {l : Launch} {e : Env} {s : State} {m : MethodId} {args : Array Value} {below : List Frame} {meth : Method} {c : Code} {D : va_G} {cA : Nat → ClassId} {ad : Nat → Nat} {A : Nat → Prop} (B : zu_B p s m args c zb_Mod_has 2 "StonePostModel" D cA ad A) (hret : meth.sig.returnType = (some .boolean)) (hlk : meth.locks = false) {X : IX} {Y : LX} {res : Int32} (y0 : Int32) (H : Heap) (locs : List Loc) (ls : Array Slot) (hP : va_P D zu_cl (zu_pic cA ad X Y) H) (hS : va_S A s.heap H locs) (hl : lv_has ls 2 []) (hf : fn_Mod_has_L14 y0 = some res) : W p l e zR_Mod_has s m args below meth c H locs 0 0 (MQ below (zu_Qi D cA ad A res X Y) args s 0 0 A) (F0 m 14 ls [.int y0]) := by
  obtain ⟨hx, hb, hml, hown, hts, hST⟩ := id B
  unfold fn_Mod_has_L14 at hf
  obtain ⟨hg2, hf⟩ := zu_gd_e hf
  obtain rfl := Option.some.inj hf
  exact zr_zret hx hb hret hlk hP hS hg2 zd_Mod_has_14
set_option maxHeartbeats 4000000 in
theorem zl_Mod_has {p : Program} {l : Launch} {e : Env} {s : State} {m : MethodId} {args : Array Value} {below : List Frame} {meth : Method} {c : Code} {D : va_G} {cA : Nat → ClassId} {ad : Nat → Nat} {A : Nat → Prop} (B : zu_B p s m args c zb_Mod_has 2 "StonePostModel" D cA ad A) (hret : meth.sig.returnType = (some .boolean)) (hlk : meth.locks = false) {X : IX} {Y : LX} {res : Int32} {a0 : Int32} {a1 : Int32} (H : Heap) (locs : List Loc) (ls : Array Slot) (hP : va_P D zu_cl (zu_pic cA ad X Y) H) (hS : va_S A s.heap H locs) (hl : lv_has ls 2 [(0, .int a0), (1, .int a1)]) (hf : fn_Mod_has a0 a1 = some res) : W p l e zR_Mod_has s m args below meth c H locs 0 0 (MQ below (zu_Qi D cA ad A res X Y) args s 0 0 A) (F0 m 0 ls []) := by
  obtain ⟨hx, hb, hml, hown, hts, hST⟩ := id B
  unfold fn_Mod_has at hf
  refine lv_iload_n hx hb zd_Mod_has_0 rfl (lv_at hl 0 rfl) ?_
  refine lv_iload_n hx hb zd_Mod_has_1 rfl (lv_at hl 1 rfl) ?_
  refine lv_ishr hx hb zd_Mod_has_2 ?_
  refine lv_iconst (v := 1) hx hb zd_Mod_has_3 (by decide) ?_
  refine lv_iand hx hb zd_Mod_has_4 ?_
  refine lv_iconst (v := 1) hx hb zd_Mod_has_5 (by decide) ?_
  refine lv_icmp_ne (tgt := 13) hx hb zd_Mod_has_6 (by decide) (fun c1 => ?_) (fun c1 => ?_)
  · have hf := zu_f c1 hf
    refine lv_iconst (v := 0) hx hb zd_Mod_has_13 (by decide) ?_
    exact zl_Mod_has_L14 B hret hlk (0 : Int32) _ _ _ hP hS (lv_sub hl [] rfl) hf
  · have hf := zu_t c1 hf
    refine lv_iconst (v := 1) hx hb zd_Mod_has_9 (by decide) ?_
    refine lv_goto (tgt := 14) hx hb zd_Mod_has_10 (by decide) ?_
    exact zl_Mod_has_L14 B hret hlk (1 : Int32) _ _ _ hP hS (lv_sub hl [] rfl) hf
theorem zC_Mod_has (l : Launch) {D : va_G} {cA : Nat → ClassId} {ad : Nat → Nat} {A : Nat → Prop} {a0 : Int32} {a1 : Int32} {X : IX} {Y : LX} {res : Int32} (hf : fn_Mod_has a0 a1 = some res) : Met l zm_Mod_has (zu_ws zm_Mod_has zb_Mod_has 2 (some .boolean)) zR_Mod_has (va_Pc [.int a0, .int a1] (zu_Pre D cA ad A X Y)) (zu_Qi D cA ad A res X Y) 0 0 A := by
  refine Met.ofW (cc := zb_Mod_has) (maxL := 2) (ret := (some .boolean)) (by decide +kernel) rfl ?_
  intro p e s m args below meth c s₁ B0 hml hv
  obtain ⟨rfl, hP, hST⟩ := hv
  have B : zu_B p s m _ c zb_Mod_has 2 "StonePostModel" D cA ad A := ⟨B0.exec, B0.bytes, hml, findClass_of_methodNamed B0.named, (fun w hw => atoms_spec (ws := zu_ws zm_Mod_has zb_Mod_has 2 (some .boolean)) B0.pre w (List.mem_cons_of_mem _ hw)), hST⟩
  have hl := lv_entry ([.int a0, .int a1]) (n := 2) (Nat.le_of_ble_eq_true rfl)
  rw [lg_entry_eq]
  generalize (lg_sl ([.int a0, .int a1]) ++ List.replicate (2 - (lg_sl ([.int a0, .int a1])).length) Slot.unset).toArray = ls at hl ⊢
  exact zl_Mod_has B B0.returns B0.notSynchronized s.heap [] ls hP va_S.rf hl  hf
theorem zw_Mod_has {p : Program} {l : Launch} {e : Env} {R : Room} {s : State} {m : MethodId} {args : Array Value} {below : List Frame} {meth : Method} {c : Code} {H : Heap} {locs : List Loc} {cells slots : Nat} {Q : State → Prop} {cc : ByteArray} {pc nL : Nat} {ls : Array Slot} {rest st0 : List Value} {D : va_G} {cA : Nat → ClassId} {ad : Nat → Nat} {A : Nat → Prop} {X : IX} {Y : LX} {own : String} {index : Nat} {a0 : Int32} {a1 : Int32} {v1 : Int32} (B : zu_B p s m args c cc nL own D cA ad A) (hP : va_P D zu_cl (zu_pic cA ad X Y) H) (hS : va_S A s.heap H locs) (hq : fn_Mod_has a0 a1 = some v1) (m1 : Cond.methodLink own index zm_Mod_has ∈ zu_TB) (hR1 : 0 + 1 ≤ R.frames) (hR2 : 8 + (2 + 11) + 0 ≤ R.locals) (hsz : ls.size = nL) (hst : st0 = .int a1 :: .int a0 ::  rest) (hw : (rest.map fun v => v.category).sum ≤ 8) (hdg : decode cc pc = .ok (.invokestatic index, 3)) (h00 : cells ≤ R.cells ∧ slots ≤ R.slots) (kk : ∀ (H1 : Heap) (locs1 : List Loc), va_P D zu_cl (zu_pic cA ad X Y) H1 → va_S A s.heap H1 locs1 → W p l e R s m args below meth c H1 locs1 cells slots Q (F0 m (pc + 3) ls (.int v1 :: rest))) : W p l e R s m args below meth c H locs cells slots Q (F0 m pc ls st0) := by
  subst hst
  exact zr_cSi (As := [.int a0, .int a1]) (rest := rest) (n := 2) B hP hS (zC_Mod_has l  hq) m1 zq_1118 zq_8 zq_1119 (by decide +kernel) ⟨hR1, hR2⟩ rfl rfl rfl hsz rfl hw hdg h00 kk
abbrev zR_Mod_size : Room := { frames := 0, cells := 0, slots := 0, locals := 0 }
theorem zd_Mod_size_0 : decode zb_Mod_size 0 = .ok (.iload_n 0, 1) := by decide +kernel
theorem zd_Mod_size_1 : decode zb_Mod_size 1 = .ok (.ifCond .ge 9, 3) := by decide +kernel
theorem zd_Mod_size_4 : decode zb_Mod_size 4 = .ok (.iconst 0, 1) := by decide +kernel
theorem zd_Mod_size_5 : decode zb_Mod_size 5 = .ok (.iload_n 0, 1) := by decide +kernel
theorem zd_Mod_size_6 : decode zb_Mod_size 6 = .ok (.isub, 1) := by decide +kernel
theorem zd_Mod_size_7 : decode zb_Mod_size 7 = .ok (.goto 4, 3) := by decide +kernel
theorem zd_Mod_size_10 : decode zb_Mod_size 10 = .ok (.iload_n 0, 1) := by decide +kernel
theorem zd_Mod_size_11 : decode zb_Mod_size 11 = .ok (.ireturn, 1) := by decide +kernel
set_option maxHeartbeats 4000000 in
theorem zl_Mod_size_L11 {p : Program} {l : Launch} {e : Env} {s : State} {m : MethodId} {args : Array Value} {below : List Frame} {meth : Method} {c : Code} {D : va_G} {cA : Nat → ClassId} {ad : Nat → Nat} {A : Nat → Prop} (B : zu_B p s m args c zb_Mod_size 1 "StonePostModel" D cA ad A) (hret : meth.sig.returnType = (some .int)) (hlk : meth.locks = false) {X : IX} {Y : LX} {res : Int32} (y0 : Int32) (H : Heap) (locs : List Loc) (ls : Array Slot) (hP : va_P D zu_cl (zu_pic cA ad X Y) H) (hS : va_S A s.heap H locs) (hl : lv_has ls 1 []) (hf : fn_Mod_size_L11 y0 = res) : W p l e zR_Mod_size s m args below meth c H locs 0 0 (MQ below (zu_Qi D cA ad A res X Y) args s 0 0 A) (F0 m 11 ls [.int y0]) := by
  obtain ⟨hx, hb, hml, hown, hts, hST⟩ := id B
  unfold fn_Mod_size_L11 at hf
  obtain rfl := hf
  exact zr_iret hx hb hret hlk hP hS zd_Mod_size_11
set_option maxHeartbeats 4000000 in
theorem zl_Mod_size {p : Program} {l : Launch} {e : Env} {s : State} {m : MethodId} {args : Array Value} {below : List Frame} {meth : Method} {c : Code} {D : va_G} {cA : Nat → ClassId} {ad : Nat → Nat} {A : Nat → Prop} (B : zu_B p s m args c zb_Mod_size 1 "StonePostModel" D cA ad A) (hret : meth.sig.returnType = (some .int)) (hlk : meth.locks = false) {X : IX} {Y : LX} {res : Int32} {a0 : Int32} (H : Heap) (locs : List Loc) (ls : Array Slot) (hP : va_P D zu_cl (zu_pic cA ad X Y) H) (hS : va_S A s.heap H locs) (hl : lv_has ls 1 [(0, .int a0)]) (hf : fn_Mod_size a0 = res) : W p l e zR_Mod_size s m args below meth c H locs 0 0 (MQ below (zu_Qi D cA ad A res X Y) args s 0 0 A) (F0 m 0 ls []) := by
  obtain ⟨hx, hb, hml, hown, hts, hST⟩ := id B
  unfold fn_Mod_size at hf
  refine lv_iload_n hx hb zd_Mod_size_0 rfl (lv_at hl 0 rfl) ?_
  refine lv_if_ge (tgt := 10) hx hb zd_Mod_size_1 (by decide) (fun c1 => ?_) (fun c1 => ?_)
  · have hf := zu_t c1 hf
    refine lv_iload_n hx hb zd_Mod_size_10 rfl (lv_at hl 0 rfl) ?_
    exact zl_Mod_size_L11 B hret hlk a0 _ _ _ hP hS (lv_sub hl [] rfl) hf
  · have hf := zu_f c1 hf
    refine lv_iconst (v := 0) hx hb zd_Mod_size_4 (by decide) ?_
    refine lv_iload_n hx hb zd_Mod_size_5 rfl (lv_at hl 0 rfl) ?_
    refine lv_isub hx hb zd_Mod_size_6 ?_
    refine lv_goto (tgt := 11) hx hb zd_Mod_size_7 (by decide) ?_
    exact zl_Mod_size_L11 B hret hlk ((0 : Int32) - a0) _ _ _ hP hS (lv_sub hl [] rfl) hf
theorem zC_Mod_size (l : Launch) {D : va_G} {cA : Nat → ClassId} {ad : Nat → Nat} {A : Nat → Prop} {a0 : Int32} {X : IX} {Y : LX} {res : Int32} (hf : fn_Mod_size a0 = res) : Met l zm_Mod_size (zu_ws zm_Mod_size zb_Mod_size 1 (some .int)) zR_Mod_size (va_Pc [.int a0] (zu_Pre D cA ad A X Y)) (zu_Qi D cA ad A res X Y) 0 0 A := by
  refine Met.ofW (cc := zb_Mod_size) (maxL := 1) (ret := (some .int)) (by decide +kernel) rfl ?_
  intro p e s m args below meth c s₁ B0 hml hv
  obtain ⟨rfl, hP, hST⟩ := hv
  have B : zu_B p s m _ c zb_Mod_size 1 "StonePostModel" D cA ad A := ⟨B0.exec, B0.bytes, hml, findClass_of_methodNamed B0.named, (fun w hw => atoms_spec (ws := zu_ws zm_Mod_size zb_Mod_size 1 (some .int)) B0.pre w (List.mem_cons_of_mem _ hw)), hST⟩
  have hl := lv_entry ([.int a0]) (n := 1) (Nat.le_of_ble_eq_true rfl)
  rw [lg_entry_eq]
  generalize (lg_sl ([.int a0]) ++ List.replicate (1 - (lg_sl ([.int a0])).length) Slot.unset).toArray = ls at hl ⊢
  exact zl_Mod_size B B0.returns B0.notSynchronized s.heap [] ls hP va_S.rf hl  hf
theorem zw_Mod_size {p : Program} {l : Launch} {e : Env} {R : Room} {s : State} {m : MethodId} {args : Array Value} {below : List Frame} {meth : Method} {c : Code} {H : Heap} {locs : List Loc} {cells slots : Nat} {Q : State → Prop} {cc : ByteArray} {pc nL : Nat} {ls : Array Slot} {rest st0 : List Value} {D : va_G} {cA : Nat → ClassId} {ad : Nat → Nat} {A : Nat → Prop} {X : IX} {Y : LX} {own : String} {index : Nat} {a0 : Int32} {v1 : Int32} (B : zu_B p s m args c cc nL own D cA ad A) (hP : va_P D zu_cl (zu_pic cA ad X Y) H) (hS : va_S A s.heap H locs) (hq : fn_Mod_size a0 = v1) (m1 : Cond.methodLink own index zm_Mod_size ∈ zu_TB) (hR1 : 0 + 1 ≤ R.frames) (hR2 : 8 + (1 + 11) + 0 ≤ R.locals) (hsz : ls.size = nL) (hst : st0 = .int a0 ::  rest) (hw : (rest.map fun v => v.category).sum ≤ 8) (hdg : decode cc pc = .ok (.invokestatic index, 3)) (h00 : cells ≤ R.cells ∧ slots ≤ R.slots) (kk : ∀ (H1 : Heap) (locs1 : List Loc), va_P D zu_cl (zu_pic cA ad X Y) H1 → va_S A s.heap H1 locs1 → W p l e R s m args below meth c H1 locs1 cells slots Q (F0 m (pc + 3) ls (.int v1 :: rest))) : W p l e R s m args below meth c H locs cells slots Q (F0 m pc ls st0) := by
  subst hst
  exact zr_cSi (As := [.int a0]) (rest := rest) (n := 1) B hP hS (zC_Mod_size l  hq) m1 zq_1039 zq_8 zq_1040 (by decide +kernel) ⟨hR1, hR2⟩ rfl rfl rfl hsz rfl hw hdg h00 kk
abbrev zR_Mod_draw : Room := { frames := 0, cells := 0, slots := 0, locals := 0 }
theorem zd_Mod_draw_0 : decode zb_Mod_draw 0 = .ok (.aload_n 0, 1) := by decide +kernel
theorem zd_Mod_draw_1 : decode zb_Mod_draw 1 = .ok (.getfield 7, 3) := by decide +kernel
theorem zd_Mod_draw_4 : decode zb_Mod_draw 4 = .ok (.iconst 5, 1) := by decide +kernel
theorem zd_Mod_draw_5 : decode zb_Mod_draw 5 = .ok (.aload_n 0, 1) := by decide +kernel
theorem zd_Mod_draw_6 : decode zb_Mod_draw 6 = .ok (.getfield 7, 3) := by decide +kernel
theorem zd_Mod_draw_9 : decode zb_Mod_draw 9 = .ok (.iconst 5, 1) := by decide +kernel
theorem zd_Mod_draw_10 : decode zb_Mod_draw 10 = .ok (.iaload, 1) := by decide +kernel
theorem zd_Mod_draw_11 : decode zb_Mod_draw 11 = .ok (.ldc 57, 2) := by decide +kernel
theorem zd_Mod_draw_13 : decode zb_Mod_draw 13 = .ok (.imul, 1) := by decide +kernel
theorem zd_Mod_draw_14 : decode zb_Mod_draw 14 = .ok (.sipush 12345, 3) := by decide +kernel
theorem zd_Mod_draw_17 : decode zb_Mod_draw 17 = .ok (.iadd, 1) := by decide +kernel
theorem zd_Mod_draw_18 : decode zb_Mod_draw 18 = .ok (.iastore, 1) := by decide +kernel
theorem zd_Mod_draw_19 : decode zb_Mod_draw 19 = .ok (.aload_n 0, 1) := by decide +kernel
theorem zd_Mod_draw_20 : decode zb_Mod_draw 20 = .ok (.getfield 7, 3) := by decide +kernel
theorem zd_Mod_draw_23 : decode zb_Mod_draw 23 = .ok (.iconst 5, 1) := by decide +kernel
theorem zd_Mod_draw_24 : decode zb_Mod_draw 24 = .ok (.iaload, 1) := by decide +kernel
theorem zd_Mod_draw_25 : decode zb_Mod_draw 25 = .ok (.bipush 8, 2) := by decide +kernel
theorem zd_Mod_draw_27 : decode zb_Mod_draw 27 = .ok (.iushr, 1) := by decide +kernel
theorem zd_Mod_draw_28 : decode zb_Mod_draw 28 = .ok (.ireturn, 1) := by decide +kernel
set_option maxHeartbeats 4000000 in
theorem zl_Mod_draw {p : Program} {l : Launch} {e : Env} {s : State} {m : MethodId} {args : Array Value} {below : List Frame} {meth : Method} {c : Code} {D : va_G} {cA : Nat → ClassId} {ad : Nat → Nat} {A : Nat → Prop} (B : zu_B p s m args c zb_Mod_draw 1 "StonePostModel" D cA ad A) (hret : meth.sig.returnType = (some .int)) (hlk : meth.locks = false) {Y : LX} {res : Int32 × IX} {X : IX} (H : Heap) (locs : List Loc) (ls : Array Slot) (hP : va_P D zu_cl (zu_pic cA ad X Y) H) (hS : va_S A s.heap H locs) (hl : lv_has ls 1 [(0, .ref (ad 95))]) (hf : fn_Mod_draw X = some res) : W p l e zR_Mod_draw s m args below meth c H locs 0 0 (MQ below (zu_Qi D cA ad A res.1 res.2 Y) args s 0 0 A) (F0 m 0 ls []) := by
  obtain ⟨hx, hb, hml, hown, hts, hST⟩ := id B
  unfold fn_Mod_draw at hf
  refine lv_aload_n hx hb zd_Mod_draw_0 rfl (lv_at hl 0 rfl) ?_
  refine zg_Mod_s B hP rfl zq_861 zd_Mod_draw_1 ?_
  refine lv_iconst (v := 5) hx hb zd_Mod_draw_4 (by decide) ?_
  refine lv_aload_n hx hb zd_Mod_draw_5 rfl (lv_at hl 0 rfl) ?_
  refine zg_Mod_s B hP rfl zq_861 zd_Mod_draw_6 ?_
  refine lv_iconst (v := 5) hx hb zd_Mod_draw_9 (by decide) ?_
  refine zr_iald (j := 5) (by decide) B hP rfl (by decide) rfl (by decide) zd_Mod_draw_10 ?_
  refine lv_ldc (v := 1103515245) hx hb hown (hts _ zq_1084) zd_Mod_draw_11 ?_
  refine lv_imul hx hb zd_Mod_draw_13 ?_
  refine lv_sipush (v := 12345) hx hb zd_Mod_draw_14 (by decide) ?_
  refine lv_iadd hx hb zd_Mod_draw_17 ?_
  refine zr_iast (j := 5) (by decide) B hP hS hf rfl (by decide) rfl (by decide) zd_Mod_draw_18 (fun X1 H locs hf hP hS => ?_)
  refine lv_aload_n hx hb zd_Mod_draw_19 rfl (lv_at hl 0 rfl) ?_
  refine zg_Mod_s B hP rfl zq_861 zd_Mod_draw_20 ?_
  refine lv_iconst (v := 5) hx hb zd_Mod_draw_23 (by decide) ?_
  refine zr_iald (j := 5) (by decide) B hP rfl (by decide) rfl (by decide) zd_Mod_draw_24 ?_
  refine lv_bipush (v := 8) hx hb zd_Mod_draw_25 (by decide) ?_
  refine lv_iushr hx hb zd_Mod_draw_27 rfl ?_
  obtain rfl := Option.some.inj hf
  exact zr_iret hx hb hret hlk hP hS zd_Mod_draw_28
theorem zC_Mod_draw (l : Launch) {D : va_G} {cA : Nat → ClassId} {ad : Nat → Nat} {A : Nat → Prop} {X : IX} {Y : LX} {res : Int32 × IX} (hf : fn_Mod_draw X = some res) : Met l zm_Mod_draw (zu_ws zm_Mod_draw zb_Mod_draw 1 (some .int)) zR_Mod_draw (va_Pc [.ref (ad 95)] (zu_Pre D cA ad A X Y)) (zu_Qi D cA ad A res.1 res.2 Y) 0 0 A := by
  refine Met.ofW (cc := zb_Mod_draw) (maxL := 1) (ret := (some .int)) (by decide +kernel) rfl ?_
  intro p e s m args below meth c s₁ B0 hml hv
  obtain ⟨rfl, hP, hST⟩ := hv
  have B : zu_B p s m _ c zb_Mod_draw 1 "StonePostModel" D cA ad A := ⟨B0.exec, B0.bytes, hml, findClass_of_methodNamed B0.named, (fun w hw => atoms_spec (ws := zu_ws zm_Mod_draw zb_Mod_draw 1 (some .int)) B0.pre w (List.mem_cons_of_mem _ hw)), hST⟩
  have hl := lv_entry ([.ref (ad 95)]) (n := 1) (Nat.le_of_ble_eq_true rfl)
  rw [lg_entry_eq]
  generalize (lg_sl ([.ref (ad 95)]) ++ List.replicate (1 - (lg_sl ([.ref (ad 95)])).length) Slot.unset).toArray = ls at hl ⊢
  exact zl_Mod_draw B B0.returns B0.notSynchronized s.heap [] ls hP va_S.rf hl  hf
theorem zw_Mod_draw {p : Program} {l : Launch} {e : Env} {R : Room} {s : State} {m : MethodId} {args : Array Value} {below : List Frame} {meth : Method} {c : Code} {H : Heap} {locs : List Loc} {cells slots : Nat} {Q : State → Prop} {cc : ByteArray} {pc nL : Nat} {ls : Array Slot} {rest st0 : List Value} {D : va_G} {cA : Nat → ClassId} {ad : Nat → Nat} {A : Nat → Prop} {X : IX} {Y : LX} {own : String} {index : Nat} {v1 : Int32} {X1 : IX} (B : zu_B p s m args c cc nL own D cA ad A) (hP : va_P D zu_cl (zu_pic cA ad X Y) H) (hS : va_S A s.heap H locs) (hq : fn_Mod_draw X = some (v1, X1)) (m1 : Cond.methodLink own index zm_Mod_draw ∈ zu_TB) (hR1 : 0 + 1 ≤ R.frames) (hR2 : 8 + (1 + 11) + 0 ≤ R.locals) (hsz : ls.size = nL) (hst : st0 = .ref (ad 95) :: rest) (hw : (rest.map fun v => v.category).sum ≤ 8) (hdg : decode cc pc = .ok (.invokevirtual index, 3)) (h00 : cells ≤ R.cells ∧ slots ≤ R.slots) (kk : ∀ (H1 : Heap) (locs1 : List Loc), va_P D zu_cl (zu_pic cA ad X1 Y) H1 → va_S A s.heap H1 locs1 → W p l e R s m args below meth c H1 locs1 cells slots Q (F0 m (pc + 3) ls (.int v1 :: rest))) : W p l e R s m args below meth c H locs cells slots Q (F0 m pc ls st0) := by
  subst hst
  exact zr_cVi (As := []) (rest := rest) (n := 0) (C := "StonePostModel") (T := zt_Mod) (N := 23) B hP hS (zC_Mod_draw l  hq) (K := 7) rfl (by decide) (by decide) rfl rfl m1 zq_1082 zqP_36 zq_8 zq_1083 (by decide +kernel) ⟨hR1, hR2⟩ rfl rfl rfl hsz rfl hw hdg h00 kk
abbrev zR_Mod_puts : Room := { frames := 0, cells := 0, slots := 0, locals := 0 }
theorem zd_Mod_puts_0 : decode zb_Mod_puts 0 = .ok (.iconst 0, 1) := by decide +kernel
theorem zd_Mod_puts_1 : decode zb_Mod_puts 1 = .ok (.istore_n 1, 1) := by decide +kernel
theorem zd_Mod_puts_2 : decode zb_Mod_puts 2 = .ok (.iload_n 1, 1) := by decide +kernel
theorem zd_Mod_puts_3 : decode zb_Mod_puts 3 = .ok (.sipush 142, 3) := by decide +kernel
theorem zd_Mod_puts_6 : decode zb_Mod_puts 6 = .ok (.if_icmp .ge 21, 3) := by decide +kernel
theorem zd_Mod_puts_9 : decode zb_Mod_puts 9 = .ok (.aload_n 0, 1) := by decide +kernel
theorem zd_Mod_puts_10 : decode zb_Mod_puts 10 = .ok (.getfield 16, 3) := by decide +kernel
theorem zd_Mod_puts_13 : decode zb_Mod_puts 13 = .ok (.iload_n 1, 1) := by decide +kernel
theorem zd_Mod_puts_14 : decode zb_Mod_puts 14 = .ok (.aload_n 0, 1) := by decide +kernel
theorem zd_Mod_puts_15 : decode zb_Mod_puts 15 = .ok (.getfield 7, 3) := by decide +kernel
theorem zd_Mod_puts_18 : decode zb_Mod_puts 18 = .ok (.iload_n 1, 1) := by decide +kernel
theorem zd_Mod_puts_19 : decode zb_Mod_puts 19 = .ok (.iaload, 1) := by decide +kernel
theorem zd_Mod_puts_20 : decode zb_Mod_puts 20 = .ok (.iastore, 1) := by decide +kernel
theorem zd_Mod_puts_21 : decode zb_Mod_puts 21 = .ok (.iinc 1 1, 3) := by decide +kernel
theorem zd_Mod_puts_24 : decode zb_Mod_puts 24 = .ok (.goto (-22), 3) := by decide +kernel
theorem zd_Mod_puts_27 : decode zb_Mod_puts 27 = .ok (.return_, 1) := by decide +kernel
set_option maxHeartbeats 4000000 in
theorem zl_Mod_puts_B2 {p : Program} {l : Launch} {e : Env} {s : State} {m : MethodId} {args : Array Value} {below : List Frame} {meth : Method} {c : Code} {D : va_G} {cA : Nat → ClassId} {ad : Nat → Nat} {A : Nat → Prop} (B : zu_B p s m args c zb_Mod_puts 2 "StonePostModel" D cA ad A) (hret : meth.sig.returnType = none) (hlk : meth.locks = false) {Y : LX} {res : IX} {k2 : Int32 → IX → Option IX} (hk2 : ∀ (x1 : Int32) (X : IX) (H : Heap) (locs : List Loc) (ls : Array Slot), va_P D zu_cl (zu_pic cA ad X Y) H → va_S A s.heap H locs → lv_has ls 2 [(0, .ref (ad 95)), (1, .int x1)] → k2 x1 X = some res → W p l e zR_Mod_puts s m args below meth c H locs 0 0 (MQ below (zu_Qv D cA ad A res Y) args s 0 0 A) (F0 m 2 ls [])) (x1 : Int32) (X : IX) (H : Heap) (locs : List Loc) (ls : Array Slot) (hP : va_P D zu_cl (zu_pic cA ad X Y) H) (hS : va_S A s.heap H locs) (hl : lv_has ls 2 [(0, .ref (ad 95)), (1, .int x1)]) (hf : fn_Mod_puts_B2 k2 x1 X = some res) : W p l e zR_Mod_puts s m args below meth c H locs 0 0 (MQ below (zu_Qv D cA ad A res Y) args s 0 0 A) (F0 m 2 ls []) := by
  obtain ⟨hx, hb, hml, hown, hts, hST⟩ := id B
  unfold fn_Mod_puts_B2 at hf
  refine lv_iload_n hx hb zd_Mod_puts_2 rfl (lv_at hl 1 rfl) ?_
  refine lv_sipush (v := 142) hx hb zd_Mod_puts_3 (by decide) ?_
  refine lv_icmp_ge (tgt := 27) hx hb zd_Mod_puts_6 (by decide) (fun c1 => ?_) (fun c1 => ?_)
  · have hf := zu_t c1 hf
    obtain rfl := Option.some.inj hf
    exact zr_vret hx hb hret hlk hP hS zd_Mod_puts_27
  · have hf := zu_f c1 hf
    refine lv_aload_n hx hb zd_Mod_puts_9 rfl (lv_at hl 0 rfl) ?_
    refine zg_Mod_other B hP rfl zq_863 zd_Mod_puts_10 ?_
    refine lv_iload_n hx hb zd_Mod_puts_13 rfl (lv_at hl 1 rfl) ?_
    refine lv_aload_n hx hb zd_Mod_puts_14 rfl (lv_at hl 0 rfl) ?_
    refine zg_Mod_s B hP rfl zq_861 zd_Mod_puts_15 ?_
    refine lv_iload_n hx hb zd_Mod_puts_18 rfl (lv_at hl 1 rfl) ?_
    obtain ⟨hg2, hf⟩ := zu_gd_e hf
    refine zr_iald rfl B hP rfl (by decide) rfl hg2 zd_Mod_puts_19 ?_
    obtain ⟨hg3, hf⟩ := zu_gd_e hf
    refine zr_iast rfl B hP hS hf rfl (by decide) rfl hg3 zd_Mod_puts_20 (fun X4 H locs hf hP hS => ?_)
    obtain ⟨v5, ev5, hf⟩ := zu_nx_e hf
    refine lv_iinc (v := v5) (lv' := [(1, .int v5), (0, .ref (ad 95))]) hx hb zd_Mod_puts_21 hl (k := 1) rfl (by rw [ev5]; rfl) (by decide) rfl (fun ls hl => ?_)
    clear ev5
    refine lv_goto (tgt := 2) hx hb zd_Mod_puts_24 (by decide) ?_
    exact hk2 v5 X4 _ _ _ hP hS (lv_sub hl [1, 0] rfl) hf
theorem zl_Mod_puts_L2 {p : Program} {l : Launch} {e : Env} {s : State} {m : MethodId} {args : Array Value} {below : List Frame} {meth : Method} {c : Code} {D : va_G} {cA : Nat → ClassId} {ad : Nat → Nat} {A : Nat → Prop} (B : zu_B p s m args c zb_Mod_puts 2 "StonePostModel" D cA ad A) (hret : meth.sig.returnType = none) (hlk : meth.locks = false) {Y : LX} {res : IX} : ∀ (n : Nat) (x1 : Int32) (X : IX) (H : Heap) (locs : List Loc) (ls : Array Slot), va_P D zu_cl (zu_pic cA ad X Y) H → va_S A s.heap H locs → lv_has ls 2 [(0, .ref (ad 95)), (1, .int x1)] → fn_Mod_puts_L2 n x1 X = some res → W p l e zR_Mod_puts s m args below meth c H locs 0 0 (MQ below (zu_Qv D cA ad A res Y) args s 0 0 A) (F0 m 2 ls []) := by
  intro n
  induction n with
  | zero =>
    intro x1 X H locs ls hP hS hl hf
    exact (Option.some_ne_none _ hf.symm).elim
  | succ n ih =>
    intro x1 X H locs ls hP hS hl hf
    exact zl_Mod_puts_B2 B hret hlk ih x1 X H locs ls hP hS hl  hf
set_option maxHeartbeats 4000000 in
theorem zl_Mod_puts {p : Program} {l : Launch} {e : Env} {s : State} {m : MethodId} {args : Array Value} {below : List Frame} {meth : Method} {c : Code} {D : va_G} {cA : Nat → ClassId} {ad : Nat → Nat} {A : Nat → Prop} (B : zu_B p s m args c zb_Mod_puts 2 "StonePostModel" D cA ad A) (hret : meth.sig.returnType = none) (hlk : meth.locks = false) {Y : LX} {res : IX} {X : IX} (H : Heap) (locs : List Loc) (ls : Array Slot) (hP : va_P D zu_cl (zu_pic cA ad X Y) H) (hS : va_S A s.heap H locs) (hl : lv_has ls 2 [(0, .ref (ad 95))]) (hf : fn_Mod_puts X = some res) : W p l e zR_Mod_puts s m args below meth c H locs 0 0 (MQ below (zu_Qv D cA ad A res Y) args s 0 0 A) (F0 m 0 ls []) := by
  obtain ⟨hx, hb, hml, hown, hts, hST⟩ := id B
  unfold fn_Mod_puts at hf
  refine lv_iconst (v := 0) hx hb zd_Mod_puts_0 (by decide) ?_
  refine lv_istore_n (lv' := [(1, .int (0 : Int32)), (0, .ref (ad 95))]) hx hb zd_Mod_puts_1 rfl hl (by decide) rfl (fun ls hl => ?_)
  exact zl_Mod_puts_L2 B hret hlk 400 (0 : Int32) X _ _ _ hP hS (lv_sub hl [1, 0] rfl) hf
theorem zC_Mod_puts (l : Launch) {D : va_G} {cA : Nat → ClassId} {ad : Nat → Nat} {A : Nat → Prop} {X : IX} {Y : LX} {res : IX} (hf : fn_Mod_puts X = some res) : Met l zm_Mod_puts (zu_ws zm_Mod_puts zb_Mod_puts 2 none) zR_Mod_puts (va_Pc [.ref (ad 95)] (zu_Pre D cA ad A X Y)) (zu_Qv D cA ad A res Y) 0 0 A := by
  refine Met.ofW (cc := zb_Mod_puts) (maxL := 2) (ret := none) (by decide +kernel) rfl ?_
  intro p e s m args below meth c s₁ B0 hml hv
  obtain ⟨rfl, hP, hST⟩ := hv
  have B : zu_B p s m _ c zb_Mod_puts 2 "StonePostModel" D cA ad A := ⟨B0.exec, B0.bytes, hml, findClass_of_methodNamed B0.named, (fun w hw => atoms_spec (ws := zu_ws zm_Mod_puts zb_Mod_puts 2 none) B0.pre w (List.mem_cons_of_mem _ hw)), hST⟩
  have hl := lv_entry ([.ref (ad 95)]) (n := 2) (Nat.le_of_ble_eq_true rfl)
  rw [lg_entry_eq]
  generalize (lg_sl ([.ref (ad 95)]) ++ List.replicate (2 - (lg_sl ([.ref (ad 95)])).length) Slot.unset).toArray = ls at hl ⊢
  exact zl_Mod_puts B B0.returns B0.notSynchronized s.heap [] ls hP va_S.rf hl  hf
theorem zw_Mod_puts {p : Program} {l : Launch} {e : Env} {R : Room} {s : State} {m : MethodId} {args : Array Value} {below : List Frame} {meth : Method} {c : Code} {H : Heap} {locs : List Loc} {cells slots : Nat} {Q : State → Prop} {cc : ByteArray} {pc nL : Nat} {ls : Array Slot} {rest st0 : List Value} {D : va_G} {cA : Nat → ClassId} {ad : Nat → Nat} {A : Nat → Prop} {X : IX} {Y : LX} {own : String} {index : Nat} {X1 : IX} (B : zu_B p s m args c cc nL own D cA ad A) (hP : va_P D zu_cl (zu_pic cA ad X Y) H) (hS : va_S A s.heap H locs) (hq : fn_Mod_puts X = some X1) (m1 : Cond.methodLink own index zm_Mod_puts ∈ zu_TB) (hR1 : 0 + 1 ≤ R.frames) (hR2 : 8 + (2 + 11) + 0 ≤ R.locals) (hsz : ls.size = nL) (hst : st0 = .ref (ad 95) :: rest) (hw : (rest.map fun v => v.category).sum ≤ 8) (hdg : decode cc pc = .ok (.invokevirtual index, 3)) (h00 : cells ≤ R.cells ∧ slots ≤ R.slots) (kk : ∀ (H1 : Heap) (locs1 : List Loc), va_P D zu_cl (zu_pic cA ad X1 Y) H1 → va_S A s.heap H1 locs1 → W p l e R s m args below meth c H1 locs1 cells slots Q (F0 m (pc + 3) ls (rest))) : W p l e R s m args below meth c H locs cells slots Q (F0 m pc ls st0) := by
  subst hst
  exact zr_cVv (As := []) (rest := rest) (n := 0) (C := "StonePostModel") (T := zt_Mod) (N := 23) B hP hS (zC_Mod_puts l  hq) (K := 7) rfl (by decide) (by decide) rfl rfl m1 zq_1164 zqP_44 zq_8 zq_1165 (by decide +kernel) ⟨hR1, hR2⟩ rfl rfl rfl hsz rfl hw hdg h00 kk
abbrev zR_Mod_putsBack : Room := { frames := 0, cells := 0, slots := 0, locals := 0 }
theorem zd_Mod_putsBack_0 : decode zb_Mod_putsBack 0 = .ok (.iconst 0, 1) := by decide +kernel
theorem zd_Mod_putsBack_1 : decode zb_Mod_putsBack 1 = .ok (.istore_n 1, 1) := by decide +kernel
theorem zd_Mod_putsBack_2 : decode zb_Mod_putsBack 2 = .ok (.iload_n 1, 1) := by decide +kernel
theorem zd_Mod_putsBack_3 : decode zb_Mod_putsBack 3 = .ok (.sipush 142, 3) := by decide +kernel
theorem zd_Mod_putsBack_6 : decode zb_Mod_putsBack 6 = .ok (.if_icmp .ge 21, 3) := by decide +kernel
theorem zd_Mod_putsBack_9 : decode zb_Mod_putsBack 9 = .ok (.aload_n 0, 1) := by decide +kernel
theorem zd_Mod_putsBack_10 : decode zb_Mod_putsBack 10 = .ok (.getfield 7, 3) := by decide +kernel
theorem zd_Mod_putsBack_13 : decode zb_Mod_putsBack 13 = .ok (.iload_n 1, 1) := by decide +kernel
theorem zd_Mod_putsBack_14 : decode zb_Mod_putsBack 14 = .ok (.aload_n 0, 1) := by decide +kernel
theorem zd_Mod_putsBack_15 : decode zb_Mod_putsBack 15 = .ok (.getfield 16, 3) := by decide +kernel
theorem zd_Mod_putsBack_18 : decode zb_Mod_putsBack 18 = .ok (.iload_n 1, 1) := by decide +kernel
theorem zd_Mod_putsBack_19 : decode zb_Mod_putsBack 19 = .ok (.iaload, 1) := by decide +kernel
theorem zd_Mod_putsBack_20 : decode zb_Mod_putsBack 20 = .ok (.iastore, 1) := by decide +kernel
theorem zd_Mod_putsBack_21 : decode zb_Mod_putsBack 21 = .ok (.iinc 1 1, 3) := by decide +kernel
theorem zd_Mod_putsBack_24 : decode zb_Mod_putsBack 24 = .ok (.goto (-22), 3) := by decide +kernel
theorem zd_Mod_putsBack_27 : decode zb_Mod_putsBack 27 = .ok (.return_, 1) := by decide +kernel
set_option maxHeartbeats 4000000 in
theorem zl_Mod_putsBack_B2 {p : Program} {l : Launch} {e : Env} {s : State} {m : MethodId} {args : Array Value} {below : List Frame} {meth : Method} {c : Code} {D : va_G} {cA : Nat → ClassId} {ad : Nat → Nat} {A : Nat → Prop} (B : zu_B p s m args c zb_Mod_putsBack 2 "StonePostModel" D cA ad A) (hret : meth.sig.returnType = none) (hlk : meth.locks = false) {Y : LX} {res : IX} {k2 : Int32 → IX → Option IX} (hk2 : ∀ (x1 : Int32) (X : IX) (H : Heap) (locs : List Loc) (ls : Array Slot), va_P D zu_cl (zu_pic cA ad X Y) H → va_S A s.heap H locs → lv_has ls 2 [(0, .ref (ad 95)), (1, .int x1)] → k2 x1 X = some res → W p l e zR_Mod_putsBack s m args below meth c H locs 0 0 (MQ below (zu_Qv D cA ad A res Y) args s 0 0 A) (F0 m 2 ls [])) (x1 : Int32) (X : IX) (H : Heap) (locs : List Loc) (ls : Array Slot) (hP : va_P D zu_cl (zu_pic cA ad X Y) H) (hS : va_S A s.heap H locs) (hl : lv_has ls 2 [(0, .ref (ad 95)), (1, .int x1)]) (hf : fn_Mod_putsBack_B2 k2 x1 X = some res) : W p l e zR_Mod_putsBack s m args below meth c H locs 0 0 (MQ below (zu_Qv D cA ad A res Y) args s 0 0 A) (F0 m 2 ls []) := by
  obtain ⟨hx, hb, hml, hown, hts, hST⟩ := id B
  unfold fn_Mod_putsBack_B2 at hf
  refine lv_iload_n hx hb zd_Mod_putsBack_2 rfl (lv_at hl 1 rfl) ?_
  refine lv_sipush (v := 142) hx hb zd_Mod_putsBack_3 (by decide) ?_
  refine lv_icmp_ge (tgt := 27) hx hb zd_Mod_putsBack_6 (by decide) (fun c1 => ?_) (fun c1 => ?_)
  · have hf := zu_t c1 hf
    obtain rfl := Option.some.inj hf
    exact zr_vret hx hb hret hlk hP hS zd_Mod_putsBack_27
  · have hf := zu_f c1 hf
    refine lv_aload_n hx hb zd_Mod_putsBack_9 rfl (lv_at hl 0 rfl) ?_
    refine zg_Mod_s B hP rfl zq_861 zd_Mod_putsBack_10 ?_
    refine lv_iload_n hx hb zd_Mod_putsBack_13 rfl (lv_at hl 1 rfl) ?_
    refine lv_aload_n hx hb zd_Mod_putsBack_14 rfl (lv_at hl 0 rfl) ?_
    refine zg_Mod_other B hP rfl zq_863 zd_Mod_putsBack_15 ?_
    refine lv_iload_n hx hb zd_Mod_putsBack_18 rfl (lv_at hl 1 rfl) ?_
    obtain ⟨hg2, hf⟩ := zu_gd_e hf
    refine zr_iald rfl B hP rfl (by decide) rfl hg2 zd_Mod_putsBack_19 ?_
    obtain ⟨hg3, hf⟩ := zu_gd_e hf
    refine zr_iast rfl B hP hS hf rfl (by decide) rfl hg3 zd_Mod_putsBack_20 (fun X4 H locs hf hP hS => ?_)
    obtain ⟨v5, ev5, hf⟩ := zu_nx_e hf
    refine lv_iinc (v := v5) (lv' := [(1, .int v5), (0, .ref (ad 95))]) hx hb zd_Mod_putsBack_21 hl (k := 1) rfl (by rw [ev5]; rfl) (by decide) rfl (fun ls hl => ?_)
    clear ev5
    refine lv_goto (tgt := 2) hx hb zd_Mod_putsBack_24 (by decide) ?_
    exact hk2 v5 X4 _ _ _ hP hS (lv_sub hl [1, 0] rfl) hf
theorem zl_Mod_putsBack_L2 {p : Program} {l : Launch} {e : Env} {s : State} {m : MethodId} {args : Array Value} {below : List Frame} {meth : Method} {c : Code} {D : va_G} {cA : Nat → ClassId} {ad : Nat → Nat} {A : Nat → Prop} (B : zu_B p s m args c zb_Mod_putsBack 2 "StonePostModel" D cA ad A) (hret : meth.sig.returnType = none) (hlk : meth.locks = false) {Y : LX} {res : IX} : ∀ (n : Nat) (x1 : Int32) (X : IX) (H : Heap) (locs : List Loc) (ls : Array Slot), va_P D zu_cl (zu_pic cA ad X Y) H → va_S A s.heap H locs → lv_has ls 2 [(0, .ref (ad 95)), (1, .int x1)] → fn_Mod_putsBack_L2 n x1 X = some res → W p l e zR_Mod_putsBack s m args below meth c H locs 0 0 (MQ below (zu_Qv D cA ad A res Y) args s 0 0 A) (F0 m 2 ls []) := by
  intro n
  induction n with
  | zero =>
    intro x1 X H locs ls hP hS hl hf
    exact (Option.some_ne_none _ hf.symm).elim
  | succ n ih =>
    intro x1 X H locs ls hP hS hl hf
    exact zl_Mod_putsBack_B2 B hret hlk ih x1 X H locs ls hP hS hl  hf
set_option maxHeartbeats 4000000 in
theorem zl_Mod_putsBack {p : Program} {l : Launch} {e : Env} {s : State} {m : MethodId} {args : Array Value} {below : List Frame} {meth : Method} {c : Code} {D : va_G} {cA : Nat → ClassId} {ad : Nat → Nat} {A : Nat → Prop} (B : zu_B p s m args c zb_Mod_putsBack 2 "StonePostModel" D cA ad A) (hret : meth.sig.returnType = none) (hlk : meth.locks = false) {Y : LX} {res : IX} {X : IX} (H : Heap) (locs : List Loc) (ls : Array Slot) (hP : va_P D zu_cl (zu_pic cA ad X Y) H) (hS : va_S A s.heap H locs) (hl : lv_has ls 2 [(0, .ref (ad 95))]) (hf : fn_Mod_putsBack X = some res) : W p l e zR_Mod_putsBack s m args below meth c H locs 0 0 (MQ below (zu_Qv D cA ad A res Y) args s 0 0 A) (F0 m 0 ls []) := by
  obtain ⟨hx, hb, hml, hown, hts, hST⟩ := id B
  unfold fn_Mod_putsBack at hf
  refine lv_iconst (v := 0) hx hb zd_Mod_putsBack_0 (by decide) ?_
  refine lv_istore_n (lv' := [(1, .int (0 : Int32)), (0, .ref (ad 95))]) hx hb zd_Mod_putsBack_1 rfl hl (by decide) rfl (fun ls hl => ?_)
  exact zl_Mod_putsBack_L2 B hret hlk 400 (0 : Int32) X _ _ _ hP hS (lv_sub hl [1, 0] rfl) hf
theorem zC_Mod_putsBack (l : Launch) {D : va_G} {cA : Nat → ClassId} {ad : Nat → Nat} {A : Nat → Prop} {X : IX} {Y : LX} {res : IX} (hf : fn_Mod_putsBack X = some res) : Met l zm_Mod_putsBack (zu_ws zm_Mod_putsBack zb_Mod_putsBack 2 none) zR_Mod_putsBack (va_Pc [.ref (ad 95)] (zu_Pre D cA ad A X Y)) (zu_Qv D cA ad A res Y) 0 0 A := by
  refine Met.ofW (cc := zb_Mod_putsBack) (maxL := 2) (ret := none) (by decide +kernel) rfl ?_
  intro p e s m args below meth c s₁ B0 hml hv
  obtain ⟨rfl, hP, hST⟩ := hv
  have B : zu_B p s m _ c zb_Mod_putsBack 2 "StonePostModel" D cA ad A := ⟨B0.exec, B0.bytes, hml, findClass_of_methodNamed B0.named, (fun w hw => atoms_spec (ws := zu_ws zm_Mod_putsBack zb_Mod_putsBack 2 none) B0.pre w (List.mem_cons_of_mem _ hw)), hST⟩
  have hl := lv_entry ([.ref (ad 95)]) (n := 2) (Nat.le_of_ble_eq_true rfl)
  rw [lg_entry_eq]
  generalize (lg_sl ([.ref (ad 95)]) ++ List.replicate (2 - (lg_sl ([.ref (ad 95)])).length) Slot.unset).toArray = ls at hl ⊢
  exact zl_Mod_putsBack B B0.returns B0.notSynchronized s.heap [] ls hP va_S.rf hl  hf
theorem zw_Mod_putsBack {p : Program} {l : Launch} {e : Env} {R : Room} {s : State} {m : MethodId} {args : Array Value} {below : List Frame} {meth : Method} {c : Code} {H : Heap} {locs : List Loc} {cells slots : Nat} {Q : State → Prop} {cc : ByteArray} {pc nL : Nat} {ls : Array Slot} {rest st0 : List Value} {D : va_G} {cA : Nat → ClassId} {ad : Nat → Nat} {A : Nat → Prop} {X : IX} {Y : LX} {own : String} {index : Nat} {X1 : IX} (B : zu_B p s m args c cc nL own D cA ad A) (hP : va_P D zu_cl (zu_pic cA ad X Y) H) (hS : va_S A s.heap H locs) (hq : fn_Mod_putsBack X = some X1) (m1 : Cond.methodLink own index zm_Mod_putsBack ∈ zu_TB) (hR1 : 0 + 1 ≤ R.frames) (hR2 : 8 + (2 + 11) + 0 ≤ R.locals) (hsz : ls.size = nL) (hst : st0 = .ref (ad 95) :: rest) (hw : (rest.map fun v => v.category).sum ≤ 8) (hdg : decode cc pc = .ok (.invokevirtual index, 3)) (h00 : cells ≤ R.cells ∧ slots ≤ R.slots) (kk : ∀ (H1 : Heap) (locs1 : List Loc), va_P D zu_cl (zu_pic cA ad X1 Y) H1 → va_S A s.heap H1 locs1 → W p l e R s m args below meth c H1 locs1 cells slots Q (F0 m (pc + 3) ls (rest))) : W p l e R s m args below meth c H locs cells slots Q (F0 m pc ls st0) := by
  subst hst
  exact zr_cVv (As := []) (rest := rest) (n := 0) (C := "StonePostModel") (T := zt_Mod) (N := 23) B hP hS (zC_Mod_putsBack l  hq) (K := 7) rfl (by decide) (by decide) rfl rfl m1 zq_1176 zqP_47 zq_8 zq_1177 (by decide +kernel) ⟨hR1, hR2⟩ rfl rfl rfl hsz rfl hw hdg h00 kk
abbrev zR_Mod_stuff : Room := { frames := 2, cells := 0, slots := 0, locals := 45 }
theorem zd_Mod_stuff_0 : decode zb_Mod_stuff 0 = .ok (.iload_n 1, 1) := by decide +kernel
theorem zd_Mod_stuff_1 : decode zb_Mod_stuff 1 = .ok (.invokestatic 58, 3) := by decide +kernel
theorem zd_Mod_stuff_4 : decode zb_Mod_stuff 4 = .ok (.ifCond .eq 15, 3) := by decide +kernel
theorem zd_Mod_stuff_7 : decode zb_Mod_stuff 7 = .ok (.iload_n 2, 1) := by decide +kernel
theorem zd_Mod_stuff_8 : decode zb_Mod_stuff 8 = .ok (.i2l, 1) := by decide +kernel
theorem zd_Mod_stuff_9 : decode zb_Mod_stuff 9 = .ok (.lconst 0, 1) := by decide +kernel
theorem zd_Mod_stuff_10 : decode zb_Mod_stuff 10 = .ok (.ldc2_w 62, 3) := by decide +kernel
theorem zd_Mod_stuff_13 : decode zb_Mod_stuff 13 = .ok (.invokestatic 53, 3) := by decide +kernel
theorem zd_Mod_stuff_16 : decode zb_Mod_stuff 16 = .ok (.ifCond .ne 10, 3) := by decide +kernel
theorem zd_Mod_stuff_19 : decode zb_Mod_stuff 19 = .ok (.aload_n 0, 1) := by decide +kernel
theorem zd_Mod_stuff_20 : decode zb_Mod_stuff 20 = .ok (.ldc 50, 2) := by decide +kernel
theorem zd_Mod_stuff_22 : decode zb_Mod_stuff 22 = .ok (.invokevirtual 64, 3) := by decide +kernel
theorem zd_Mod_stuff_25 : decode zb_Mod_stuff 25 = .ok (.ireturn, 1) := by decide +kernel
theorem zd_Mod_stuff_26 : decode zb_Mod_stuff 26 = .ok (.aload_n 0, 1) := by decide +kernel
theorem zd_Mod_stuff_27 : decode zb_Mod_stuff 27 = .ok (.getfield 7, 3) := by decide +kernel
theorem zd_Mod_stuff_30 : decode zb_Mod_stuff 30 = .ok (.bipush 6, 2) := by decide +kernel
theorem zd_Mod_stuff_32 : decode zb_Mod_stuff 32 = .ok (.iload_n 1, 1) := by decide +kernel
theorem zd_Mod_stuff_33 : decode zb_Mod_stuff 33 = .ok (.iadd, 1) := by decide +kernel
theorem zd_Mod_stuff_34 : decode zb_Mod_stuff 34 = .ok (.iaload, 1) := by decide +kernel
theorem zd_Mod_stuff_35 : decode zb_Mod_stuff 35 = .ok (.istore_n 3, 1) := by decide +kernel
theorem zd_Mod_stuff_36 : decode zb_Mod_stuff 36 = .ok (.aload_n 0, 1) := by decide +kernel
theorem zd_Mod_stuff_37 : decode zb_Mod_stuff 37 = .ok (.getfield 7, 3) := by decide +kernel
theorem zd_Mod_stuff_40 : decode zb_Mod_stuff 40 = .ok (.bipush 6, 2) := by decide +kernel
theorem zd_Mod_stuff_42 : decode zb_Mod_stuff 42 = .ok (.iload_n 1, 1) := by decide +kernel
theorem zd_Mod_stuff_43 : decode zb_Mod_stuff 43 = .ok (.iadd, 1) := by decide +kernel
theorem zd_Mod_stuff_44 : decode zb_Mod_stuff 44 = .ok (.iload_n 2, 1) := by decide +kernel
theorem zd_Mod_stuff_45 : decode zb_Mod_stuff 45 = .ok (.iastore, 1) := by decide +kernel
theorem zd_Mod_stuff_46 : decode zb_Mod_stuff 46 = .ok (.iload_n 3, 1) := by decide +kernel
theorem zd_Mod_stuff_47 : decode zb_Mod_stuff 47 = .ok (.ireturn, 1) := by decide +kernel
set_option maxHeartbeats 4000000 in
theorem zl_Mod_stuff_L19 {p : Program} {l : Launch} {e : Env} {s : State} {m : MethodId} {args : Array Value} {below : List Frame} {meth : Method} {c : Code} {D : va_G} {cA : Nat → ClassId} {ad : Nat → Nat} {A : Nat → Prop} (B : zu_B p s m args c zb_Mod_stuff 4 "StonePostModel" D cA ad A) (hret : meth.sig.returnType = (some .int)) (hlk : meth.locks = false) {Y : LX} {res : Int32 × IX} (X : IX) (H : Heap) (locs : List Loc) (ls : Array Slot) (hP : va_P D zu_cl (zu_pic cA ad X Y) H) (hS : va_S A s.heap H locs) (hl : lv_has ls 4 [(0, .ref (ad 95))]) (hf : fn_Mod_stuff_L19 X = some res) : W p l e zR_Mod_stuff s m args below meth c H locs 0 0 (MQ below (zu_Qi D cA ad A res.1 res.2 Y) args s 0 0 A) (F0 m 19 ls []) := by
  obtain ⟨hx, hb, hml, hown, hts, hST⟩ := id B
  unfold fn_Mod_stuff_L19 at hf
  refine lv_aload_n hx hb zd_Mod_stuff_19 rfl (lv_at hl 0 rfl) ?_
  refine lv_ldc (v := -1000001) hx hb hown (hts _ zq_943) zd_Mod_stuff_20 ?_
  obtain ⟨v11, X12, hq13, hf⟩ := zu_b2_e hf
  refine zw_Mod_finds (rest := []) B hP hS hq13 zq_944 (Nat.le_of_ble_eq_true rfl) (Nat.le_of_ble_eq_true rfl) hl.1 rfl (Nat.le_of_ble_eq_true rfl) zd_Mod_stuff_22 (by decide) (fun H locs hP hS => ?_)
  clear hq13
  obtain rfl := Option.some.inj hf
  exact zr_iret hx hb hret hlk hP hS zd_Mod_stuff_25
set_option maxHeartbeats 4000000 in
theorem zl_Mod_stuff {p : Program} {l : Launch} {e : Env} {s : State} {m : MethodId} {args : Array Value} {below : List Frame} {meth : Method} {c : Code} {D : va_G} {cA : Nat → ClassId} {ad : Nat → Nat} {A : Nat → Prop} (B : zu_B p s m args c zb_Mod_stuff 4 "StonePostModel" D cA ad A) (hret : meth.sig.returnType = (some .int)) (hlk : meth.locks = false) {Y : LX} {res : Int32 × IX} {a1 : Int32} {a2 : Int32} {X : IX} (H : Heap) (locs : List Loc) (ls : Array Slot) (hP : va_P D zu_cl (zu_pic cA ad X Y) H) (hS : va_S A s.heap H locs) (hl : lv_has ls 4 [(0, .ref (ad 95)), (1, .int a1), (2, .int a2)]) (hf : fn_Mod_stuff a1 a2 X = some res) : W p l e zR_Mod_stuff s m args below meth c H locs 0 0 (MQ below (zu_Qi D cA ad A res.1 res.2 Y) args s 0 0 A) (F0 m 0 ls []) := by
  obtain ⟨hx, hb, hml, hown, hts, hST⟩ := id B
  unfold fn_Mod_stuff at hf
  refine lv_iload_n hx hb zd_Mod_stuff_0 rfl (lv_at hl 1 rfl) ?_
  obtain ⟨v1, hq2, hf⟩ := zu_b1_e hf
  refine zw_Mod_isCell (rest := []) B hP hS hq2 zq_935 (Nat.le_of_ble_eq_true rfl) (Nat.le_of_ble_eq_true rfl) hl.1 rfl (Nat.le_of_ble_eq_true rfl) zd_Mod_stuff_1 (by decide) (fun H locs hP hS => ?_)
  clear hq2
  refine lv_if_eq (tgt := 19) hx hb zd_Mod_stuff_4 (by decide) (fun c3 => ?_) (fun c3 => ?_)
  · have hf := zu_t c3 hf
    exact zl_Mod_stuff_L19 B hret hlk X _ _ _ hP hS (lv_sub hl [0] rfl) hf
  · have hf := zu_f c3 hf
    refine lv_iload_n hx hb zd_Mod_stuff_7 rfl (lv_at hl 2 rfl) ?_
    refine lv_i2l hx hb zd_Mod_stuff_8 rfl ?_
    refine lv_lconst (v := 0) hx hb zd_Mod_stuff_9 (by decide) ?_
    refine lv_ldc2 (v := 3) hx hb hown (hts _ zq_942) zd_Mod_stuff_10 ?_
    obtain ⟨v4, hq5, hf⟩ := zu_b1_e hf
    refine zw_Mod_in (rest := []) B hP hS hq5 zq_939 (Nat.le_of_ble_eq_true rfl) (Nat.le_of_ble_eq_true rfl) hl.1 rfl (Nat.le_of_ble_eq_true rfl) zd_Mod_stuff_13 (by decide) (fun H locs hP hS => ?_)
    clear hq5
    refine lv_if_ne (tgt := 26) hx hb zd_Mod_stuff_16 (by decide) (fun c6 => ?_) (fun c6 => ?_)
    · have hf := zu_f c6 hf
      refine lv_aload_n hx hb zd_Mod_stuff_26 rfl (lv_at hl 0 rfl) ?_
      refine zg_Mod_s B hP rfl zq_861 zd_Mod_stuff_27 ?_
      refine lv_bipush (v := 6) hx hb zd_Mod_stuff_30 (by decide) ?_
      refine lv_iload_n hx hb zd_Mod_stuff_32 rfl (lv_at hl 1 rfl) ?_
      refine lv_iadd hx hb zd_Mod_stuff_33 ?_
      obtain ⟨hg7, hf⟩ := zu_gd_e hf
      refine zr_iald rfl B hP rfl (by decide) rfl hg7 zd_Mod_stuff_34 ?_
      refine zr_nxi hf (fun v8 hf => ?_)
      refine lv_istore_n (lv' := [(3, .int v8), (0, .ref (ad 95)), (1, .int a1), (2, .int a2)]) hx hb zd_Mod_stuff_35 rfl hl (by decide) rfl (fun ls hl => ?_)
      refine lv_aload_n hx hb zd_Mod_stuff_36 rfl (lv_at hl 1 rfl) ?_
      refine zg_Mod_s B hP rfl zq_861 zd_Mod_stuff_37 ?_
      refine lv_bipush (v := 6) hx hb zd_Mod_stuff_40 (by decide) ?_
      refine lv_iload_n hx hb zd_Mod_stuff_42 rfl (lv_at hl 2 rfl) ?_
      refine lv_iadd hx hb zd_Mod_stuff_43 ?_
      refine lv_iload_n hx hb zd_Mod_stuff_44 rfl (lv_at hl 3 rfl) ?_
      obtain ⟨hg9, hf⟩ := zu_gd_e hf
      refine zr_iast rfl B hP hS hf rfl (by decide) rfl hg9 zd_Mod_stuff_45 (fun X10 H locs hf hP hS => ?_)
      refine lv_iload_n hx hb zd_Mod_stuff_46 rfl (lv_at hl 0 rfl) ?_
      obtain rfl := Option.some.inj hf
      exact zr_iret hx hb hret hlk hP hS zd_Mod_stuff_47
    · have hf := zu_t c6 hf
      exact zl_Mod_stuff_L19 B hret hlk X _ _ _ hP hS (lv_sub hl [0] rfl) hf
theorem zC_Mod_stuff (l : Launch) {D : va_G} {cA : Nat → ClassId} {ad : Nat → Nat} {A : Nat → Prop} {a1 : Int32} {a2 : Int32} {X : IX} {Y : LX} {res : Int32 × IX} (hf : fn_Mod_stuff a1 a2 X = some res) : Met l zm_Mod_stuff (zu_ws zm_Mod_stuff zb_Mod_stuff 4 (some .int)) zR_Mod_stuff (va_Pc [.ref (ad 95), .int a1, .int a2] (zu_Pre D cA ad A X Y)) (zu_Qi D cA ad A res.1 res.2 Y) 0 0 A := by
  refine Met.ofW (cc := zb_Mod_stuff) (maxL := 4) (ret := (some .int)) (by decide +kernel) rfl ?_
  intro p e s m args below meth c s₁ B0 hml hv
  obtain ⟨rfl, hP, hST⟩ := hv
  have B : zu_B p s m _ c zb_Mod_stuff 4 "StonePostModel" D cA ad A := ⟨B0.exec, B0.bytes, hml, findClass_of_methodNamed B0.named, (fun w hw => atoms_spec (ws := zu_ws zm_Mod_stuff zb_Mod_stuff 4 (some .int)) B0.pre w (List.mem_cons_of_mem _ hw)), hST⟩
  have hl := lv_entry ([.ref (ad 95), .int a1, .int a2]) (n := 4) (Nat.le_of_ble_eq_true rfl)
  rw [lg_entry_eq]
  generalize (lg_sl ([.ref (ad 95), .int a1, .int a2]) ++ List.replicate (4 - (lg_sl ([.ref (ad 95), .int a1, .int a2])).length) Slot.unset).toArray = ls at hl ⊢
  exact zl_Mod_stuff B B0.returns B0.notSynchronized s.heap [] ls hP va_S.rf hl  hf
theorem zw_Mod_stuff {p : Program} {l : Launch} {e : Env} {R : Room} {s : State} {m : MethodId} {args : Array Value} {below : List Frame} {meth : Method} {c : Code} {H : Heap} {locs : List Loc} {cells slots : Nat} {Q : State → Prop} {cc : ByteArray} {pc nL : Nat} {ls : Array Slot} {rest st0 : List Value} {D : va_G} {cA : Nat → ClassId} {ad : Nat → Nat} {A : Nat → Prop} {X : IX} {Y : LX} {own : String} {index : Nat} {a1 : Int32} {a2 : Int32} {v1 : Int32} {X1 : IX} (B : zu_B p s m args c cc nL own D cA ad A) (hP : va_P D zu_cl (zu_pic cA ad X Y) H) (hS : va_S A s.heap H locs) (hq : fn_Mod_stuff a1 a2 X = some (v1, X1)) (m1 : Cond.methodLink own index zm_Mod_stuff ∈ zu_TB) (hR1 : 2 + 1 ≤ R.frames) (hR2 : 8 + (4 + 11) + 45 ≤ R.locals) (hsz : ls.size = nL) (hst : st0 = .int a2 :: .int a1 :: .ref (ad 95) :: rest) (hw : (rest.map fun v => v.category).sum ≤ 8) (hdg : decode cc pc = .ok (.invokevirtual index, 3)) (h00 : cells ≤ R.cells ∧ slots ≤ R.slots) (kk : ∀ (H1 : Heap) (locs1 : List Loc), va_P D zu_cl (zu_pic cA ad X1 Y) H1 → va_S A s.heap H1 locs1 → W p l e R s m args below meth c H1 locs1 cells slots Q (F0 m (pc + 3) ls (.int v1 :: rest))) : W p l e R s m args below meth c H locs cells slots Q (F0 m pc ls st0) := by
  subst hst
  exact zr_cVi (As := [.int a1, .int a2]) (rest := rest) (n := 2) (C := "StonePostModel") (T := zt_Mod) (N := 23) B hP hS (zC_Mod_stuff l  hq) (K := 7) rfl (by decide) (by decide) rfl rfl m1 zq_932 zq_933 zq_8 zq_934 (by decide +kernel) ⟨hR1, hR2⟩ rfl rfl rfl hsz rfl hw hdg h00 kk
abbrev zR_Mod_rule : Room := { frames := 1, cells := 0, slots := 0, locals := 25 }
theorem zd_Mod_rule_0 : decode zb_Mod_rule 0 = .ok (.iload_n 1, 1) := by decide +kernel
theorem zd_Mod_rule_1 : decode zb_Mod_rule 1 = .ok (.i2l, 1) := by decide +kernel
theorem zd_Mod_rule_2 : decode zb_Mod_rule 2 = .ok (.lconst 0, 1) := by decide +kernel
theorem zd_Mod_rule_3 : decode zb_Mod_rule 3 = .ok (.lconst 1, 1) := by decide +kernel
theorem zd_Mod_rule_4 : decode zb_Mod_rule 4 = .ok (.invokestatic 53, 3) := by decide +kernel
theorem zd_Mod_rule_7 : decode zb_Mod_rule 7 = .ok (.ifCond .eq 25, 3) := by decide +kernel
theorem zd_Mod_rule_10 : decode zb_Mod_rule 10 = .ok (.iload_n 2, 1) := by decide +kernel
theorem zd_Mod_rule_11 : decode zb_Mod_rule 11 = .ok (.i2l, 1) := by decide +kernel
theorem zd_Mod_rule_12 : decode zb_Mod_rule 12 = .ok (.lconst 0, 1) := by decide +kernel
theorem zd_Mod_rule_13 : decode zb_Mod_rule 13 = .ok (.iload_n 1, 1) := by decide +kernel
theorem zd_Mod_rule_14 : decode zb_Mod_rule 14 = .ok (.ifCond .ne 9, 3) := by decide +kernel
theorem zd_Mod_rule_17 : decode zb_Mod_rule 17 = .ok (.ldc2_w 51, 3) := by decide +kernel
theorem zd_Mod_rule_20 : decode zb_Mod_rule 20 = .ok (.goto 6, 3) := by decide +kernel
theorem zd_Mod_rule_23 : decode zb_Mod_rule 23 = .ok (.ldc2_w 68, 3) := by decide +kernel
theorem zd_Mod_rule_26 : decode zb_Mod_rule 26 = .ok (.invokestatic 53, 3) := by decide +kernel
theorem zd_Mod_rule_29 : decode zb_Mod_rule 29 = .ok (.ifCond .ne 10, 3) := by decide +kernel
theorem zd_Mod_rule_32 : decode zb_Mod_rule 32 = .ok (.aload_n 0, 1) := by decide +kernel
theorem zd_Mod_rule_33 : decode zb_Mod_rule 33 = .ok (.ldc 50, 2) := by decide +kernel
theorem zd_Mod_rule_35 : decode zb_Mod_rule 35 = .ok (.invokevirtual 64, 3) := by decide +kernel
theorem zd_Mod_rule_38 : decode zb_Mod_rule 38 = .ok (.ireturn, 1) := by decide +kernel
theorem zd_Mod_rule_39 : decode zb_Mod_rule 39 = .ok (.aload_n 0, 1) := by decide +kernel
theorem zd_Mod_rule_40 : decode zb_Mod_rule 40 = .ok (.getfield 7, 3) := by decide +kernel
theorem zd_Mod_rule_43 : decode zb_Mod_rule 43 = .ok (.iconst 3, 1) := by decide +kernel
theorem zd_Mod_rule_44 : decode zb_Mod_rule 44 = .ok (.iload_n 1, 1) := by decide +kernel
theorem zd_Mod_rule_45 : decode zb_Mod_rule 45 = .ok (.iadd, 1) := by decide +kernel
theorem zd_Mod_rule_46 : decode zb_Mod_rule 46 = .ok (.iaload, 1) := by decide +kernel
theorem zd_Mod_rule_47 : decode zb_Mod_rule 47 = .ok (.istore_n 3, 1) := by decide +kernel
theorem zd_Mod_rule_48 : decode zb_Mod_rule 48 = .ok (.aload_n 0, 1) := by decide +kernel
theorem zd_Mod_rule_49 : decode zb_Mod_rule 49 = .ok (.getfield 7, 3) := by decide +kernel
theorem zd_Mod_rule_52 : decode zb_Mod_rule 52 = .ok (.iconst 3, 1) := by decide +kernel
theorem zd_Mod_rule_53 : decode zb_Mod_rule 53 = .ok (.iload_n 1, 1) := by decide +kernel
theorem zd_Mod_rule_54 : decode zb_Mod_rule 54 = .ok (.iadd, 1) := by decide +kernel
theorem zd_Mod_rule_55 : decode zb_Mod_rule 55 = .ok (.iload_n 2, 1) := by decide +kernel
theorem zd_Mod_rule_56 : decode zb_Mod_rule 56 = .ok (.iastore, 1) := by decide +kernel
theorem zd_Mod_rule_57 : decode zb_Mod_rule 57 = .ok (.iload_n 3, 1) := by decide +kernel
theorem zd_Mod_rule_58 : decode zb_Mod_rule 58 = .ok (.ireturn, 1) := by decide +kernel
set_option maxHeartbeats 4000000 in
theorem zl_Mod_rule_L32 {p : Program} {l : Launch} {e : Env} {s : State} {m : MethodId} {args : Array Value} {below : List Frame} {meth : Method} {c : Code} {D : va_G} {cA : Nat → ClassId} {ad : Nat → Nat} {A : Nat → Prop} (B : zu_B p s m args c zb_Mod_rule 4 "StonePostModel" D cA ad A) (hret : meth.sig.returnType = (some .int)) (hlk : meth.locks = false) {Y : LX} {res : Int32 × IX} (X : IX) (H : Heap) (locs : List Loc) (ls : Array Slot) (hP : va_P D zu_cl (zu_pic cA ad X Y) H) (hS : va_S A s.heap H locs) (hl : lv_has ls 4 [(0, .ref (ad 95))]) (hf : fn_Mod_rule_L32 X = some res) : W p l e zR_Mod_rule s m args below meth c H locs 0 0 (MQ below (zu_Qi D cA ad A res.1 res.2 Y) args s 0 0 A) (F0 m 32 ls []) := by
  obtain ⟨hx, hb, hml, hown, hts, hST⟩ := id B
  unfold fn_Mod_rule_L32 at hf
  refine lv_aload_n hx hb zd_Mod_rule_32 rfl (lv_at hl 0 rfl) ?_
  refine lv_ldc (v := -1000001) hx hb hown (hts _ zq_943) zd_Mod_rule_33 ?_
  obtain ⟨v5, X6, hq7, hf⟩ := zu_b2_e hf
  refine zw_Mod_finds (rest := []) B hP hS hq7 zq_944 (Nat.le_of_ble_eq_true rfl) (Nat.le_of_ble_eq_true rfl) hl.1 rfl (Nat.le_of_ble_eq_true rfl) zd_Mod_rule_35 (by decide) (fun H locs hP hS => ?_)
  clear hq7
  obtain rfl := Option.some.inj hf
  exact zr_iret hx hb hret hlk hP hS zd_Mod_rule_38
set_option maxHeartbeats 4000000 in
theorem zl_Mod_rule_L26 {p : Program} {l : Launch} {e : Env} {s : State} {m : MethodId} {args : Array Value} {below : List Frame} {meth : Method} {c : Code} {D : va_G} {cA : Nat → ClassId} {ad : Nat → Nat} {A : Nat → Prop} (B : zu_B p s m args c zb_Mod_rule 4 "StonePostModel" D cA ad A) (hret : meth.sig.returnType = (some .int)) (hlk : meth.locks = false) {Y : LX} {res : Int32 × IX} (x1 : Int32) (x2 : Int32) (y0 : Int64) (y1 : Int64) (y2 : Int64) (X : IX) (H : Heap) (locs : List Loc) (ls : Array Slot) (hP : va_P D zu_cl (zu_pic cA ad X Y) H) (hS : va_S A s.heap H locs) (hl : lv_has ls 4 [(0, .ref (ad 95)), (1, .int x1), (2, .int x2)]) (hf : fn_Mod_rule_L26 x1 x2 y0 y1 y2 X = some res) : W p l e zR_Mod_rule s m args below meth c H locs 0 0 (MQ below (zu_Qi D cA ad A res.1 res.2 Y) args s 0 0 A) (F0 m 26 ls [.long y0, .long y1, .long y2]) := by
  obtain ⟨hx, hb, hml, hown, hts, hST⟩ := id B
  unfold fn_Mod_rule_L26 at hf
  obtain ⟨v8, hq9, hf⟩ := zu_b1_e hf
  refine zw_Mod_in (rest := []) B hP hS hq9 zq_939 (Nat.le_of_ble_eq_true rfl) (Nat.le_of_ble_eq_true rfl) hl.1 rfl (Nat.le_of_ble_eq_true rfl) zd_Mod_rule_26 (by decide) (fun H locs hP hS => ?_)
  clear hq9
  refine lv_if_ne (tgt := 39) hx hb zd_Mod_rule_29 (by decide) (fun c10 => ?_) (fun c10 => ?_)
  · have hf := zu_f c10 hf
    refine lv_aload_n hx hb zd_Mod_rule_39 rfl (lv_at hl 0 rfl) ?_
    refine zg_Mod_s B hP rfl zq_861 zd_Mod_rule_40 ?_
    refine lv_iconst (v := 3) hx hb zd_Mod_rule_43 (by decide) ?_
    refine lv_iload_n hx hb zd_Mod_rule_44 rfl (lv_at hl 1 rfl) ?_
    refine lv_iadd hx hb zd_Mod_rule_45 ?_
    obtain ⟨hg11, hf⟩ := zu_gd_e hf
    refine zr_iald rfl B hP rfl (by decide) rfl hg11 zd_Mod_rule_46 ?_
    refine zr_nxi hf (fun v12 hf => ?_)
    refine lv_istore_n (lv' := [(3, .int v12), (0, .ref (ad 95)), (1, .int x1), (2, .int x2)]) hx hb zd_Mod_rule_47 rfl hl (by decide) rfl (fun ls hl => ?_)
    refine lv_aload_n hx hb zd_Mod_rule_48 rfl (lv_at hl 1 rfl) ?_
    refine zg_Mod_s B hP rfl zq_861 zd_Mod_rule_49 ?_
    refine lv_iconst (v := 3) hx hb zd_Mod_rule_52 (by decide) ?_
    refine lv_iload_n hx hb zd_Mod_rule_53 rfl (lv_at hl 2 rfl) ?_
    refine lv_iadd hx hb zd_Mod_rule_54 ?_
    refine lv_iload_n hx hb zd_Mod_rule_55 rfl (lv_at hl 3 rfl) ?_
    obtain ⟨hg13, hf⟩ := zu_gd_e hf
    refine zr_iast rfl B hP hS hf rfl (by decide) rfl hg13 zd_Mod_rule_56 (fun X14 H locs hf hP hS => ?_)
    refine lv_iload_n hx hb zd_Mod_rule_57 rfl (lv_at hl 0 rfl) ?_
    obtain rfl := Option.some.inj hf
    exact zr_iret hx hb hret hlk hP hS zd_Mod_rule_58
  · have hf := zu_t c10 hf
    exact zl_Mod_rule_L32 B hret hlk X _ _ _ hP hS (lv_sub hl [0] rfl) hf
set_option maxHeartbeats 4000000 in
theorem zl_Mod_rule {p : Program} {l : Launch} {e : Env} {s : State} {m : MethodId} {args : Array Value} {below : List Frame} {meth : Method} {c : Code} {D : va_G} {cA : Nat → ClassId} {ad : Nat → Nat} {A : Nat → Prop} (B : zu_B p s m args c zb_Mod_rule 4 "StonePostModel" D cA ad A) (hret : meth.sig.returnType = (some .int)) (hlk : meth.locks = false) {Y : LX} {res : Int32 × IX} {a1 : Int32} {a2 : Int32} {X : IX} (H : Heap) (locs : List Loc) (ls : Array Slot) (hP : va_P D zu_cl (zu_pic cA ad X Y) H) (hS : va_S A s.heap H locs) (hl : lv_has ls 4 [(0, .ref (ad 95)), (1, .int a1), (2, .int a2)]) (hf : fn_Mod_rule a1 a2 X = some res) : W p l e zR_Mod_rule s m args below meth c H locs 0 0 (MQ below (zu_Qi D cA ad A res.1 res.2 Y) args s 0 0 A) (F0 m 0 ls []) := by
  obtain ⟨hx, hb, hml, hown, hts, hST⟩ := id B
  unfold fn_Mod_rule at hf
  refine lv_iload_n hx hb zd_Mod_rule_0 rfl (lv_at hl 1 rfl) ?_
  refine lv_i2l hx hb zd_Mod_rule_1 rfl ?_
  refine lv_lconst (v := 0) hx hb zd_Mod_rule_2 (by decide) ?_
  refine lv_lconst (v := 1) hx hb zd_Mod_rule_3 (by decide) ?_
  obtain ⟨v1, hq2, hf⟩ := zu_b1_e hf
  refine zw_Mod_in (rest := []) B hP hS hq2 zq_939 (Nat.le_of_ble_eq_true rfl) (Nat.le_of_ble_eq_true rfl) hl.1 rfl (Nat.le_of_ble_eq_true rfl) zd_Mod_rule_4 (by decide) (fun H locs hP hS => ?_)
  clear hq2
  refine lv_if_eq (tgt := 32) hx hb zd_Mod_rule_7 (by decide) (fun c3 => ?_) (fun c3 => ?_)
  · have hf := zu_t c3 hf
    exact zl_Mod_rule_L32 B hret hlk X _ _ _ hP hS (lv_sub hl [0] rfl) hf
  · have hf := zu_f c3 hf
    refine lv_iload_n hx hb zd_Mod_rule_10 rfl (lv_at hl 2 rfl) ?_
    refine lv_i2l hx hb zd_Mod_rule_11 rfl ?_
    refine lv_lconst (v := 0) hx hb zd_Mod_rule_12 (by decide) ?_
    refine lv_iload_n hx hb zd_Mod_rule_13 rfl (lv_at hl 1 rfl) ?_
    refine lv_if_ne (tgt := 23) hx hb zd_Mod_rule_14 (by decide) (fun c4 => ?_) (fun c4 => ?_)
    · have hf := zu_f c4 hf
      refine lv_ldc2 (v := 9) hx hb hown (hts _ zq_952) zd_Mod_rule_23 ?_
      exact zl_Mod_rule_L26 B hret hlk a1 a2 (9 : Int64) (0 : Int64) (a2.toInt64) X _ _ _ hP hS (lv_sub hl [0, 1, 2] rfl) hf
    · have hf := zu_t c4 hf
      refine lv_ldc2 (v := 23) hx hb hown (hts _ zq_938) zd_Mod_rule_17 ?_
      refine lv_goto (tgt := 26) hx hb zd_Mod_rule_20 (by decide) ?_
      exact zl_Mod_rule_L26 B hret hlk a1 a2 (23 : Int64) (0 : Int64) (a2.toInt64) X _ _ _ hP hS (lv_sub hl [0, 1, 2] rfl) hf
theorem zC_Mod_rule (l : Launch) {D : va_G} {cA : Nat → ClassId} {ad : Nat → Nat} {A : Nat → Prop} {a1 : Int32} {a2 : Int32} {X : IX} {Y : LX} {res : Int32 × IX} (hf : fn_Mod_rule a1 a2 X = some res) : Met l zm_Mod_rule (zu_ws zm_Mod_rule zb_Mod_rule 4 (some .int)) zR_Mod_rule (va_Pc [.ref (ad 95), .int a1, .int a2] (zu_Pre D cA ad A X Y)) (zu_Qi D cA ad A res.1 res.2 Y) 0 0 A := by
  refine Met.ofW (cc := zb_Mod_rule) (maxL := 4) (ret := (some .int)) (by decide +kernel) rfl ?_
  intro p e s m args below meth c s₁ B0 hml hv
  obtain ⟨rfl, hP, hST⟩ := hv
  have B : zu_B p s m _ c zb_Mod_rule 4 "StonePostModel" D cA ad A := ⟨B0.exec, B0.bytes, hml, findClass_of_methodNamed B0.named, (fun w hw => atoms_spec (ws := zu_ws zm_Mod_rule zb_Mod_rule 4 (some .int)) B0.pre w (List.mem_cons_of_mem _ hw)), hST⟩
  have hl := lv_entry ([.ref (ad 95), .int a1, .int a2]) (n := 4) (Nat.le_of_ble_eq_true rfl)
  rw [lg_entry_eq]
  generalize (lg_sl ([.ref (ad 95), .int a1, .int a2]) ++ List.replicate (4 - (lg_sl ([.ref (ad 95), .int a1, .int a2])).length) Slot.unset).toArray = ls at hl ⊢
  exact zl_Mod_rule B B0.returns B0.notSynchronized s.heap [] ls hP va_S.rf hl  hf
theorem zw_Mod_rule {p : Program} {l : Launch} {e : Env} {R : Room} {s : State} {m : MethodId} {args : Array Value} {below : List Frame} {meth : Method} {c : Code} {H : Heap} {locs : List Loc} {cells slots : Nat} {Q : State → Prop} {cc : ByteArray} {pc nL : Nat} {ls : Array Slot} {rest st0 : List Value} {D : va_G} {cA : Nat → ClassId} {ad : Nat → Nat} {A : Nat → Prop} {X : IX} {Y : LX} {own : String} {index : Nat} {a1 : Int32} {a2 : Int32} {v1 : Int32} {X1 : IX} (B : zu_B p s m args c cc nL own D cA ad A) (hP : va_P D zu_cl (zu_pic cA ad X Y) H) (hS : va_S A s.heap H locs) (hq : fn_Mod_rule a1 a2 X = some (v1, X1)) (m1 : Cond.methodLink own index zm_Mod_rule ∈ zu_TB) (hR1 : 1 + 1 ≤ R.frames) (hR2 : 8 + (4 + 11) + 25 ≤ R.locals) (hsz : ls.size = nL) (hst : st0 = .int a2 :: .int a1 :: .ref (ad 95) :: rest) (hw : (rest.map fun v => v.category).sum ≤ 8) (hdg : decode cc pc = .ok (.invokevirtual index, 3)) (h00 : cells ≤ R.cells ∧ slots ≤ R.slots) (kk : ∀ (H1 : Heap) (locs1 : List Loc), va_P D zu_cl (zu_pic cA ad X1 Y) H1 → va_S A s.heap H1 locs1 → W p l e R s m args below meth c H1 locs1 cells slots Q (F0 m (pc + 3) ls (.int v1 :: rest))) : W p l e R s m args below meth c H locs cells slots Q (F0 m pc ls st0) := by
  subst hst
  exact zr_cVi (As := [.int a1, .int a2]) (rest := rest) (n := 2) (C := "StonePostModel") (T := zt_Mod) (N := 23) B hP hS (zC_Mod_rule l  hq) (K := 7) rfl (by decide) (by decide) rfl rfl m1 zq_949 zq_950 zq_8 zq_951 (by decide +kernel) ⟨hR1, hR2⟩ rfl rfl rfl hsz rfl hw hdg h00 kk
abbrev zR_Mod_at : Room := { frames := 0, cells := 0, slots := 0, locals := 0 }
theorem zd_Mod_at_0 : decode zb_Mod_at 0 = .ok (.bipush 30, 2) := by decide +kernel
theorem zd_Mod_at_2 : decode zb_Mod_at 2 = .ok (.bipush 9, 2) := by decide +kernel
theorem zd_Mod_at_4 : decode zb_Mod_at 4 = .ok (.iload_n 0, 1) := by decide +kernel
theorem zd_Mod_at_5 : decode zb_Mod_at 5 = .ok (.imul, 1) := by decide +kernel
theorem zd_Mod_at_6 : decode zb_Mod_at 6 = .ok (.iadd, 1) := by decide +kernel
theorem zd_Mod_at_7 : decode zb_Mod_at 7 = .ok (.iload_n 1, 1) := by decide +kernel
theorem zd_Mod_at_8 : decode zb_Mod_at 8 = .ok (.iadd, 1) := by decide +kernel
theorem zd_Mod_at_9 : decode zb_Mod_at 9 = .ok (.ireturn, 1) := by decide +kernel
set_option maxHeartbeats 4000000 in
theorem zl_Mod_at {p : Program} {l : Launch} {e : Env} {s : State} {m : MethodId} {args : Array Value} {below : List Frame} {meth : Method} {c : Code} {D : va_G} {cA : Nat → ClassId} {ad : Nat → Nat} {A : Nat → Prop} (B : zu_B p s m args c zb_Mod_at 2 "StonePostModel" D cA ad A) (hret : meth.sig.returnType = (some .int)) (hlk : meth.locks = false) {X : IX} {Y : LX} {res : Int32} {a0 : Int32} {a1 : Int32} (H : Heap) (locs : List Loc) (ls : Array Slot) (hP : va_P D zu_cl (zu_pic cA ad X Y) H) (hS : va_S A s.heap H locs) (hl : lv_has ls 2 [(0, .int a0), (1, .int a1)]) (hf : fn_Mod_at a0 a1 = res) : W p l e zR_Mod_at s m args below meth c H locs 0 0 (MQ below (zu_Qi D cA ad A res X Y) args s 0 0 A) (F0 m 0 ls []) := by
  obtain ⟨hx, hb, hml, hown, hts, hST⟩ := id B
  unfold fn_Mod_at at hf
  refine lv_bipush (v := 30) hx hb zd_Mod_at_0 (by decide) ?_
  refine lv_bipush (v := 9) hx hb zd_Mod_at_2 (by decide) ?_
  refine lv_iload_n hx hb zd_Mod_at_4 rfl (lv_at hl 0 rfl) ?_
  refine lv_imul hx hb zd_Mod_at_5 ?_
  refine lv_iadd hx hb zd_Mod_at_6 ?_
  refine lv_iload_n hx hb zd_Mod_at_7 rfl (lv_at hl 1 rfl) ?_
  refine lv_iadd hx hb zd_Mod_at_8 ?_
  obtain rfl := hf
  exact zr_iret hx hb hret hlk hP hS zd_Mod_at_9
theorem zC_Mod_at (l : Launch) {D : va_G} {cA : Nat → ClassId} {ad : Nat → Nat} {A : Nat → Prop} {a0 : Int32} {a1 : Int32} {X : IX} {Y : LX} {res : Int32} (hf : fn_Mod_at a0 a1 = res) : Met l zm_Mod_at (zu_ws zm_Mod_at zb_Mod_at 2 (some .int)) zR_Mod_at (va_Pc [.int a0, .int a1] (zu_Pre D cA ad A X Y)) (zu_Qi D cA ad A res X Y) 0 0 A := by
  refine Met.ofW (cc := zb_Mod_at) (maxL := 2) (ret := (some .int)) (by decide +kernel) rfl ?_
  intro p e s m args below meth c s₁ B0 hml hv
  obtain ⟨rfl, hP, hST⟩ := hv
  have B : zu_B p s m _ c zb_Mod_at 2 "StonePostModel" D cA ad A := ⟨B0.exec, B0.bytes, hml, findClass_of_methodNamed B0.named, (fun w hw => atoms_spec (ws := zu_ws zm_Mod_at zb_Mod_at 2 (some .int)) B0.pre w (List.mem_cons_of_mem _ hw)), hST⟩
  have hl := lv_entry ([.int a0, .int a1]) (n := 2) (Nat.le_of_ble_eq_true rfl)
  rw [lg_entry_eq]
  generalize (lg_sl ([.int a0, .int a1]) ++ List.replicate (2 - (lg_sl ([.int a0, .int a1])).length) Slot.unset).toArray = ls at hl ⊢
  exact zl_Mod_at B B0.returns B0.notSynchronized s.heap [] ls hP va_S.rf hl  hf
theorem zw_Mod_at {p : Program} {l : Launch} {e : Env} {R : Room} {s : State} {m : MethodId} {args : Array Value} {below : List Frame} {meth : Method} {c : Code} {H : Heap} {locs : List Loc} {cells slots : Nat} {Q : State → Prop} {cc : ByteArray} {pc nL : Nat} {ls : Array Slot} {rest st0 : List Value} {D : va_G} {cA : Nat → ClassId} {ad : Nat → Nat} {A : Nat → Prop} {X : IX} {Y : LX} {own : String} {index : Nat} {a0 : Int32} {a1 : Int32} {v1 : Int32} (B : zu_B p s m args c cc nL own D cA ad A) (hP : va_P D zu_cl (zu_pic cA ad X Y) H) (hS : va_S A s.heap H locs) (hq : fn_Mod_at a0 a1 = v1) (m1 : Cond.methodLink own index zm_Mod_at ∈ zu_TB) (hR1 : 0 + 1 ≤ R.frames) (hR2 : 8 + (2 + 11) + 0 ≤ R.locals) (hsz : ls.size = nL) (hst : st0 = .int a1 :: .int a0 ::  rest) (hw : (rest.map fun v => v.category).sum ≤ 8) (hdg : decode cc pc = .ok (.invokestatic index, 3)) (h00 : cells ≤ R.cells ∧ slots ≤ R.slots) (kk : ∀ (H1 : Heap) (locs1 : List Loc), va_P D zu_cl (zu_pic cA ad X Y) H1 → va_S A s.heap H1 locs1 → W p l e R s m args below meth c H1 locs1 cells slots Q (F0 m (pc + 3) ls (.int v1 :: rest))) : W p l e R s m args below meth c H locs cells slots Q (F0 m pc ls st0) := by
  subst hst
  exact zr_cSi (As := [.int a0, .int a1]) (rest := rest) (n := 2) B hP hS (zC_Mod_at l  hq) m1 zq_967 zq_8 zq_968 (by decide +kernel) ⟨hR1, hR2⟩ rfl rfl rfl hsz rfl hw hdg h00 kk
abbrev zR_Mod_its : Room := { frames := 1, cells := 0, slots := 0, locals := 21 }
theorem zd_Mod_its_0 : decode zb_Mod_its 0 = .ok (.aload_n 0, 1) := by decide +kernel
theorem zd_Mod_its_1 : decode zb_Mod_its 1 = .ok (.getfield 7, 3) := by decide +kernel
theorem zd_Mod_its_4 : decode zb_Mod_its 4 = .ok (.iload_n 1, 1) := by decide +kernel
theorem zd_Mod_its_5 : decode zb_Mod_its 5 = .ok (.iload_n 2, 1) := by decide +kernel
theorem zd_Mod_its_6 : decode zb_Mod_its 6 = .ok (.invokestatic 70, 3) := by decide +kernel
theorem zd_Mod_its_9 : decode zb_Mod_its 9 = .ok (.iaload, 1) := by decide +kernel
theorem zd_Mod_its_10 : decode zb_Mod_its 10 = .ok (.ireturn, 1) := by decide +kernel
set_option maxHeartbeats 4000000 in
theorem zl_Mod_its {p : Program} {l : Launch} {e : Env} {s : State} {m : MethodId} {args : Array Value} {below : List Frame} {meth : Method} {c : Code} {D : va_G} {cA : Nat → ClassId} {ad : Nat → Nat} {A : Nat → Prop} (B : zu_B p s m args c zb_Mod_its 3 "StonePostModel" D cA ad A) (hret : meth.sig.returnType = (some .int)) (hlk : meth.locks = false) {X : IX} {Y : LX} {res : Int32} {a1 : Int32} {a2 : Int32} (H : Heap) (locs : List Loc) (ls : Array Slot) (hP : va_P D zu_cl (zu_pic cA ad X Y) H) (hS : va_S A s.heap H locs) (hl : lv_has ls 3 [(0, .ref (ad 95)), (1, .int a1), (2, .int a2)]) (hf : fn_Mod_its X a1 a2 = some res) : W p l e zR_Mod_its s m args below meth c H locs 0 0 (MQ below (zu_Qi D cA ad A res X Y) args s 0 0 A) (F0 m 0 ls []) := by
  obtain ⟨hx, hb, hml, hown, hts, hST⟩ := id B
  unfold fn_Mod_its at hf
  refine lv_aload_n hx hb zd_Mod_its_0 rfl (lv_at hl 0 rfl) ?_
  refine zg_Mod_s B hP rfl zq_861 zd_Mod_its_1 ?_
  refine lv_iload_n hx hb zd_Mod_its_4 rfl (lv_at hl 1 rfl) ?_
  refine lv_iload_n hx hb zd_Mod_its_5 rfl (lv_at hl 2 rfl) ?_
  obtain ⟨v1, ehq2, hf⟩ := zu_nx_e hf
  have hq2 := ehq2.symm
  refine zw_Mod_at (rest := [.ref (ad 96)]) B hP hS hq2 zq_966 (Nat.le_of_ble_eq_true rfl) (Nat.le_of_ble_eq_true rfl) hl.1 rfl (Nat.le_of_ble_eq_true rfl) zd_Mod_its_6 (by decide) (fun H locs hP hS => ?_)
  clear hq2 ehq2
  obtain ⟨hg3, hf⟩ := zu_gd_e hf
  refine zr_iald rfl B hP rfl (by decide) rfl hg3 zd_Mod_its_9 ?_
  obtain rfl := Option.some.inj hf
  exact zr_iret hx hb hret hlk hP hS zd_Mod_its_10
theorem zC_Mod_its (l : Launch) {D : va_G} {cA : Nat → ClassId} {ad : Nat → Nat} {A : Nat → Prop} {a1 : Int32} {a2 : Int32} {X : IX} {Y : LX} {res : Int32} (hf : fn_Mod_its X a1 a2 = some res) : Met l zm_Mod_its (zu_ws zm_Mod_its zb_Mod_its 3 (some .int)) zR_Mod_its (va_Pc [.ref (ad 95), .int a1, .int a2] (zu_Pre D cA ad A X Y)) (zu_Qi D cA ad A res X Y) 0 0 A := by
  refine Met.ofW (cc := zb_Mod_its) (maxL := 3) (ret := (some .int)) (by decide +kernel) rfl ?_
  intro p e s m args below meth c s₁ B0 hml hv
  obtain ⟨rfl, hP, hST⟩ := hv
  have B : zu_B p s m _ c zb_Mod_its 3 "StonePostModel" D cA ad A := ⟨B0.exec, B0.bytes, hml, findClass_of_methodNamed B0.named, (fun w hw => atoms_spec (ws := zu_ws zm_Mod_its zb_Mod_its 3 (some .int)) B0.pre w (List.mem_cons_of_mem _ hw)), hST⟩
  have hl := lv_entry ([.ref (ad 95), .int a1, .int a2]) (n := 3) (Nat.le_of_ble_eq_true rfl)
  rw [lg_entry_eq]
  generalize (lg_sl ([.ref (ad 95), .int a1, .int a2]) ++ List.replicate (3 - (lg_sl ([.ref (ad 95), .int a1, .int a2])).length) Slot.unset).toArray = ls at hl ⊢
  exact zl_Mod_its B B0.returns B0.notSynchronized s.heap [] ls hP va_S.rf hl  hf
theorem zw_Mod_its {p : Program} {l : Launch} {e : Env} {R : Room} {s : State} {m : MethodId} {args : Array Value} {below : List Frame} {meth : Method} {c : Code} {H : Heap} {locs : List Loc} {cells slots : Nat} {Q : State → Prop} {cc : ByteArray} {pc nL : Nat} {ls : Array Slot} {rest st0 : List Value} {D : va_G} {cA : Nat → ClassId} {ad : Nat → Nat} {A : Nat → Prop} {X : IX} {Y : LX} {own : String} {index : Nat} {a1 : Int32} {a2 : Int32} {v1 : Int32} (B : zu_B p s m args c cc nL own D cA ad A) (hP : va_P D zu_cl (zu_pic cA ad X Y) H) (hS : va_S A s.heap H locs) (hq : fn_Mod_its X a1 a2 = some v1) (m1 : Cond.methodLink own index zm_Mod_its ∈ zu_TB) (hR1 : 1 + 1 ≤ R.frames) (hR2 : 8 + (3 + 11) + 21 ≤ R.locals) (hsz : ls.size = nL) (hst : st0 = .int a2 :: .int a1 :: .ref (ad 95) :: rest) (hw : (rest.map fun v => v.category).sum ≤ 8) (hdg : decode cc pc = .ok (.invokevirtual index, 3)) (h00 : cells ≤ R.cells ∧ slots ≤ R.slots) (kk : ∀ (H1 : Heap) (locs1 : List Loc), va_P D zu_cl (zu_pic cA ad X Y) H1 → va_S A s.heap H1 locs1 → W p l e R s m args below meth c H1 locs1 cells slots Q (F0 m (pc + 3) ls (.int v1 :: rest))) : W p l e R s m args below meth c H locs cells slots Q (F0 m pc ls st0) := by
  subst hst
  exact zr_cVi (As := [.int a1, .int a2]) (rest := rest) (n := 2) (C := "StonePostModel") (T := zt_Mod) (N := 23) B hP hS (zC_Mod_its l  hq) (K := 7) rfl (by decide) (by decide) rfl rfl m1 zq_964 zqP_22 zq_8 zq_965 (by decide +kernel) ⟨hR1, hR2⟩ rfl rfl rfl hsz rfl hw hdg h00 kk
abbrev zR_Mod_standing : Room := { frames := 2, cells := 0, slots := 0, locals := 43 }
theorem zd_Mod_standing_0 : decode zb_Mod_standing 0 = .ok (.iconst (-1), 1) := by decide +kernel
theorem zd_Mod_standing_1 : decode zb_Mod_standing 1 = .ok (.istore_n 2, 1) := by decide +kernel
theorem zd_Mod_standing_2 : decode zb_Mod_standing 2 = .ok (.iconst 0, 1) := by decide +kernel
theorem zd_Mod_standing_3 : decode zb_Mod_standing 3 = .ok (.istore_n 3, 1) := by decide +kernel
theorem zd_Mod_standing_4 : decode zb_Mod_standing 4 = .ok (.iload_n 3, 1) := by decide +kernel
theorem zd_Mod_standing_5 : decode zb_Mod_standing 5 = .ok (.aload_n 0, 1) := by decide +kernel
theorem zd_Mod_standing_6 : decode zb_Mod_standing 6 = .ok (.getfield 7, 3) := by decide +kernel
theorem zd_Mod_standing_9 : decode zb_Mod_standing 9 = .ok (.iconst 1, 1) := by decide +kernel
theorem zd_Mod_standing_10 : decode zb_Mod_standing 10 = .ok (.iaload, 1) := by decide +kernel
theorem zd_Mod_standing_11 : decode zb_Mod_standing 11 = .ok (.if_icmp .ge 25, 3) := by decide +kernel
theorem zd_Mod_standing_14 : decode zb_Mod_standing 14 = .ok (.aload_n 0, 1) := by decide +kernel
theorem zd_Mod_standing_15 : decode zb_Mod_standing 15 = .ok (.iload_n 3, 1) := by decide +kernel
theorem zd_Mod_standing_16 : decode zb_Mod_standing 16 = .ok (.iconst 1, 1) := by decide +kernel
theorem zd_Mod_standing_17 : decode zb_Mod_standing 17 = .ok (.invokevirtual 74, 3) := by decide +kernel
theorem zd_Mod_standing_20 : decode zb_Mod_standing 20 = .ok (.iload_n 1, 1) := by decide +kernel
theorem zd_Mod_standing_21 : decode zb_Mod_standing 21 = .ok (.if_icmp .ne 7, 3) := by decide +kernel
theorem zd_Mod_standing_24 : decode zb_Mod_standing 24 = .ok (.iload_n 3, 1) := by decide +kernel
theorem zd_Mod_standing_25 : decode zb_Mod_standing 25 = .ok (.goto 4, 3) := by decide +kernel
theorem zd_Mod_standing_28 : decode zb_Mod_standing 28 = .ok (.iload_n 2, 1) := by decide +kernel
theorem zd_Mod_standing_29 : decode zb_Mod_standing 29 = .ok (.istore_n 2, 1) := by decide +kernel
theorem zd_Mod_standing_30 : decode zb_Mod_standing 30 = .ok (.iinc 3 1, 3) := by decide +kernel
theorem zd_Mod_standing_33 : decode zb_Mod_standing 33 = .ok (.goto (-29), 3) := by decide +kernel
theorem zd_Mod_standing_36 : decode zb_Mod_standing 36 = .ok (.iload_n 2, 1) := by decide +kernel
theorem zd_Mod_standing_37 : decode zb_Mod_standing 37 = .ok (.ireturn, 1) := by decide +kernel
set_option maxHeartbeats 4000000 in
theorem zl_Mod_standing_L29 {p : Program} {l : Launch} {e : Env} {s : State} {m : MethodId} {args : Array Value} {below : List Frame} {meth : Method} {c : Code} {D : va_G} {cA : Nat → ClassId} {ad : Nat → Nat} {A : Nat → Prop} (B : zu_B p s m args c zb_Mod_standing 4 "StonePostModel" D cA ad A) (hret : meth.sig.returnType = (some .int)) (hlk : meth.locks = false) {X : IX} {Y : LX} {res : Int32} {k4 : Int32 → Int32 → Int32 → Option Int32} (hk4 : ∀ (x1 : Int32) (x2 : Int32) (x3 : Int32) (H : Heap) (locs : List Loc) (ls : Array Slot), va_P D zu_cl (zu_pic cA ad X Y) H → va_S A s.heap H locs → lv_has ls 4 [(0, .ref (ad 95)), (1, .int x1), (2, .int x2), (3, .int x3)] → k4 x1 x2 x3 = some res → W p l e zR_Mod_standing s m args below meth c H locs 0 0 (MQ below (zu_Qi D cA ad A res X Y) args s 0 0 A) (F0 m 4 ls [])) (x1 : Int32) (x3 : Int32) (y0 : Int32) (H : Heap) (locs : List Loc) (ls : Array Slot) (hP : va_P D zu_cl (zu_pic cA ad X Y) H) (hS : va_S A s.heap H locs) (hl : lv_has ls 4 [(0, .ref (ad 95)), (1, .int x1), (3, .int x3)]) (hf : fn_Mod_standing_L29 X k4 x1 x3 y0 = some res) : W p l e zR_Mod_standing s m args below meth c H locs 0 0 (MQ below (zu_Qi D cA ad A res X Y) args s 0 0 A) (F0 m 29 ls [.int y0]) := by
  obtain ⟨hx, hb, hml, hown, hts, hST⟩ := id B
  unfold fn_Mod_standing_L29 at hf
  refine lv_istore_n (lv' := [(2, .int y0), (0, .ref (ad 95)), (1, .int x1), (3, .int x3)]) hx hb zd_Mod_standing_29 rfl hl (by decide) rfl (fun ls hl => ?_)
  obtain ⟨v5, ev5, hf⟩ := zu_nx_e hf
  refine lv_iinc (v := v5) (lv' := [(3, .int v5), (2, .int y0), (0, .ref (ad 95)), (1, .int x1)]) hx hb zd_Mod_standing_30 hl (k := 3) rfl (by rw [ev5]; rfl) (by decide) rfl (fun ls hl => ?_)
  clear ev5
  refine lv_goto (tgt := 4) hx hb zd_Mod_standing_33 (by decide) ?_
  exact hk4 x1 y0 v5 _ _ _ hP hS (lv_sub hl [2, 3, 1, 0] rfl) hf
set_option maxHeartbeats 4000000 in
theorem zl_Mod_standing_B4 {p : Program} {l : Launch} {e : Env} {s : State} {m : MethodId} {args : Array Value} {below : List Frame} {meth : Method} {c : Code} {D : va_G} {cA : Nat → ClassId} {ad : Nat → Nat} {A : Nat → Prop} (B : zu_B p s m args c zb_Mod_standing 4 "StonePostModel" D cA ad A) (hret : meth.sig.returnType = (some .int)) (hlk : meth.locks = false) {X : IX} {Y : LX} {res : Int32} {k4 : Int32 → Int32 → Int32 → Option Int32} (hk4 : ∀ (x1 : Int32) (x2 : Int32) (x3 : Int32) (H : Heap) (locs : List Loc) (ls : Array Slot), va_P D zu_cl (zu_pic cA ad X Y) H → va_S A s.heap H locs → lv_has ls 4 [(0, .ref (ad 95)), (1, .int x1), (2, .int x2), (3, .int x3)] → k4 x1 x2 x3 = some res → W p l e zR_Mod_standing s m args below meth c H locs 0 0 (MQ below (zu_Qi D cA ad A res X Y) args s 0 0 A) (F0 m 4 ls [])) (x1 : Int32) (x2 : Int32) (x3 : Int32) (H : Heap) (locs : List Loc) (ls : Array Slot) (hP : va_P D zu_cl (zu_pic cA ad X Y) H) (hS : va_S A s.heap H locs) (hl : lv_has ls 4 [(0, .ref (ad 95)), (1, .int x1), (2, .int x2), (3, .int x3)]) (hf : fn_Mod_standing_B4 X k4 x1 x2 x3 = some res) : W p l e zR_Mod_standing s m args below meth c H locs 0 0 (MQ below (zu_Qi D cA ad A res X Y) args s 0 0 A) (F0 m 4 ls []) := by
  obtain ⟨hx, hb, hml, hown, hts, hST⟩ := id B
  unfold fn_Mod_standing_B4 at hf
  refine lv_iload_n hx hb zd_Mod_standing_4 rfl (lv_at hl 3 rfl) ?_
  refine lv_aload_n hx hb zd_Mod_standing_5 rfl (lv_at hl 0 rfl) ?_
  refine zg_Mod_s B hP rfl zq_861 zd_Mod_standing_6 ?_
  refine lv_iconst (v := 1) hx hb zd_Mod_standing_9 (by decide) ?_
  refine zr_iald (j := 1) (by decide) B hP rfl (by decide) rfl (by decide) zd_Mod_standing_10 ?_
  refine lv_icmp_ge (tgt := 36) hx hb zd_Mod_standing_11 (by decide) (fun c1 => ?_) (fun c1 => ?_)
  · have hf := zu_t c1 hf
    refine lv_iload_n hx hb zd_Mod_standing_36 rfl (lv_at hl 2 rfl) ?_
    obtain rfl := Option.some.inj hf
    exact zr_iret hx hb hret hlk hP hS zd_Mod_standing_37
  · have hf := zu_f c1 hf
    refine lv_aload_n hx hb zd_Mod_standing_14 rfl (lv_at hl 0 rfl) ?_
    refine lv_iload_n hx hb zd_Mod_standing_15 rfl (lv_at hl 3 rfl) ?_
    refine lv_iconst (v := 1) hx hb zd_Mod_standing_16 (by decide) ?_
    obtain ⟨v2, hq3, hf⟩ := zu_b1_e hf
    refine zw_Mod_its (rest := []) B hP hS hq3 zq_962 (Nat.le_of_ble_eq_true rfl) (Nat.le_of_ble_eq_true rfl) hl.1 rfl (Nat.le_of_ble_eq_true rfl) zd_Mod_standing_17 (by decide) (fun H locs hP hS => ?_)
    clear hq3
    refine lv_iload_n hx hb zd_Mod_standing_20 rfl (lv_at hl 1 rfl) ?_
    refine lv_icmp_ne (tgt := 28) hx hb zd_Mod_standing_21 (by decide) (fun c4 => ?_) (fun c4 => ?_)
    · have hf := zu_f c4 hf
      refine lv_iload_n hx hb zd_Mod_standing_28 rfl (lv_at hl 2 rfl) ?_
      exact zl_Mod_standing_L29 B hret hlk hk4 x1 x3 x2 _ _ _ hP hS (lv_sub hl [0, 1, 3] rfl) hf
    · have hf := zu_t c4 hf
      refine lv_iload_n hx hb zd_Mod_standing_24 rfl (lv_at hl 3 rfl) ?_
      refine lv_goto (tgt := 29) hx hb zd_Mod_standing_25 (by decide) ?_
      exact zl_Mod_standing_L29 B hret hlk hk4 x1 x3 x3 _ _ _ hP hS (lv_sub hl [0, 1, 3] rfl) hf
theorem zl_Mod_standing_L4 {p : Program} {l : Launch} {e : Env} {s : State} {m : MethodId} {args : Array Value} {below : List Frame} {meth : Method} {c : Code} {D : va_G} {cA : Nat → ClassId} {ad : Nat → Nat} {A : Nat → Prop} (B : zu_B p s m args c zb_Mod_standing 4 "StonePostModel" D cA ad A) (hret : meth.sig.returnType = (some .int)) (hlk : meth.locks = false) {X : IX} {Y : LX} {res : Int32} : ∀ (n : Nat) (x1 : Int32) (x2 : Int32) (x3 : Int32) (H : Heap) (locs : List Loc) (ls : Array Slot), va_P D zu_cl (zu_pic cA ad X Y) H → va_S A s.heap H locs → lv_has ls 4 [(0, .ref (ad 95)), (1, .int x1), (2, .int x2), (3, .int x3)] → fn_Mod_standing_L4 X n x1 x2 x3 = some res → W p l e zR_Mod_standing s m args below meth c H locs 0 0 (MQ below (zu_Qi D cA ad A res X Y) args s 0 0 A) (F0 m 4 ls []) := by
  intro n
  induction n with
  | zero =>
    intro x1 x2 x3 H locs ls hP hS hl hf
    exact (Option.some_ne_none _ hf.symm).elim
  | succ n ih =>
    intro x1 x2 x3 H locs ls hP hS hl hf
    exact zl_Mod_standing_B4 B hret hlk ih x1 x2 x3 H locs ls hP hS hl  hf
set_option maxHeartbeats 4000000 in
theorem zl_Mod_standing {p : Program} {l : Launch} {e : Env} {s : State} {m : MethodId} {args : Array Value} {below : List Frame} {meth : Method} {c : Code} {D : va_G} {cA : Nat → ClassId} {ad : Nat → Nat} {A : Nat → Prop} (B : zu_B p s m args c zb_Mod_standing 4 "StonePostModel" D cA ad A) (hret : meth.sig.returnType = (some .int)) (hlk : meth.locks = false) {X : IX} {Y : LX} {res : Int32} {a1 : Int32} (H : Heap) (locs : List Loc) (ls : Array Slot) (hP : va_P D zu_cl (zu_pic cA ad X Y) H) (hS : va_S A s.heap H locs) (hl : lv_has ls 4 [(0, .ref (ad 95)), (1, .int a1)]) (hf : fn_Mod_standing X a1 = some res) : W p l e zR_Mod_standing s m args below meth c H locs 0 0 (MQ below (zu_Qi D cA ad A res X Y) args s 0 0 A) (F0 m 0 ls []) := by
  obtain ⟨hx, hb, hml, hown, hts, hST⟩ := id B
  unfold fn_Mod_standing at hf
  refine lv_iconst (v := -1) hx hb zd_Mod_standing_0 (by decide) ?_
  refine lv_istore_n (lv' := [(2, .int (-1 : Int32)), (0, .ref (ad 95)), (1, .int a1)]) hx hb zd_Mod_standing_1 rfl hl (by decide) rfl (fun ls hl => ?_)
  refine lv_iconst (v := 0) hx hb zd_Mod_standing_2 (by decide) ?_
  refine lv_istore_n (lv' := [(3, .int (0 : Int32)), (2, .int (-1 : Int32)), (0, .ref (ad 95)), (1, .int a1)]) hx hb zd_Mod_standing_3 rfl hl (by decide) rfl (fun ls hl => ?_)
  exact zl_Mod_standing_L4 B hret hlk 400 a1 (-1 : Int32) (0 : Int32) _ _ _ hP hS (lv_sub hl [2, 3, 1, 0] rfl) hf
theorem zC_Mod_standing (l : Launch) {D : va_G} {cA : Nat → ClassId} {ad : Nat → Nat} {A : Nat → Prop} {a1 : Int32} {X : IX} {Y : LX} {res : Int32} (hf : fn_Mod_standing X a1 = some res) : Met l zm_Mod_standing (zu_ws zm_Mod_standing zb_Mod_standing 4 (some .int)) zR_Mod_standing (va_Pc [.ref (ad 95), .int a1] (zu_Pre D cA ad A X Y)) (zu_Qi D cA ad A res X Y) 0 0 A := by
  refine Met.ofW (cc := zb_Mod_standing) (maxL := 4) (ret := (some .int)) (by decide +kernel) rfl ?_
  intro p e s m args below meth c s₁ B0 hml hv
  obtain ⟨rfl, hP, hST⟩ := hv
  have B : zu_B p s m _ c zb_Mod_standing 4 "StonePostModel" D cA ad A := ⟨B0.exec, B0.bytes, hml, findClass_of_methodNamed B0.named, (fun w hw => atoms_spec (ws := zu_ws zm_Mod_standing zb_Mod_standing 4 (some .int)) B0.pre w (List.mem_cons_of_mem _ hw)), hST⟩
  have hl := lv_entry ([.ref (ad 95), .int a1]) (n := 4) (Nat.le_of_ble_eq_true rfl)
  rw [lg_entry_eq]
  generalize (lg_sl ([.ref (ad 95), .int a1]) ++ List.replicate (4 - (lg_sl ([.ref (ad 95), .int a1])).length) Slot.unset).toArray = ls at hl ⊢
  exact zl_Mod_standing B B0.returns B0.notSynchronized s.heap [] ls hP va_S.rf hl  hf
theorem zw_Mod_standing {p : Program} {l : Launch} {e : Env} {R : Room} {s : State} {m : MethodId} {args : Array Value} {below : List Frame} {meth : Method} {c : Code} {H : Heap} {locs : List Loc} {cells slots : Nat} {Q : State → Prop} {cc : ByteArray} {pc nL : Nat} {ls : Array Slot} {rest st0 : List Value} {D : va_G} {cA : Nat → ClassId} {ad : Nat → Nat} {A : Nat → Prop} {X : IX} {Y : LX} {own : String} {index : Nat} {a1 : Int32} {v1 : Int32} (B : zu_B p s m args c cc nL own D cA ad A) (hP : va_P D zu_cl (zu_pic cA ad X Y) H) (hS : va_S A s.heap H locs) (hq : fn_Mod_standing X a1 = some v1) (m1 : Cond.methodLink own index zm_Mod_standing ∈ zu_TB) (hR1 : 2 + 1 ≤ R.frames) (hR2 : 8 + (4 + 11) + 43 ≤ R.locals) (hsz : ls.size = nL) (hst : st0 = .int a1 :: .ref (ad 95) :: rest) (hw : (rest.map fun v => v.category).sum ≤ 8) (hdg : decode cc pc = .ok (.invokevirtual index, 3)) (h00 : cells ≤ R.cells ∧ slots ≤ R.slots) (kk : ∀ (H1 : Heap) (locs1 : List Loc), va_P D zu_cl (zu_pic cA ad X Y) H1 → va_S A s.heap H1 locs1 → W p l e R s m args below meth c H1 locs1 cells slots Q (F0 m (pc + 3) ls (.int v1 :: rest))) : W p l e R s m args below meth c H locs cells slots Q (F0 m pc ls st0) := by
  subst hst
  exact zr_cVi (As := [.int a1]) (rest := rest) (n := 1) (C := "StonePostModel") (T := zt_Mod) (N := 23) B hP hS (zC_Mod_standing l  hq) (K := 7) rfl (by decide) (by decide) rfl rfl m1 zq_960 zqP_21 zq_8 zq_961 (by decide +kernel) ⟨hR1, hR2⟩ rfl rfl rfl hsz rfl hw hdg h00 kk
abbrev zR_Mod_newThrower : Room := { frames := 1, cells := 0, slots := 0, locals := 21 }
theorem zd_Mod_newThrower_0 : decode zb_Mod_newThrower 0 = .ok (.aload_n 0, 1) := by decide +kernel
theorem zd_Mod_newThrower_1 : decode zb_Mod_newThrower 1 = .ok (.getfield 7, 3) := by decide +kernel
theorem zd_Mod_newThrower_4 : decode zb_Mod_newThrower 4 = .ok (.iconst 1, 1) := by decide +kernel
theorem zd_Mod_newThrower_5 : decode zb_Mod_newThrower 5 = .ok (.iaload, 1) := by decide +kernel
theorem zd_Mod_newThrower_6 : decode zb_Mod_newThrower 6 = .ok (.istore_n 3, 1) := by decide +kernel
theorem zd_Mod_newThrower_7 : decode zb_Mod_newThrower 7 = .ok (.aload_n 0, 1) := by decide +kernel
theorem zd_Mod_newThrower_8 : decode zb_Mod_newThrower 8 = .ok (.getfield 7, 3) := by decide +kernel
theorem zd_Mod_newThrower_11 : decode zb_Mod_newThrower 11 = .ok (.iload_n 3, 1) := by decide +kernel
theorem zd_Mod_newThrower_12 : decode zb_Mod_newThrower 12 = .ok (.iconst 0, 1) := by decide +kernel
theorem zd_Mod_newThrower_13 : decode zb_Mod_newThrower 13 = .ok (.invokestatic 70, 3) := by decide +kernel
theorem zd_Mod_newThrower_16 : decode zb_Mod_newThrower 16 = .ok (.iload_n 1, 1) := by decide +kernel
theorem zd_Mod_newThrower_17 : decode zb_Mod_newThrower 17 = .ok (.iastore, 1) := by decide +kernel
theorem zd_Mod_newThrower_18 : decode zb_Mod_newThrower 18 = .ok (.aload_n 0, 1) := by decide +kernel
theorem zd_Mod_newThrower_19 : decode zb_Mod_newThrower 19 = .ok (.getfield 7, 3) := by decide +kernel
theorem zd_Mod_newThrower_22 : decode zb_Mod_newThrower 22 = .ok (.iload_n 3, 1) := by decide +kernel
theorem zd_Mod_newThrower_23 : decode zb_Mod_newThrower 23 = .ok (.iconst 1, 1) := by decide +kernel
theorem zd_Mod_newThrower_24 : decode zb_Mod_newThrower 24 = .ok (.invokestatic 70, 3) := by decide +kernel
theorem zd_Mod_newThrower_27 : decode zb_Mod_newThrower 27 = .ok (.iload_n 2, 1) := by decide +kernel
theorem zd_Mod_newThrower_28 : decode zb_Mod_newThrower 28 = .ok (.iastore, 1) := by decide +kernel
theorem zd_Mod_newThrower_29 : decode zb_Mod_newThrower 29 = .ok (.aload_n 0, 1) := by decide +kernel
theorem zd_Mod_newThrower_30 : decode zb_Mod_newThrower 30 = .ok (.getfield 7, 3) := by decide +kernel
theorem zd_Mod_newThrower_33 : decode zb_Mod_newThrower 33 = .ok (.iload_n 3, 1) := by decide +kernel
theorem zd_Mod_newThrower_34 : decode zb_Mod_newThrower 34 = .ok (.iconst 2, 1) := by decide +kernel
theorem zd_Mod_newThrower_35 : decode zb_Mod_newThrower 35 = .ok (.invokestatic 70, 3) := by decide +kernel
theorem zd_Mod_newThrower_38 : decode zb_Mod_newThrower 38 = .ok (.iconst 2, 1) := by decide +kernel
theorem zd_Mod_newThrower_39 : decode zb_Mod_newThrower 39 = .ok (.iastore, 1) := by decide +kernel
theorem zd_Mod_newThrower_40 : decode zb_Mod_newThrower 40 = .ok (.aload_n 0, 1) := by decide +kernel
theorem zd_Mod_newThrower_41 : decode zb_Mod_newThrower 41 = .ok (.getfield 7, 3) := by decide +kernel
theorem zd_Mod_newThrower_44 : decode zb_Mod_newThrower 44 = .ok (.iload_n 3, 1) := by decide +kernel
theorem zd_Mod_newThrower_45 : decode zb_Mod_newThrower 45 = .ok (.iconst 3, 1) := by decide +kernel
theorem zd_Mod_newThrower_46 : decode zb_Mod_newThrower 46 = .ok (.invokestatic 70, 3) := by decide +kernel
theorem zd_Mod_newThrower_49 : decode zb_Mod_newThrower 49 = .ok (.iconst 5, 1) := by decide +kernel
theorem zd_Mod_newThrower_50 : decode zb_Mod_newThrower 50 = .ok (.iastore, 1) := by decide +kernel
theorem zd_Mod_newThrower_51 : decode zb_Mod_newThrower 51 = .ok (.aload_n 0, 1) := by decide +kernel
theorem zd_Mod_newThrower_52 : decode zb_Mod_newThrower 52 = .ok (.getfield 7, 3) := by decide +kernel
theorem zd_Mod_newThrower_55 : decode zb_Mod_newThrower 55 = .ok (.iload_n 3, 1) := by decide +kernel
theorem zd_Mod_newThrower_56 : decode zb_Mod_newThrower 56 = .ok (.iconst 4, 1) := by decide +kernel
theorem zd_Mod_newThrower_57 : decode zb_Mod_newThrower 57 = .ok (.invokestatic 70, 3) := by decide +kernel
theorem zd_Mod_newThrower_60 : decode zb_Mod_newThrower 60 = .ok (.iconst 1, 1) := by decide +kernel
theorem zd_Mod_newThrower_61 : decode zb_Mod_newThrower 61 = .ok (.iastore, 1) := by decide +kernel
theorem zd_Mod_newThrower_62 : decode zb_Mod_newThrower 62 = .ok (.aload_n 0, 1) := by decide +kernel
theorem zd_Mod_newThrower_63 : decode zb_Mod_newThrower 63 = .ok (.getfield 7, 3) := by decide +kernel
theorem zd_Mod_newThrower_66 : decode zb_Mod_newThrower 66 = .ok (.iload_n 3, 1) := by decide +kernel
theorem zd_Mod_newThrower_67 : decode zb_Mod_newThrower 67 = .ok (.iconst 5, 1) := by decide +kernel
theorem zd_Mod_newThrower_68 : decode zb_Mod_newThrower 68 = .ok (.invokestatic 70, 3) := by decide +kernel
theorem zd_Mod_newThrower_71 : decode zb_Mod_newThrower 71 = .ok (.bipush 8, 2) := by decide +kernel
theorem zd_Mod_newThrower_73 : decode zb_Mod_newThrower 73 = .ok (.iastore, 1) := by decide +kernel
theorem zd_Mod_newThrower_74 : decode zb_Mod_newThrower 74 = .ok (.aload_n 0, 1) := by decide +kernel
theorem zd_Mod_newThrower_75 : decode zb_Mod_newThrower 75 = .ok (.getfield 7, 3) := by decide +kernel
theorem zd_Mod_newThrower_78 : decode zb_Mod_newThrower 78 = .ok (.iload_n 3, 1) := by decide +kernel
theorem zd_Mod_newThrower_79 : decode zb_Mod_newThrower 79 = .ok (.bipush 6, 2) := by decide +kernel
theorem zd_Mod_newThrower_81 : decode zb_Mod_newThrower 81 = .ok (.invokestatic 70, 3) := by decide +kernel
theorem zd_Mod_newThrower_84 : decode zb_Mod_newThrower 84 = .ok (.iconst 0, 1) := by decide +kernel
theorem zd_Mod_newThrower_85 : decode zb_Mod_newThrower 85 = .ok (.iastore, 1) := by decide +kernel
theorem zd_Mod_newThrower_86 : decode zb_Mod_newThrower 86 = .ok (.aload_n 0, 1) := by decide +kernel
theorem zd_Mod_newThrower_87 : decode zb_Mod_newThrower 87 = .ok (.getfield 7, 3) := by decide +kernel
theorem zd_Mod_newThrower_90 : decode zb_Mod_newThrower 90 = .ok (.iload_n 3, 1) := by decide +kernel
theorem zd_Mod_newThrower_91 : decode zb_Mod_newThrower 91 = .ok (.bipush 7, 2) := by decide +kernel
theorem zd_Mod_newThrower_93 : decode zb_Mod_newThrower 93 = .ok (.invokestatic 70, 3) := by decide +kernel
theorem zd_Mod_newThrower_96 : decode zb_Mod_newThrower 96 = .ok (.iconst 0, 1) := by decide +kernel
theorem zd_Mod_newThrower_97 : decode zb_Mod_newThrower 97 = .ok (.iastore, 1) := by decide +kernel
theorem zd_Mod_newThrower_98 : decode zb_Mod_newThrower 98 = .ok (.aload_n 0, 1) := by decide +kernel
theorem zd_Mod_newThrower_99 : decode zb_Mod_newThrower 99 = .ok (.getfield 7, 3) := by decide +kernel
theorem zd_Mod_newThrower_102 : decode zb_Mod_newThrower 102 = .ok (.iload_n 3, 1) := by decide +kernel
theorem zd_Mod_newThrower_103 : decode zb_Mod_newThrower 103 = .ok (.bipush 8, 2) := by decide +kernel
theorem zd_Mod_newThrower_105 : decode zb_Mod_newThrower 105 = .ok (.invokestatic 70, 3) := by decide +kernel
theorem zd_Mod_newThrower_108 : decode zb_Mod_newThrower 108 = .ok (.iconst 0, 1) := by decide +kernel
theorem zd_Mod_newThrower_109 : decode zb_Mod_newThrower 109 = .ok (.iastore, 1) := by decide +kernel
theorem zd_Mod_newThrower_110 : decode zb_Mod_newThrower 110 = .ok (.aload_n 0, 1) := by decide +kernel
theorem zd_Mod_newThrower_111 : decode zb_Mod_newThrower 111 = .ok (.getfield 7, 3) := by decide +kernel
theorem zd_Mod_newThrower_114 : decode zb_Mod_newThrower 114 = .ok (.iconst 1, 1) := by decide +kernel
theorem zd_Mod_newThrower_115 : decode zb_Mod_newThrower 115 = .ok (.dup2, 1) := by decide +kernel
theorem zd_Mod_newThrower_116 : decode zb_Mod_newThrower 116 = .ok (.iaload, 1) := by decide +kernel
theorem zd_Mod_newThrower_117 : decode zb_Mod_newThrower 117 = .ok (.iconst 1, 1) := by decide +kernel
theorem zd_Mod_newThrower_118 : decode zb_Mod_newThrower 118 = .ok (.iadd, 1) := by decide +kernel
theorem zd_Mod_newThrower_119 : decode zb_Mod_newThrower 119 = .ok (.iastore, 1) := by decide +kernel
theorem zd_Mod_newThrower_120 : decode zb_Mod_newThrower 120 = .ok (.iload_n 3, 1) := by decide +kernel
theorem zd_Mod_newThrower_121 : decode zb_Mod_newThrower 121 = .ok (.ireturn, 1) := by decide +kernel
set_option maxHeartbeats 4000000 in
theorem zl_Mod_newThrower {p : Program} {l : Launch} {e : Env} {s : State} {m : MethodId} {args : Array Value} {below : List Frame} {meth : Method} {c : Code} {D : va_G} {cA : Nat → ClassId} {ad : Nat → Nat} {A : Nat → Prop} (B : zu_B p s m args c zb_Mod_newThrower 4 "StonePostModel" D cA ad A) (hret : meth.sig.returnType = (some .int)) (hlk : meth.locks = false) {Y : LX} {res : Int32 × IX} {a1 : Int32} {a2 : Int32} {X : IX} (H : Heap) (locs : List Loc) (ls : Array Slot) (hP : va_P D zu_cl (zu_pic cA ad X Y) H) (hS : va_S A s.heap H locs) (hl : lv_has ls 4 [(0, .ref (ad 95)), (1, .int a1), (2, .int a2)]) (hf : fn_Mod_newThrower a1 a2 X = some res) : W p l e zR_Mod_newThrower s m args below meth c H locs 0 0 (MQ below (zu_Qi D cA ad A res.1 res.2 Y) args s 0 0 A) (F0 m 0 ls []) := by
  obtain ⟨hx, hb, hml, hown, hts, hST⟩ := id B
  unfold fn_Mod_newThrower at hf
  refine lv_aload_n hx hb zd_Mod_newThrower_0 rfl (lv_at hl 0 rfl) ?_
  refine zg_Mod_s B hP rfl zq_861 zd_Mod_newThrower_1 ?_
  refine lv_iconst (v := 1) hx hb zd_Mod_newThrower_4 (by decide) ?_
  refine zr_iald (j := 1) (by decide) B hP rfl (by decide) rfl (by decide) zd_Mod_newThrower_5 ?_
  refine zr_nxi hf (fun v1 hf => ?_)
  refine lv_istore_n (lv' := [(3, .int v1), (0, .ref (ad 95)), (1, .int a1), (2, .int a2)]) hx hb zd_Mod_newThrower_6 rfl hl (by decide) rfl (fun ls hl => ?_)
  refine lv_aload_n hx hb zd_Mod_newThrower_7 rfl (lv_at hl 1 rfl) ?_
  refine zg_Mod_s B hP rfl zq_861 zd_Mod_newThrower_8 ?_
  refine lv_iload_n hx hb zd_Mod_newThrower_11 rfl (lv_at hl 0 rfl) ?_
  refine lv_iconst (v := 0) hx hb zd_Mod_newThrower_12 (by decide) ?_
  obtain ⟨v2, ehq3, hf⟩ := zu_nx_e hf
  have hq3 := ehq3.symm
  refine zw_Mod_at (rest := [.ref (ad 96)]) B hP hS hq3 zq_966 (Nat.le_of_ble_eq_true rfl) (Nat.le_of_ble_eq_true rfl) hl.1 rfl (Nat.le_of_ble_eq_true rfl) zd_Mod_newThrower_13 (by decide) (fun H locs hP hS => ?_)
  clear hq3 ehq3
  refine lv_iload_n hx hb zd_Mod_newThrower_16 rfl (lv_at hl 2 rfl) ?_
  obtain ⟨hg4, hf⟩ := zu_gd_e hf
  refine zr_iast rfl B hP hS hf rfl (by decide) rfl hg4 zd_Mod_newThrower_17 (fun X5 H locs hf hP hS => ?_)
  refine lv_aload_n hx hb zd_Mod_newThrower_18 rfl (lv_at hl 1 rfl) ?_
  refine zg_Mod_s B hP rfl zq_861 zd_Mod_newThrower_19 ?_
  refine lv_iload_n hx hb zd_Mod_newThrower_22 rfl (lv_at hl 0 rfl) ?_
  refine lv_iconst (v := 1) hx hb zd_Mod_newThrower_23 (by decide) ?_
  obtain ⟨v6, ehq7, hf⟩ := zu_nx_e hf
  have hq7 := ehq7.symm
  refine zw_Mod_at (rest := [.ref (ad 96)]) B hP hS hq7 zq_966 (Nat.le_of_ble_eq_true rfl) (Nat.le_of_ble_eq_true rfl) hl.1 rfl (Nat.le_of_ble_eq_true rfl) zd_Mod_newThrower_24 (by decide) (fun H locs hP hS => ?_)
  clear hq7 ehq7
  refine lv_iload_n hx hb zd_Mod_newThrower_27 rfl (lv_at hl 3 rfl) ?_
  obtain ⟨hg8, hf⟩ := zu_gd_e hf
  refine zr_iast rfl B hP hS hf rfl (by decide) rfl hg8 zd_Mod_newThrower_28 (fun X9 H locs hf hP hS => ?_)
  refine lv_aload_n hx hb zd_Mod_newThrower_29 rfl (lv_at hl 1 rfl) ?_
  refine zg_Mod_s B hP rfl zq_861 zd_Mod_newThrower_30 ?_
  refine lv_iload_n hx hb zd_Mod_newThrower_33 rfl (lv_at hl 0 rfl) ?_
  refine lv_iconst (v := 2) hx hb zd_Mod_newThrower_34 (by decide) ?_
  obtain ⟨v10, ehq11, hf⟩ := zu_nx_e hf
  have hq11 := ehq11.symm
  refine zw_Mod_at (rest := [.ref (ad 96)]) B hP hS hq11 zq_966 (Nat.le_of_ble_eq_true rfl) (Nat.le_of_ble_eq_true rfl) hl.1 rfl (Nat.le_of_ble_eq_true rfl) zd_Mod_newThrower_35 (by decide) (fun H locs hP hS => ?_)
  clear hq11 ehq11
  refine lv_iconst (v := 2) hx hb zd_Mod_newThrower_38 (by decide) ?_
  obtain ⟨hg12, hf⟩ := zu_gd_e hf
  refine zr_iast rfl B hP hS hf rfl (by decide) rfl hg12 zd_Mod_newThrower_39 (fun X13 H locs hf hP hS => ?_)
  refine lv_aload_n hx hb zd_Mod_newThrower_40 rfl (lv_at hl 1 rfl) ?_
  refine zg_Mod_s B hP rfl zq_861 zd_Mod_newThrower_41 ?_
  refine lv_iload_n hx hb zd_Mod_newThrower_44 rfl (lv_at hl 0 rfl) ?_
  refine lv_iconst (v := 3) hx hb zd_Mod_newThrower_45 (by decide) ?_
  obtain ⟨v14, ehq15, hf⟩ := zu_nx_e hf
  have hq15 := ehq15.symm
  refine zw_Mod_at (rest := [.ref (ad 96)]) B hP hS hq15 zq_966 (Nat.le_of_ble_eq_true rfl) (Nat.le_of_ble_eq_true rfl) hl.1 rfl (Nat.le_of_ble_eq_true rfl) zd_Mod_newThrower_46 (by decide) (fun H locs hP hS => ?_)
  clear hq15 ehq15
  refine lv_iconst (v := 5) hx hb zd_Mod_newThrower_49 (by decide) ?_
  obtain ⟨hg16, hf⟩ := zu_gd_e hf
  refine zr_iast rfl B hP hS hf rfl (by decide) rfl hg16 zd_Mod_newThrower_50 (fun X17 H locs hf hP hS => ?_)
  refine lv_aload_n hx hb zd_Mod_newThrower_51 rfl (lv_at hl 1 rfl) ?_
  refine zg_Mod_s B hP rfl zq_861 zd_Mod_newThrower_52 ?_
  refine lv_iload_n hx hb zd_Mod_newThrower_55 rfl (lv_at hl 0 rfl) ?_
  refine lv_iconst (v := 4) hx hb zd_Mod_newThrower_56 (by decide) ?_
  obtain ⟨v18, ehq19, hf⟩ := zu_nx_e hf
  have hq19 := ehq19.symm
  refine zw_Mod_at (rest := [.ref (ad 96)]) B hP hS hq19 zq_966 (Nat.le_of_ble_eq_true rfl) (Nat.le_of_ble_eq_true rfl) hl.1 rfl (Nat.le_of_ble_eq_true rfl) zd_Mod_newThrower_57 (by decide) (fun H locs hP hS => ?_)
  clear hq19 ehq19
  refine lv_iconst (v := 1) hx hb zd_Mod_newThrower_60 (by decide) ?_
  obtain ⟨hg20, hf⟩ := zu_gd_e hf
  refine zr_iast rfl B hP hS hf rfl (by decide) rfl hg20 zd_Mod_newThrower_61 (fun X21 H locs hf hP hS => ?_)
  refine lv_aload_n hx hb zd_Mod_newThrower_62 rfl (lv_at hl 1 rfl) ?_
  refine zg_Mod_s B hP rfl zq_861 zd_Mod_newThrower_63 ?_
  refine lv_iload_n hx hb zd_Mod_newThrower_66 rfl (lv_at hl 0 rfl) ?_
  refine lv_iconst (v := 5) hx hb zd_Mod_newThrower_67 (by decide) ?_
  obtain ⟨v22, ehq23, hf⟩ := zu_nx_e hf
  have hq23 := ehq23.symm
  refine zw_Mod_at (rest := [.ref (ad 96)]) B hP hS hq23 zq_966 (Nat.le_of_ble_eq_true rfl) (Nat.le_of_ble_eq_true rfl) hl.1 rfl (Nat.le_of_ble_eq_true rfl) zd_Mod_newThrower_68 (by decide) (fun H locs hP hS => ?_)
  clear hq23 ehq23
  refine lv_bipush (v := 8) hx hb zd_Mod_newThrower_71 (by decide) ?_
  obtain ⟨hg24, hf⟩ := zu_gd_e hf
  refine zr_iast rfl B hP hS hf rfl (by decide) rfl hg24 zd_Mod_newThrower_73 (fun X25 H locs hf hP hS => ?_)
  refine lv_aload_n hx hb zd_Mod_newThrower_74 rfl (lv_at hl 1 rfl) ?_
  refine zg_Mod_s B hP rfl zq_861 zd_Mod_newThrower_75 ?_
  refine lv_iload_n hx hb zd_Mod_newThrower_78 rfl (lv_at hl 0 rfl) ?_
  refine lv_bipush (v := 6) hx hb zd_Mod_newThrower_79 (by decide) ?_
  obtain ⟨v26, ehq27, hf⟩ := zu_nx_e hf
  have hq27 := ehq27.symm
  refine zw_Mod_at (rest := [.ref (ad 96)]) B hP hS hq27 zq_966 (Nat.le_of_ble_eq_true rfl) (Nat.le_of_ble_eq_true rfl) hl.1 rfl (Nat.le_of_ble_eq_true rfl) zd_Mod_newThrower_81 (by decide) (fun H locs hP hS => ?_)
  clear hq27 ehq27
  refine lv_iconst (v := 0) hx hb zd_Mod_newThrower_84 (by decide) ?_
  obtain ⟨hg28, hf⟩ := zu_gd_e hf
  refine zr_iast rfl B hP hS hf rfl (by decide) rfl hg28 zd_Mod_newThrower_85 (fun X29 H locs hf hP hS => ?_)
  refine lv_aload_n hx hb zd_Mod_newThrower_86 rfl (lv_at hl 1 rfl) ?_
  refine zg_Mod_s B hP rfl zq_861 zd_Mod_newThrower_87 ?_
  refine lv_iload_n hx hb zd_Mod_newThrower_90 rfl (lv_at hl 0 rfl) ?_
  refine lv_bipush (v := 7) hx hb zd_Mod_newThrower_91 (by decide) ?_
  obtain ⟨v30, ehq31, hf⟩ := zu_nx_e hf
  have hq31 := ehq31.symm
  refine zw_Mod_at (rest := [.ref (ad 96)]) B hP hS hq31 zq_966 (Nat.le_of_ble_eq_true rfl) (Nat.le_of_ble_eq_true rfl) hl.1 rfl (Nat.le_of_ble_eq_true rfl) zd_Mod_newThrower_93 (by decide) (fun H locs hP hS => ?_)
  clear hq31 ehq31
  refine lv_iconst (v := 0) hx hb zd_Mod_newThrower_96 (by decide) ?_
  obtain ⟨hg32, hf⟩ := zu_gd_e hf
  refine zr_iast rfl B hP hS hf rfl (by decide) rfl hg32 zd_Mod_newThrower_97 (fun X33 H locs hf hP hS => ?_)
  refine lv_aload_n hx hb zd_Mod_newThrower_98 rfl (lv_at hl 1 rfl) ?_
  refine zg_Mod_s B hP rfl zq_861 zd_Mod_newThrower_99 ?_
  refine lv_iload_n hx hb zd_Mod_newThrower_102 rfl (lv_at hl 0 rfl) ?_
  refine lv_bipush (v := 8) hx hb zd_Mod_newThrower_103 (by decide) ?_
  obtain ⟨v34, ehq35, hf⟩ := zu_nx_e hf
  have hq35 := ehq35.symm
  refine zw_Mod_at (rest := [.ref (ad 96)]) B hP hS hq35 zq_966 (Nat.le_of_ble_eq_true rfl) (Nat.le_of_ble_eq_true rfl) hl.1 rfl (Nat.le_of_ble_eq_true rfl) zd_Mod_newThrower_105 (by decide) (fun H locs hP hS => ?_)
  clear hq35 ehq35
  refine lv_iconst (v := 0) hx hb zd_Mod_newThrower_108 (by decide) ?_
  obtain ⟨hg36, hf⟩ := zu_gd_e hf
  refine zr_iast rfl B hP hS hf rfl (by decide) rfl hg36 zd_Mod_newThrower_109 (fun X37 H locs hf hP hS => ?_)
  refine lv_aload_n hx hb zd_Mod_newThrower_110 rfl (lv_at hl 1 rfl) ?_
  refine zg_Mod_s B hP rfl zq_861 zd_Mod_newThrower_111 ?_
  refine lv_iconst (v := 1) hx hb zd_Mod_newThrower_114 (by decide) ?_
  refine lv_dup2_11 hx hb zd_Mod_newThrower_115 rfl rfl ?_
  refine zr_iald (j := 1) (by decide) B hP rfl (by decide) rfl (by decide) zd_Mod_newThrower_116 ?_
  refine lv_iconst (v := 1) hx hb zd_Mod_newThrower_117 (by decide) ?_
  refine lv_iadd hx hb zd_Mod_newThrower_118 ?_
  refine zr_iast (j := 1) (by decide) B hP hS hf rfl (by decide) rfl (by decide) zd_Mod_newThrower_119 (fun X38 H locs hf hP hS => ?_)
  refine lv_iload_n hx hb zd_Mod_newThrower_120 rfl (lv_at hl 0 rfl) ?_
  obtain rfl := Option.some.inj hf
  exact zr_iret hx hb hret hlk hP hS zd_Mod_newThrower_121
theorem zC_Mod_newThrower (l : Launch) {D : va_G} {cA : Nat → ClassId} {ad : Nat → Nat} {A : Nat → Prop} {a1 : Int32} {a2 : Int32} {X : IX} {Y : LX} {res : Int32 × IX} (hf : fn_Mod_newThrower a1 a2 X = some res) : Met l zm_Mod_newThrower (zu_ws zm_Mod_newThrower zb_Mod_newThrower 4 (some .int)) zR_Mod_newThrower (va_Pc [.ref (ad 95), .int a1, .int a2] (zu_Pre D cA ad A X Y)) (zu_Qi D cA ad A res.1 res.2 Y) 0 0 A := by
  refine Met.ofW (cc := zb_Mod_newThrower) (maxL := 4) (ret := (some .int)) (by decide +kernel) rfl ?_
  intro p e s m args below meth c s₁ B0 hml hv
  obtain ⟨rfl, hP, hST⟩ := hv
  have B : zu_B p s m _ c zb_Mod_newThrower 4 "StonePostModel" D cA ad A := ⟨B0.exec, B0.bytes, hml, findClass_of_methodNamed B0.named, (fun w hw => atoms_spec (ws := zu_ws zm_Mod_newThrower zb_Mod_newThrower 4 (some .int)) B0.pre w (List.mem_cons_of_mem _ hw)), hST⟩
  have hl := lv_entry ([.ref (ad 95), .int a1, .int a2]) (n := 4) (Nat.le_of_ble_eq_true rfl)
  rw [lg_entry_eq]
  generalize (lg_sl ([.ref (ad 95), .int a1, .int a2]) ++ List.replicate (4 - (lg_sl ([.ref (ad 95), .int a1, .int a2])).length) Slot.unset).toArray = ls at hl ⊢
  exact zl_Mod_newThrower B B0.returns B0.notSynchronized s.heap [] ls hP va_S.rf hl  hf
theorem zw_Mod_newThrower {p : Program} {l : Launch} {e : Env} {R : Room} {s : State} {m : MethodId} {args : Array Value} {below : List Frame} {meth : Method} {c : Code} {H : Heap} {locs : List Loc} {cells slots : Nat} {Q : State → Prop} {cc : ByteArray} {pc nL : Nat} {ls : Array Slot} {rest st0 : List Value} {D : va_G} {cA : Nat → ClassId} {ad : Nat → Nat} {A : Nat → Prop} {X : IX} {Y : LX} {own : String} {index : Nat} {a1 : Int32} {a2 : Int32} {v1 : Int32} {X1 : IX} (B : zu_B p s m args c cc nL own D cA ad A) (hP : va_P D zu_cl (zu_pic cA ad X Y) H) (hS : va_S A s.heap H locs) (hq : fn_Mod_newThrower a1 a2 X = some (v1, X1)) (m1 : Cond.methodLink own index zm_Mod_newThrower ∈ zu_TB) (hR1 : 1 + 1 ≤ R.frames) (hR2 : 8 + (4 + 11) + 21 ≤ R.locals) (hsz : ls.size = nL) (hst : st0 = .int a2 :: .int a1 :: .ref (ad 95) :: rest) (hw : (rest.map fun v => v.category).sum ≤ 8) (hdg : decode cc pc = .ok (.invokevirtual index, 3)) (h00 : cells ≤ R.cells ∧ slots ≤ R.slots) (kk : ∀ (H1 : Heap) (locs1 : List Loc), va_P D zu_cl (zu_pic cA ad X1 Y) H1 → va_S A s.heap H1 locs1 → W p l e R s m args below meth c H1 locs1 cells slots Q (F0 m (pc + 3) ls (.int v1 :: rest))) : W p l e R s m args below meth c H locs cells slots Q (F0 m pc ls st0) := by
  subst hst
  exact zr_cVi (As := [.int a1, .int a2]) (rest := rest) (n := 2) (C := "StonePostModel") (T := zt_Mod) (N := 23) B hP hS (zC_Mod_newThrower l  hq) (K := 7) rfl (by decide) (by decide) rfl rfl m1 zq_973 zqP_23 zq_8 zq_974 (by decide +kernel) ⟨hR1, hR2⟩ rfl rfl rfl hsz rfl hw hdg h00 kk
abbrev zR_Mod_thrower : Room := { frames := 3, cells := 0, slots := 0, locals := 66 }
theorem zd_Mod_thrower_0 : decode zb_Mod_thrower 0 = .ok (.iload_n 1, 1) := by decide +kernel
theorem zd_Mod_thrower_1 : decode zb_Mod_thrower 1 = .ok (.i2l, 1) := by decide +kernel
theorem zd_Mod_thrower_2 : decode zb_Mod_thrower 2 = .ok (.lconst 0, 1) := by decide +kernel
theorem zd_Mod_thrower_3 : decode zb_Mod_thrower 3 = .ok (.ldc2_w 77, 3) := by decide +kernel
theorem zd_Mod_thrower_6 : decode zb_Mod_thrower 6 = .ok (.invokestatic 53, 3) := by decide +kernel
theorem zd_Mod_thrower_9 : decode zb_Mod_thrower 9 = .ok (.ifCond .eq 10, 3) := by decide +kernel
theorem zd_Mod_thrower_12 : decode zb_Mod_thrower 12 = .ok (.iload_n 2, 1) := by decide +kernel
theorem zd_Mod_thrower_13 : decode zb_Mod_thrower 13 = .ok (.invokestatic 58, 3) := by decide +kernel
theorem zd_Mod_thrower_16 : decode zb_Mod_thrower 16 = .ok (.ifCond .ne 10, 3) := by decide +kernel
theorem zd_Mod_thrower_19 : decode zb_Mod_thrower 19 = .ok (.aload_n 0, 1) := by decide +kernel
theorem zd_Mod_thrower_20 : decode zb_Mod_thrower 20 = .ok (.ldc 50, 2) := by decide +kernel
theorem zd_Mod_thrower_22 : decode zb_Mod_thrower 22 = .ok (.invokevirtual 64, 3) := by decide +kernel
theorem zd_Mod_thrower_25 : decode zb_Mod_thrower 25 = .ok (.ireturn, 1) := by decide +kernel
theorem zd_Mod_thrower_26 : decode zb_Mod_thrower 26 = .ok (.aload_n 0, 1) := by decide +kernel
theorem zd_Mod_thrower_27 : decode zb_Mod_thrower 27 = .ok (.iload_n 2, 1) := by decide +kernel
theorem zd_Mod_thrower_28 : decode zb_Mod_thrower 28 = .ok (.invokevirtual 79, 3) := by decide +kernel
theorem zd_Mod_thrower_31 : decode zb_Mod_thrower 31 = .ok (.ifCond .lt 10, 3) := by decide +kernel
theorem zd_Mod_thrower_34 : decode zb_Mod_thrower 34 = .ok (.aload_n 0, 1) := by decide +kernel
theorem zd_Mod_thrower_35 : decode zb_Mod_thrower 35 = .ok (.ldc 82, 2) := by decide +kernel
theorem zd_Mod_thrower_37 : decode zb_Mod_thrower 37 = .ok (.invokevirtual 64, 3) := by decide +kernel
theorem zd_Mod_thrower_40 : decode zb_Mod_thrower 40 = .ok (.ireturn, 1) := by decide +kernel
theorem zd_Mod_thrower_41 : decode zb_Mod_thrower 41 = .ok (.aload_n 0, 1) := by decide +kernel
theorem zd_Mod_thrower_42 : decode zb_Mod_thrower 42 = .ok (.getfield 7, 3) := by decide +kernel
theorem zd_Mod_thrower_45 : decode zb_Mod_thrower 45 = .ok (.iconst 1, 1) := by decide +kernel
theorem zd_Mod_thrower_46 : decode zb_Mod_thrower 46 = .ok (.iaload, 1) := by decide +kernel
theorem zd_Mod_thrower_47 : decode zb_Mod_thrower 47 = .ok (.bipush 10, 2) := by decide +kernel
theorem zd_Mod_thrower_49 : decode zb_Mod_thrower 49 = .ok (.if_icmp .ne 12, 3) := by decide +kernel
theorem zd_Mod_thrower_52 : decode zb_Mod_thrower 52 = .ok (.aload_n 0, 1) := by decide +kernel
theorem zd_Mod_thrower_53 : decode zb_Mod_thrower 53 = .ok (.ldc 83, 2) := by decide +kernel
theorem zd_Mod_thrower_55 : decode zb_Mod_thrower 55 = .ok (.invokevirtual 64, 3) := by decide +kernel
theorem zd_Mod_thrower_58 : decode zb_Mod_thrower 58 = .ok (.goto 9, 3) := by decide +kernel
theorem zd_Mod_thrower_61 : decode zb_Mod_thrower 61 = .ok (.aload_n 0, 1) := by decide +kernel
theorem zd_Mod_thrower_62 : decode zb_Mod_thrower 62 = .ok (.iload_n 1, 1) := by decide +kernel
theorem zd_Mod_thrower_63 : decode zb_Mod_thrower 63 = .ok (.iload_n 2, 1) := by decide +kernel
theorem zd_Mod_thrower_64 : decode zb_Mod_thrower 64 = .ok (.invokevirtual 84, 3) := by decide +kernel
theorem zd_Mod_thrower_67 : decode zb_Mod_thrower 67 = .ok (.ireturn, 1) := by decide +kernel
set_option maxHeartbeats 4000000 in
theorem zl_Mod_thrower_L67 {p : Program} {l : Launch} {e : Env} {s : State} {m : MethodId} {args : Array Value} {below : List Frame} {meth : Method} {c : Code} {D : va_G} {cA : Nat → ClassId} {ad : Nat → Nat} {A : Nat → Prop} (B : zu_B p s m args c zb_Mod_thrower 3 "StonePostModel" D cA ad A) (hret : meth.sig.returnType = (some .int)) (hlk : meth.locks = false) {Y : LX} {res : Int32 × IX} (y0 : Int32) (X : IX) (H : Heap) (locs : List Loc) (ls : Array Slot) (hP : va_P D zu_cl (zu_pic cA ad X Y) H) (hS : va_S A s.heap H locs) (hl : lv_has ls 3 []) (hf : fn_Mod_thrower_L67 y0 X = some res) : W p l e zR_Mod_thrower s m args below meth c H locs 0 0 (MQ below (zu_Qi D cA ad A res.1 res.2 Y) args s 0 0 A) (F0 m 67 ls [.int y0]) := by
  obtain ⟨hx, hb, hml, hown, hts, hST⟩ := id B
  unfold fn_Mod_thrower_L67 at hf
  obtain rfl := Option.some.inj hf
  exact zr_iret hx hb hret hlk hP hS zd_Mod_thrower_67
set_option maxHeartbeats 4000000 in
theorem zl_Mod_thrower_L19 {p : Program} {l : Launch} {e : Env} {s : State} {m : MethodId} {args : Array Value} {below : List Frame} {meth : Method} {c : Code} {D : va_G} {cA : Nat → ClassId} {ad : Nat → Nat} {A : Nat → Prop} (B : zu_B p s m args c zb_Mod_thrower 3 "StonePostModel" D cA ad A) (hret : meth.sig.returnType = (some .int)) (hlk : meth.locks = false) {Y : LX} {res : Int32 × IX} (X : IX) (H : Heap) (locs : List Loc) (ls : Array Slot) (hP : va_P D zu_cl (zu_pic cA ad X Y) H) (hS : va_S A s.heap H locs) (hl : lv_has ls 3 [(0, .ref (ad 95))]) (hf : fn_Mod_thrower_L19 X = some res) : W p l e zR_Mod_thrower s m args below meth c H locs 0 0 (MQ below (zu_Qi D cA ad A res.1 res.2 Y) args s 0 0 A) (F0 m 19 ls []) := by
  obtain ⟨hx, hb, hml, hown, hts, hST⟩ := id B
  unfold fn_Mod_thrower_L19 at hf
  refine lv_aload_n hx hb zd_Mod_thrower_19 rfl (lv_at hl 0 rfl) ?_
  refine lv_ldc (v := -1000001) hx hb hown (hts _ zq_943) zd_Mod_thrower_20 ?_
  obtain ⟨v20, X21, hq22, hf⟩ := zu_b2_e hf
  refine zw_Mod_finds (rest := []) B hP hS hq22 zq_944 (Nat.le_of_ble_eq_true rfl) (Nat.le_of_ble_eq_true rfl) hl.1 rfl (Nat.le_of_ble_eq_true rfl) zd_Mod_thrower_22 (by decide) (fun H locs hP hS => ?_)
  clear hq22
  obtain rfl := Option.some.inj hf
  exact zr_iret hx hb hret hlk hP hS zd_Mod_thrower_25
set_option maxHeartbeats 4000000 in
theorem zl_Mod_thrower {p : Program} {l : Launch} {e : Env} {s : State} {m : MethodId} {args : Array Value} {below : List Frame} {meth : Method} {c : Code} {D : va_G} {cA : Nat → ClassId} {ad : Nat → Nat} {A : Nat → Prop} (B : zu_B p s m args c zb_Mod_thrower 3 "StonePostModel" D cA ad A) (hret : meth.sig.returnType = (some .int)) (hlk : meth.locks = false) {Y : LX} {res : Int32 × IX} {a1 : Int32} {a2 : Int32} {X : IX} (H : Heap) (locs : List Loc) (ls : Array Slot) (hP : va_P D zu_cl (zu_pic cA ad X Y) H) (hS : va_S A s.heap H locs) (hl : lv_has ls 3 [(0, .ref (ad 95)), (1, .int a1), (2, .int a2)]) (hf : fn_Mod_thrower a1 a2 X = some res) : W p l e zR_Mod_thrower s m args below meth c H locs 0 0 (MQ below (zu_Qi D cA ad A res.1 res.2 Y) args s 0 0 A) (F0 m 0 ls []) := by
  obtain ⟨hx, hb, hml, hown, hts, hST⟩ := id B
  unfold fn_Mod_thrower at hf
  refine lv_iload_n hx hb zd_Mod_thrower_0 rfl (lv_at hl 1 rfl) ?_
  refine lv_i2l hx hb zd_Mod_thrower_1 rfl ?_
  refine lv_lconst (v := 0) hx hb zd_Mod_thrower_2 (by decide) ?_
  refine lv_ldc2 (v := 6) hx hb hown (hts _ zq_957) zd_Mod_thrower_3 ?_
  obtain ⟨v1, hq2, hf⟩ := zu_b1_e hf
  refine zw_Mod_in (rest := []) B hP hS hq2 zq_939 (Nat.le_of_ble_eq_true rfl) (Nat.le_of_ble_eq_true rfl) hl.1 rfl (Nat.le_of_ble_eq_true rfl) zd_Mod_thrower_6 (by decide) (fun H locs hP hS => ?_)
  clear hq2
  refine lv_if_eq (tgt := 19) hx hb zd_Mod_thrower_9 (by decide) (fun c3 => ?_) (fun c3 => ?_)
  · have hf := zu_t c3 hf
    exact zl_Mod_thrower_L19 B hret hlk X _ _ _ hP hS (lv_sub hl [0] rfl) hf
  · have hf := zu_f c3 hf
    refine lv_iload_n hx hb zd_Mod_thrower_12 rfl (lv_at hl 2 rfl) ?_
    obtain ⟨v4, hq5, hf⟩ := zu_b1_e hf
    refine zw_Mod_isCell (rest := []) B hP hS hq5 zq_935 (Nat.le_of_ble_eq_true rfl) (Nat.le_of_ble_eq_true rfl) hl.1 rfl (Nat.le_of_ble_eq_true rfl) zd_Mod_thrower_13 (by decide) (fun H locs hP hS => ?_)
    clear hq5
    refine lv_if_ne (tgt := 26) hx hb zd_Mod_thrower_16 (by decide) (fun c6 => ?_) (fun c6 => ?_)
    · have hf := zu_f c6 hf
      refine lv_aload_n hx hb zd_Mod_thrower_26 rfl (lv_at hl 0 rfl) ?_
      refine lv_iload_n hx hb zd_Mod_thrower_27 rfl (lv_at hl 2 rfl) ?_
      obtain ⟨v7, hq8, hf⟩ := zu_b1_e hf
      refine zw_Mod_standing (rest := []) B hP hS hq8 zq_958 (Nat.le_of_ble_eq_true rfl) (Nat.le_of_ble_eq_true rfl) hl.1 rfl (Nat.le_of_ble_eq_true rfl) zd_Mod_thrower_28 (by decide) (fun H locs hP hS => ?_)
      clear hq8
      refine lv_if_lt (tgt := 41) hx hb zd_Mod_thrower_31 (by decide) (fun c9 => ?_) (fun c9 => ?_)
      · have hf := zu_t c9 hf
        refine lv_aload_n hx hb zd_Mod_thrower_41 rfl (lv_at hl 0 rfl) ?_
        refine zg_Mod_s B hP rfl zq_861 zd_Mod_thrower_42 ?_
        refine lv_iconst (v := 1) hx hb zd_Mod_thrower_45 (by decide) ?_
        refine zr_iald (j := 1) (by decide) B hP rfl (by decide) rfl (by decide) zd_Mod_thrower_46 ?_
        refine lv_bipush (v := 10) hx hb zd_Mod_thrower_47 (by decide) ?_
        refine lv_icmp_ne (tgt := 61) hx hb zd_Mod_thrower_49 (by decide) (fun c10 => ?_) (fun c10 => ?_)
        · have hf := zu_f c10 hf
          refine lv_aload_n hx hb zd_Mod_thrower_61 rfl (lv_at hl 0 rfl) ?_
          refine lv_iload_n hx hb zd_Mod_thrower_62 rfl (lv_at hl 1 rfl) ?_
          refine lv_iload_n hx hb zd_Mod_thrower_63 rfl (lv_at hl 2 rfl) ?_
          obtain ⟨v11, X12, hq13, hf⟩ := zu_b2_e hf
          refine zw_Mod_newThrower (rest := []) B hP hS hq13 zq_971 (Nat.le_of_ble_eq_true rfl) (Nat.le_of_ble_eq_true rfl) hl.1 rfl (Nat.le_of_ble_eq_true rfl) zd_Mod_thrower_64 (by decide) (fun H locs hP hS => ?_)
          clear hq13
          exact zl_Mod_thrower_L67 B hret hlk v11 X12 _ _ _ hP hS (lv_sub hl [] rfl) hf
        · have hf := zu_t c10 hf
          refine lv_aload_n hx hb zd_Mod_thrower_52 rfl (lv_at hl 0 rfl) ?_
          refine lv_ldc (v := -1000002) hx hb hown (hts _ zq_970) zd_Mod_thrower_53 ?_
          obtain ⟨v14, X15, hq16, hf⟩ := zu_b2_e hf
          refine zw_Mod_finds (rest := []) B hP hS hq16 zq_944 (Nat.le_of_ble_eq_true rfl) (Nat.le_of_ble_eq_true rfl) hl.1 rfl (Nat.le_of_ble_eq_true rfl) zd_Mod_thrower_55 (by decide) (fun H locs hP hS => ?_)
          clear hq16
          refine lv_goto (tgt := 67) hx hb zd_Mod_thrower_58 (by decide) ?_
          exact zl_Mod_thrower_L67 B hret hlk v14 X15 _ _ _ hP hS (lv_sub hl [] rfl) hf
      · have hf := zu_f c9 hf
        refine lv_aload_n hx hb zd_Mod_thrower_34 rfl (lv_at hl 0 rfl) ?_
        refine lv_ldc (v := -1000005) hx hb hown (hts _ zq_969) zd_Mod_thrower_35 ?_
        obtain ⟨v17, X18, hq19, hf⟩ := zu_b2_e hf
        refine zw_Mod_finds (rest := []) B hP hS hq19 zq_944 (Nat.le_of_ble_eq_true rfl) (Nat.le_of_ble_eq_true rfl) hl.1 rfl (Nat.le_of_ble_eq_true rfl) zd_Mod_thrower_37 (by decide) (fun H locs hP hS => ?_)
        clear hq19
        obtain rfl := Option.some.inj hf
        exact zr_iret hx hb hret hlk hP hS zd_Mod_thrower_40
    · have hf := zu_t c6 hf
      exact zl_Mod_thrower_L19 B hret hlk X _ _ _ hP hS (lv_sub hl [0] rfl) hf
theorem zC_Mod_thrower (l : Launch) {D : va_G} {cA : Nat → ClassId} {ad : Nat → Nat} {A : Nat → Prop} {a1 : Int32} {a2 : Int32} {X : IX} {Y : LX} {res : Int32 × IX} (hf : fn_Mod_thrower a1 a2 X = some res) : Met l zm_Mod_thrower (zu_ws zm_Mod_thrower zb_Mod_thrower 3 (some .int)) zR_Mod_thrower (va_Pc [.ref (ad 95), .int a1, .int a2] (zu_Pre D cA ad A X Y)) (zu_Qi D cA ad A res.1 res.2 Y) 0 0 A := by
  refine Met.ofW (cc := zb_Mod_thrower) (maxL := 3) (ret := (some .int)) (by decide +kernel) rfl ?_
  intro p e s m args below meth c s₁ B0 hml hv
  obtain ⟨rfl, hP, hST⟩ := hv
  have B : zu_B p s m _ c zb_Mod_thrower 3 "StonePostModel" D cA ad A := ⟨B0.exec, B0.bytes, hml, findClass_of_methodNamed B0.named, (fun w hw => atoms_spec (ws := zu_ws zm_Mod_thrower zb_Mod_thrower 3 (some .int)) B0.pre w (List.mem_cons_of_mem _ hw)), hST⟩
  have hl := lv_entry ([.ref (ad 95), .int a1, .int a2]) (n := 3) (Nat.le_of_ble_eq_true rfl)
  rw [lg_entry_eq]
  generalize (lg_sl ([.ref (ad 95), .int a1, .int a2]) ++ List.replicate (3 - (lg_sl ([.ref (ad 95), .int a1, .int a2])).length) Slot.unset).toArray = ls at hl ⊢
  exact zl_Mod_thrower B B0.returns B0.notSynchronized s.heap [] ls hP va_S.rf hl  hf
theorem zw_Mod_thrower {p : Program} {l : Launch} {e : Env} {R : Room} {s : State} {m : MethodId} {args : Array Value} {below : List Frame} {meth : Method} {c : Code} {H : Heap} {locs : List Loc} {cells slots : Nat} {Q : State → Prop} {cc : ByteArray} {pc nL : Nat} {ls : Array Slot} {rest st0 : List Value} {D : va_G} {cA : Nat → ClassId} {ad : Nat → Nat} {A : Nat → Prop} {X : IX} {Y : LX} {own : String} {index : Nat} {a1 : Int32} {a2 : Int32} {v1 : Int32} {X1 : IX} (B : zu_B p s m args c cc nL own D cA ad A) (hP : va_P D zu_cl (zu_pic cA ad X Y) H) (hS : va_S A s.heap H locs) (hq : fn_Mod_thrower a1 a2 X = some (v1, X1)) (m1 : Cond.methodLink own index zm_Mod_thrower ∈ zu_TB) (hR1 : 3 + 1 ≤ R.frames) (hR2 : 8 + (3 + 11) + 66 ≤ R.locals) (hsz : ls.size = nL) (hst : st0 = .int a2 :: .int a1 :: .ref (ad 95) :: rest) (hw : (rest.map fun v => v.category).sum ≤ 8) (hdg : decode cc pc = .ok (.invokevirtual index, 3)) (h00 : cells ≤ R.cells ∧ slots ≤ R.slots) (kk : ∀ (H1 : Heap) (locs1 : List Loc), va_P D zu_cl (zu_pic cA ad X1 Y) H1 → va_S A s.heap H1 locs1 → W p l e R s m args below meth c H1 locs1 cells slots Q (F0 m (pc + 3) ls (.int v1 :: rest))) : W p l e R s m args below meth c H locs cells slots Q (F0 m pc ls st0) := by
  subst hst
  exact zr_cVi (As := [.int a1, .int a2]) (rest := rest) (n := 2) (C := "StonePostModel") (T := zt_Mod) (N := 23) B hP hS (zC_Mod_thrower l  hq) (K := 7) rfl (by decide) (by decide) rfl rfl m1 zq_954 zq_955 zq_8 zq_956 (by decide +kernel) ⟨hR1, hR2⟩ rfl rfl rfl hsz rfl hw hdg h00 kk
