abbrev zR_Mod_load : Room := { frames := 3, cells := 0, slots := 0, locals := 66 }
theorem zd_Mod_load_0 : decode zb_Mod_load 0 = .ok (.aload_n 0, 1) := by decide +kernel
theorem zd_Mod_load_1 : decode zb_Mod_load 1 = .ok (.iload_n 1, 1) := by decide +kernel
theorem zd_Mod_load_2 : decode zb_Mod_load 2 = .ok (.invokevirtual 350, 3) := by decide +kernel
theorem zd_Mod_load_5 : decode zb_Mod_load 5 = .ok (.istore_n 2, 1) := by decide +kernel
theorem zd_Mod_load_6 : decode zb_Mod_load 6 = .ok (.iload_n 2, 1) := by decide +kernel
theorem zd_Mod_load_7 : decode zb_Mod_load 7 = .ok (.ifCond .eq 9, 3) := by decide +kernel
theorem zd_Mod_load_10 : decode zb_Mod_load 10 = .ok (.aload_n 0, 1) := by decide +kernel
theorem zd_Mod_load_11 : decode zb_Mod_load 11 = .ok (.iload_n 2, 1) := by decide +kernel
theorem zd_Mod_load_12 : decode zb_Mod_load 12 = .ok (.invokevirtual 64, 3) := by decide +kernel
theorem zd_Mod_load_15 : decode zb_Mod_load 15 = .ok (.ireturn, 1) := by decide +kernel
theorem zd_Mod_load_16 : decode zb_Mod_load 16 = .ok (.iconst 0, 1) := by decide +kernel
theorem zd_Mod_load_17 : decode zb_Mod_load 17 = .ok (.istore_n 3, 1) := by decide +kernel
theorem zd_Mod_load_18 : decode zb_Mod_load 18 = .ok (.iload_n 3, 1) := by decide +kernel
theorem zd_Mod_load_19 : decode zb_Mod_load 19 = .ok (.aload_n 0, 1) := by decide +kernel
theorem zd_Mod_load_20 : decode zb_Mod_load 20 = .ok (.getfield 41, 3) := by decide +kernel
theorem zd_Mod_load_23 : decode zb_Mod_load 23 = .ok (.iload_n 1, 1) := by decide +kernel
theorem zd_Mod_load_24 : decode zb_Mod_load 24 = .ok (.iaload, 1) := by decide +kernel
theorem zd_Mod_load_25 : decode zb_Mod_load 25 = .ok (.if_icmp .ge 57, 3) := by decide +kernel
theorem zd_Mod_load_28 : decode zb_Mod_load 28 = .ok (.iload_n 3, 1) := by decide +kernel
theorem zd_Mod_load_29 : decode zb_Mod_load 29 = .ok (.bipush 24, 2) := by decide +kernel
theorem zd_Mod_load_31 : decode zb_Mod_load 31 = .ok (.if_icmp .ge 51, 3) := by decide +kernel
theorem zd_Mod_load_34 : decode zb_Mod_load 34 = .ok (.aload_n 0, 1) := by decide +kernel
theorem zd_Mod_load_35 : decode zb_Mod_load 35 = .ok (.getfield 44, 3) := by decide +kernel
theorem zd_Mod_load_38 : decode zb_Mod_load 38 = .ok (.bipush 40, 2) := by decide +kernel
theorem zd_Mod_load_40 : decode zb_Mod_load 40 = .ok (.iload_n 1, 1) := by decide +kernel
theorem zd_Mod_load_41 : decode zb_Mod_load 41 = .ok (.imul, 1) := by decide +kernel
theorem zd_Mod_load_42 : decode zb_Mod_load 42 = .ok (.iload_n 3, 1) := by decide +kernel
theorem zd_Mod_load_43 : decode zb_Mod_load 43 = .ok (.iadd, 1) := by decide +kernel
theorem zd_Mod_load_44 : decode zb_Mod_load 44 = .ok (.iaload, 1) := by decide +kernel
theorem zd_Mod_load_45 : decode zb_Mod_load 45 = .ok (.i2l, 1) := by decide +kernel
theorem zd_Mod_load_46 : decode zb_Mod_load 46 = .ok (.lconst 0, 1) := by decide +kernel
theorem zd_Mod_load_47 : decode zb_Mod_load 47 = .ok (.ldc2_w 62, 3) := by decide +kernel
theorem zd_Mod_load_50 : decode zb_Mod_load 50 = .ok (.invokestatic 53, 3) := by decide +kernel
theorem zd_Mod_load_53 : decode zb_Mod_load 53 = .ok (.ifCond .eq 29, 3) := by decide +kernel
theorem zd_Mod_load_56 : decode zb_Mod_load 56 = .ok (.aload_n 0, 1) := by decide +kernel
theorem zd_Mod_load_57 : decode zb_Mod_load 57 = .ok (.getfield 7, 3) := by decide +kernel
theorem zd_Mod_load_60 : decode zb_Mod_load 60 = .ok (.bipush 6, 2) := by decide +kernel
theorem zd_Mod_load_62 : decode zb_Mod_load 62 = .ok (.iload_n 3, 1) := by decide +kernel
theorem zd_Mod_load_63 : decode zb_Mod_load 63 = .ok (.iadd, 1) := by decide +kernel
theorem zd_Mod_load_64 : decode zb_Mod_load 64 = .ok (.aload_n 0, 1) := by decide +kernel
theorem zd_Mod_load_65 : decode zb_Mod_load 65 = .ok (.getfield 44, 3) := by decide +kernel
theorem zd_Mod_load_68 : decode zb_Mod_load 68 = .ok (.bipush 40, 2) := by decide +kernel
theorem zd_Mod_load_70 : decode zb_Mod_load 70 = .ok (.iload_n 1, 1) := by decide +kernel
theorem zd_Mod_load_71 : decode zb_Mod_load 71 = .ok (.imul, 1) := by decide +kernel
theorem zd_Mod_load_72 : decode zb_Mod_load 72 = .ok (.iload_n 3, 1) := by decide +kernel
theorem zd_Mod_load_73 : decode zb_Mod_load 73 = .ok (.iadd, 1) := by decide +kernel
theorem zd_Mod_load_74 : decode zb_Mod_load 74 = .ok (.iaload, 1) := by decide +kernel
theorem zd_Mod_load_75 : decode zb_Mod_load 75 = .ok (.iastore, 1) := by decide +kernel
theorem zd_Mod_load_76 : decode zb_Mod_load 76 = .ok (.iinc 3 1, 3) := by decide +kernel
theorem zd_Mod_load_79 : decode zb_Mod_load 79 = .ok (.goto (-61), 3) := by decide +kernel
theorem zd_Mod_load_82 : decode zb_Mod_load 82 = .ok (.iload_n 3, 1) := by decide +kernel
theorem zd_Mod_load_83 : decode zb_Mod_load 83 = .ok (.ireturn, 1) := by decide +kernel
set_option maxHeartbeats 4000000 in
theorem zl_Mod_load_L82 {p : Program} {l : Launch} {e : Env} {s : State} {m : MethodId} {args : Array Value} {below : List Frame} {meth : Method} {c : Code} {D : va_G} {cA : Nat → ClassId} {ad : Nat → Nat} {A : Nat → Prop} (B : zu_B p s m args c zb_Mod_load 4 "StonePostModel" D cA ad A) (hret : meth.sig.returnType = (some .int)) (hlk : meth.locks = false) {Y : LX} {res : Int32 × IX} (x3 : Int32) (X : IX) (H : Heap) (locs : List Loc) (ls : Array Slot) (hP : va_P D zu_cl (zu_pic cA ad X Y) H) (hS : va_S A s.heap H locs) (hl : lv_has ls 4 [(3, .int x3)]) (hf : fn_Mod_load_L82 x3 X = some res) : W p l e zR_Mod_load s m args below meth c H locs 0 0 (MQ below (zu_Qi D cA ad A res.1 res.2 Y) args s 0 0 A) (F0 m 82 ls []) := by
  obtain ⟨hx, hb, hml, hown, hts, hST⟩ := id B
  unfold fn_Mod_load_L82 at hf
  refine lv_iload_n hx hb zd_Mod_load_82 rfl (lv_at hl 0 rfl) ?_
  obtain rfl := Option.some.inj hf
  exact zr_iret hx hb hret hlk hP hS zd_Mod_load_83
set_option maxHeartbeats 4000000 in
theorem zl_Mod_load_B18 {p : Program} {l : Launch} {e : Env} {s : State} {m : MethodId} {args : Array Value} {below : List Frame} {meth : Method} {c : Code} {D : va_G} {cA : Nat → ClassId} {ad : Nat → Nat} {A : Nat → Prop} (B : zu_B p s m args c zb_Mod_load 4 "StonePostModel" D cA ad A) (hret : meth.sig.returnType = (some .int)) (hlk : meth.locks = false) {Y : LX} {res : Int32 × IX} {k18 : Int32 → Int32 → IX → Option (Int32 × IX)} (hk18 : ∀ (x1 : Int32) (x3 : Int32) (X : IX) (H : Heap) (locs : List Loc) (ls : Array Slot), va_P D zu_cl (zu_pic cA ad X Y) H → va_S A s.heap H locs → lv_has ls 4 [(0, .ref (ad 95)), (1, .int x1), (3, .int x3)] → k18 x1 x3 X = some res → W p l e zR_Mod_load s m args below meth c H locs 0 0 (MQ below (zu_Qi D cA ad A res.1 res.2 Y) args s 0 0 A) (F0 m 18 ls [])) (x1 : Int32) (x3 : Int32) (X : IX) (H : Heap) (locs : List Loc) (ls : Array Slot) (hP : va_P D zu_cl (zu_pic cA ad X Y) H) (hS : va_S A s.heap H locs) (hl : lv_has ls 4 [(0, .ref (ad 95)), (1, .int x1), (3, .int x3)]) (hf : fn_Mod_load_B18 k18 x1 x3 X = some res) : W p l e zR_Mod_load s m args below meth c H locs 0 0 (MQ below (zu_Qi D cA ad A res.1 res.2 Y) args s 0 0 A) (F0 m 18 ls []) := by
  obtain ⟨hx, hb, hml, hown, hts, hST⟩ := id B
  unfold fn_Mod_load_B18 at hf
  refine lv_iload_n hx hb zd_Mod_load_18 rfl (lv_at hl 2 rfl) ?_
  refine lv_aload_n hx hb zd_Mod_load_19 rfl (lv_at hl 0 rfl) ?_
  refine zg_Mod_sizeOf B hP rfl zq_881 zd_Mod_load_20 ?_
  refine lv_iload_n hx hb zd_Mod_load_23 rfl (lv_at hl 1 rfl) ?_
  obtain ⟨hg7, hf⟩ := zu_gd_e hf
  refine zr_iald rfl B hP rfl (by decide) rfl hg7 zd_Mod_load_24 ?_
  refine lv_icmp_ge (tgt := 82) hx hb zd_Mod_load_25 (by decide) (fun c8 => ?_) (fun c8 => ?_)
  · have hf := zu_t c8 hf
    exact zl_Mod_load_L82 B hret hlk x3 X _ _ _ hP hS (lv_sub hl [2] rfl) hf
  · have hf := zu_f c8 hf
    refine lv_iload_n hx hb zd_Mod_load_28 rfl (lv_at hl 2 rfl) ?_
    refine lv_bipush (v := 24) hx hb zd_Mod_load_29 (by decide) ?_
    refine lv_icmp_ge (tgt := 82) hx hb zd_Mod_load_31 (by decide) (fun c9 => ?_) (fun c9 => ?_)
    · have hf := zu_t c9 hf
      exact zl_Mod_load_L82 B hret hlk x3 X _ _ _ hP hS (lv_sub hl [2] rfl) hf
    · have hf := zu_f c9 hf
      refine lv_aload_n hx hb zd_Mod_load_34 rfl (lv_at hl 0 rfl) ?_
      refine zg_Mod_number B hP rfl zq_882 zd_Mod_load_35 ?_
      refine lv_bipush (v := 40) hx hb zd_Mod_load_38 (by decide) ?_
      refine lv_iload_n hx hb zd_Mod_load_40 rfl (lv_at hl 1 rfl) ?_
      refine lv_imul hx hb zd_Mod_load_41 ?_
      refine lv_iload_n hx hb zd_Mod_load_42 rfl (lv_at hl 2 rfl) ?_
      refine lv_iadd hx hb zd_Mod_load_43 ?_
      obtain ⟨hg10, hf⟩ := zu_gd_e hf
      refine zr_iald rfl B hP rfl (by decide) rfl hg10 zd_Mod_load_44 ?_
      refine lv_i2l hx hb zd_Mod_load_45 rfl ?_
      refine lv_lconst (v := 0) hx hb zd_Mod_load_46 (by decide) ?_
      refine lv_ldc2 (v := 3) hx hb hown (hts _ zq_942) zd_Mod_load_47 ?_
      obtain ⟨v11, hq12, hf⟩ := zu_b1_e hf
      refine zw_Mod_in (rest := []) B hP hS hq12 zq_939 (Nat.le_of_ble_eq_true rfl) (Nat.le_of_ble_eq_true rfl) hl.1 rfl (Nat.le_of_ble_eq_true rfl) zd_Mod_load_50 (by decide) (fun H locs hP hS => ?_)
      clear hq12
      refine lv_if_eq (tgt := 82) hx hb zd_Mod_load_53 (by decide) (fun c13 => ?_) (fun c13 => ?_)
      · have hf := zu_t c13 hf
        exact zl_Mod_load_L82 B hret hlk x3 X _ _ _ hP hS (lv_sub hl [2] rfl) hf
      · have hf := zu_f c13 hf
        refine lv_aload_n hx hb zd_Mod_load_56 rfl (lv_at hl 0 rfl) ?_
        refine zg_Mod_s B hP rfl zq_861 zd_Mod_load_57 ?_
        refine lv_bipush (v := 6) hx hb zd_Mod_load_60 (by decide) ?_
        refine lv_iload_n hx hb zd_Mod_load_62 rfl (lv_at hl 2 rfl) ?_
        refine lv_iadd hx hb zd_Mod_load_63 ?_
        refine lv_aload_n hx hb zd_Mod_load_64 rfl (lv_at hl 0 rfl) ?_
        refine zg_Mod_number B hP rfl zq_882 zd_Mod_load_65 ?_
        refine lv_bipush (v := 40) hx hb zd_Mod_load_68 (by decide) ?_
        refine lv_iload_n hx hb zd_Mod_load_70 rfl (lv_at hl 1 rfl) ?_
        refine lv_imul hx hb zd_Mod_load_71 ?_
        refine lv_iload_n hx hb zd_Mod_load_72 rfl (lv_at hl 2 rfl) ?_
        refine lv_iadd hx hb zd_Mod_load_73 ?_
        obtain ⟨hg14, hf⟩ := zu_gd_e hf
        refine zr_iald rfl B hP rfl (by decide) rfl hg14 zd_Mod_load_74 ?_
        obtain ⟨hg15, hf⟩ := zu_gd_e hf
        refine zr_iast rfl B hP hS hf rfl (by decide) rfl hg15 zd_Mod_load_75 (fun X16 H locs hf hP hS => ?_)
        obtain ⟨v17, ev17, hf⟩ := zu_nx_e hf
        refine lv_iinc (v := v17) (lv' := [(3, .int v17), (0, .ref (ad 95)), (1, .int x1)]) hx hb zd_Mod_load_76 hl (k := 2) rfl (by rw [ev17]; rfl) (by decide) rfl (fun ls hl => ?_)
        clear ev17
        refine lv_goto (tgt := 18) hx hb zd_Mod_load_79 (by decide) ?_
        exact hk18 x1 v17 X16 _ _ _ hP hS (lv_sub hl [1, 2, 0] rfl) hf
theorem zl_Mod_load_L18 {p : Program} {l : Launch} {e : Env} {s : State} {m : MethodId} {args : Array Value} {below : List Frame} {meth : Method} {c : Code} {D : va_G} {cA : Nat → ClassId} {ad : Nat → Nat} {A : Nat → Prop} (B : zu_B p s m args c zb_Mod_load 4 "StonePostModel" D cA ad A) (hret : meth.sig.returnType = (some .int)) (hlk : meth.locks = false) {Y : LX} {res : Int32 × IX} : ∀ (n : Nat) (x1 : Int32) (x3 : Int32) (X : IX) (H : Heap) (locs : List Loc) (ls : Array Slot), va_P D zu_cl (zu_pic cA ad X Y) H → va_S A s.heap H locs → lv_has ls 4 [(0, .ref (ad 95)), (1, .int x1), (3, .int x3)] → fn_Mod_load_L18 n x1 x3 X = some res → W p l e zR_Mod_load s m args below meth c H locs 0 0 (MQ below (zu_Qi D cA ad A res.1 res.2 Y) args s 0 0 A) (F0 m 18 ls []) := by
  intro n
  induction n with
  | zero =>
    intro x1 x3 X H locs ls hP hS hl hf
    exact (Option.some_ne_none _ hf.symm).elim
  | succ n ih =>
    intro x1 x3 X H locs ls hP hS hl hf
    exact zl_Mod_load_B18 B hret hlk ih x1 x3 X H locs ls hP hS hl  hf
set_option maxHeartbeats 4000000 in
theorem zl_Mod_load {p : Program} {l : Launch} {e : Env} {s : State} {m : MethodId} {args : Array Value} {below : List Frame} {meth : Method} {c : Code} {D : va_G} {cA : Nat → ClassId} {ad : Nat → Nat} {A : Nat → Prop} (B : zu_B p s m args c zb_Mod_load 4 "StonePostModel" D cA ad A) (hret : meth.sig.returnType = (some .int)) (hlk : meth.locks = false) {Y : LX} {res : Int32 × IX} {a1 : Int32} {X : IX} (H : Heap) (locs : List Loc) (ls : Array Slot) (hP : va_P D zu_cl (zu_pic cA ad X Y) H) (hS : va_S A s.heap H locs) (hl : lv_has ls 4 [(0, .ref (ad 95)), (1, .int a1)]) (hf : fn_Mod_load a1 X = some res) : W p l e zR_Mod_load s m args below meth c H locs 0 0 (MQ below (zu_Qi D cA ad A res.1 res.2 Y) args s 0 0 A) (F0 m 0 ls []) := by
  obtain ⟨hx, hb, hml, hown, hts, hST⟩ := id B
  unfold fn_Mod_load at hf
  refine lv_aload_n hx hb zd_Mod_load_0 rfl (lv_at hl 0 rfl) ?_
  refine lv_iload_n hx hb zd_Mod_load_1 rfl (lv_at hl 1 rfl) ?_
  obtain ⟨v1, hq2, hf⟩ := zu_b1_e hf
  refine zw_Mod_wrong (rest := []) B hP hS hq2 zq_1347 (Nat.le_of_ble_eq_true rfl) (Nat.le_of_ble_eq_true rfl) hl.1 rfl (Nat.le_of_ble_eq_true rfl) zd_Mod_load_2 (by decide) (fun H locs hP hS => ?_)
  clear hq2
  refine lv_istore_n (lv' := [(2, .int v1), (0, .ref (ad 95)), (1, .int a1)]) hx hb zd_Mod_load_5 rfl hl (by decide) rfl (fun ls hl => ?_)
  refine lv_iload_n hx hb zd_Mod_load_6 rfl (lv_at hl 0 rfl) ?_
  refine lv_if_eq (tgt := 16) hx hb zd_Mod_load_7 (by decide) (fun c3 => ?_) (fun c3 => ?_)
  · have hf := zu_t c3 hf
    refine lv_iconst (v := 0) hx hb zd_Mod_load_16 (by decide) ?_
    refine lv_istore_n (lv' := [(3, .int (0 : Int32)), (2, .int v1), (0, .ref (ad 95)), (1, .int a1)]) hx hb zd_Mod_load_17 rfl hl (by decide) rfl (fun ls hl => ?_)
    exact zl_Mod_load_L18 B hret hlk 400 a1 (0 : Int32) X _ _ _ hP hS (lv_sub hl [2, 3, 0] rfl) hf
  · have hf := zu_f c3 hf
    refine lv_aload_n hx hb zd_Mod_load_10 rfl (lv_at hl 1 rfl) ?_
    refine lv_iload_n hx hb zd_Mod_load_11 rfl (lv_at hl 0 rfl) ?_
    obtain ⟨v4, X5, hq6, hf⟩ := zu_b2_e hf
    refine zw_Mod_finds (rest := []) B hP hS hq6 zq_944 (Nat.le_of_ble_eq_true rfl) (Nat.le_of_ble_eq_true rfl) hl.1 rfl (Nat.le_of_ble_eq_true rfl) zd_Mod_load_12 (by decide) (fun H locs hP hS => ?_)
    clear hq6
    obtain rfl := Option.some.inj hf
    exact zr_iret hx hb hret hlk hP hS zd_Mod_load_15
theorem zC_Mod_load (l : Launch) {D : va_G} {cA : Nat → ClassId} {ad : Nat → Nat} {A : Nat → Prop} {a1 : Int32} {X : IX} {Y : LX} {res : Int32 × IX} (hf : fn_Mod_load a1 X = some res) : Met l zm_Mod_load (zu_ws zm_Mod_load zb_Mod_load 4 (some .int)) zR_Mod_load (va_Pc [.ref (ad 95), .int a1] (zu_Pre D cA ad A X Y)) (zu_Qi D cA ad A res.1 res.2 Y) 0 0 A := by
  refine Met.ofW (cc := zb_Mod_load) (maxL := 4) (ret := (some .int)) (by decide +kernel) rfl ?_
  intro p e s m args below meth c s₁ B0 hml hv
  obtain ⟨rfl, hP, hST⟩ := hv
  have B : zu_B p s m _ c zb_Mod_load 4 "StonePostModel" D cA ad A := ⟨B0.exec, B0.bytes, hml, findClass_of_methodNamed B0.named, (fun w hw => atoms_spec (ws := zu_ws zm_Mod_load zb_Mod_load 4 (some .int)) B0.pre w (List.mem_cons_of_mem _ hw)), hST⟩
  have hl := lv_entry ([.ref (ad 95), .int a1]) (n := 4) (Nat.le_of_ble_eq_true rfl)
  rw [lg_entry_eq]
  generalize (lg_sl ([.ref (ad 95), .int a1]) ++ List.replicate (4 - (lg_sl ([.ref (ad 95), .int a1])).length) Slot.unset).toArray = ls at hl ⊢
  exact zl_Mod_load B B0.returns B0.notSynchronized s.heap [] ls hP va_S.rf hl  hf
theorem zw_Mod_load {p : Program} {l : Launch} {e : Env} {R : Room} {s : State} {m : MethodId} {args : Array Value} {below : List Frame} {meth : Method} {c : Code} {H : Heap} {locs : List Loc} {cells slots : Nat} {Q : State → Prop} {cc : ByteArray} {pc nL : Nat} {ls : Array Slot} {rest st0 : List Value} {D : va_G} {cA : Nat → ClassId} {ad : Nat → Nat} {A : Nat → Prop} {X : IX} {Y : LX} {own : String} {index : Nat} {a1 : Int32} {v1 : Int32} {X1 : IX} (B : zu_B p s m args c cc nL own D cA ad A) (hP : va_P D zu_cl (zu_pic cA ad X Y) H) (hS : va_S A s.heap H locs) (hq : fn_Mod_load a1 X = some (v1, X1)) (m1 : Cond.methodLink own index zm_Mod_load ∈ zu_TB) (hR1 : 3 + 1 ≤ R.frames) (hR2 : 8 + (4 + 11) + 66 ≤ R.locals) (hsz : ls.size = nL) (hst : st0 = .int a1 :: .ref (ad 95) :: rest) (hw : (rest.map fun v => v.category).sum ≤ 8) (hdg : decode cc pc = .ok (.invokevirtual index, 3)) (h00 : cells ≤ R.cells ∧ slots ≤ R.slots) (kk : ∀ (H1 : Heap) (locs1 : List Loc), va_P D zu_cl (zu_pic cA ad X1 Y) H1 → va_S A s.heap H1 locs1 → W p l e R s m args below meth c H1 locs1 cells slots Q (F0 m (pc + 3) ls (.int v1 :: rest))) : W p l e R s m args below meth c H locs cells slots Q (F0 m pc ls st0) := by
  subst hst
  exact zr_cVi (As := [.int a1]) (rest := rest) (n := 1) (C := "StonePostModel") (T := zt_Mod) (N := 23) B hP hS (zC_Mod_load l  hq) (K := 7) rfl (by decide) (by decide) rfl rfl m1 zq_1359 zq_1360 zq_8 zq_1361 (by decide +kernel) ⟨hR1, hR2⟩ rfl rfl rfl hsz rfl hw hdg h00 kk
abbrev zR_Mod_judge : Room := { frames := 6, cells := 0, slots := 0, locals := 142 }
theorem zd_Mod_judge_0 : decode zb_Mod_judge 0 = .ok (.aload_n 0, 1) := by decide +kernel
theorem zd_Mod_judge_1 : decode zb_Mod_judge 1 = .ok (.iload_n 1, 1) := by decide +kernel
theorem zd_Mod_judge_2 : decode zb_Mod_judge 2 = .ok (.invokevirtual 350, 3) := by decide +kernel
theorem zd_Mod_judge_5 : decode zb_Mod_judge 5 = .ok (.istore_n 3, 1) := by decide +kernel
theorem zd_Mod_judge_6 : decode zb_Mod_judge 6 = .ok (.iload_n 3, 1) := by decide +kernel
theorem zd_Mod_judge_7 : decode zb_Mod_judge 7 = .ok (.ifCond .eq 9, 3) := by decide +kernel
theorem zd_Mod_judge_10 : decode zb_Mod_judge 10 = .ok (.aload_n 0, 1) := by decide +kernel
theorem zd_Mod_judge_11 : decode zb_Mod_judge 11 = .ok (.iload_n 3, 1) := by decide +kernel
theorem zd_Mod_judge_12 : decode zb_Mod_judge 12 = .ok (.invokevirtual 64, 3) := by decide +kernel
theorem zd_Mod_judge_15 : decode zb_Mod_judge 15 = .ok (.ireturn, 1) := by decide +kernel
theorem zd_Mod_judge_16 : decode zb_Mod_judge 16 = .ok (.aload_n 0, 1) := by decide +kernel
theorem zd_Mod_judge_17 : decode zb_Mod_judge 17 = .ok (.iload_n 2, 1) := by decide +kernel
theorem zd_Mod_judge_18 : decode zb_Mod_judge 18 = .ok (.invokevirtual 142, 3) := by decide +kernel
theorem zd_Mod_judge_21 : decode zb_Mod_judge 21 = .ok (.ifCond .ne 10, 3) := by decide +kernel
theorem zd_Mod_judge_24 : decode zb_Mod_judge 24 = .ok (.aload_n 0, 1) := by decide +kernel
theorem zd_Mod_judge_25 : decode zb_Mod_judge 25 = .ok (.ldc 50, 2) := by decide +kernel
theorem zd_Mod_judge_27 : decode zb_Mod_judge 27 = .ok (.invokevirtual 64, 3) := by decide +kernel
theorem zd_Mod_judge_30 : decode zb_Mod_judge 30 = .ok (.ireturn, 1) := by decide +kernel
theorem zd_Mod_judge_31 : decode zb_Mod_judge 31 = .ok (.iconst 1, 1) := by decide +kernel
theorem zd_Mod_judge_32 : decode zb_Mod_judge 32 = .ok (.aload_n 0, 1) := by decide +kernel
theorem zd_Mod_judge_33 : decode zb_Mod_judge 33 = .ok (.getfield 7, 3) := by decide +kernel
theorem zd_Mod_judge_36 : decode zb_Mod_judge 36 = .ok (.bipush 120, 2) := by decide +kernel
theorem zd_Mod_judge_38 : decode zb_Mod_judge 38 = .ok (.iload_n 2, 1) := by decide +kernel
theorem zd_Mod_judge_39 : decode zb_Mod_judge 39 = .ok (.iadd, 1) := by decide +kernel
theorem zd_Mod_judge_40 : decode zb_Mod_judge 40 = .ok (.iaload, 1) := by decide +kernel
theorem zd_Mod_judge_41 : decode zb_Mod_judge 41 = .ok (.ishl, 1) := by decide +kernel
theorem zd_Mod_judge_42 : decode zb_Mod_judge 42 = .ok (.istore 4, 2) := by decide +kernel
theorem zd_Mod_judge_44 : decode zb_Mod_judge 44 = .ok (.iconst 0, 1) := by decide +kernel
theorem zd_Mod_judge_45 : decode zb_Mod_judge 45 = .ok (.istore 5, 2) := by decide +kernel
theorem zd_Mod_judge_47 : decode zb_Mod_judge 47 = .ok (.iload 5, 2) := by decide +kernel
theorem zd_Mod_judge_49 : decode zb_Mod_judge 49 = .ok (.aload_n 0, 1) := by decide +kernel
theorem zd_Mod_judge_50 : decode zb_Mod_judge 50 = .ok (.getfield 41, 3) := by decide +kernel
theorem zd_Mod_judge_53 : decode zb_Mod_judge 53 = .ok (.iload_n 1, 1) := by decide +kernel
theorem zd_Mod_judge_54 : decode zb_Mod_judge 54 = .ok (.iaload, 1) := by decide +kernel
theorem zd_Mod_judge_55 : decode zb_Mod_judge 55 = .ok (.if_icmp .ge 72, 3) := by decide +kernel
theorem zd_Mod_judge_58 : decode zb_Mod_judge 58 = .ok (.aload_n 0, 1) := by decide +kernel
theorem zd_Mod_judge_59 : decode zb_Mod_judge 59 = .ok (.getfield 44, 3) := by decide +kernel
theorem zd_Mod_judge_62 : decode zb_Mod_judge 62 = .ok (.bipush 40, 2) := by decide +kernel
theorem zd_Mod_judge_64 : decode zb_Mod_judge 64 = .ok (.iload_n 1, 1) := by decide +kernel
theorem zd_Mod_judge_65 : decode zb_Mod_judge 65 = .ok (.imul, 1) := by decide +kernel
theorem zd_Mod_judge_66 : decode zb_Mod_judge 66 = .ok (.iload 5, 2) := by decide +kernel
theorem zd_Mod_judge_68 : decode zb_Mod_judge 68 = .ok (.iadd, 1) := by decide +kernel
theorem zd_Mod_judge_69 : decode zb_Mod_judge 69 = .ok (.iaload, 1) := by decide +kernel
theorem zd_Mod_judge_70 : decode zb_Mod_judge 70 = .ok (.invokestatic 58, 3) := by decide +kernel
theorem zd_Mod_judge_73 : decode zb_Mod_judge 73 = .ok (.ifCond .eq 54, 3) := by decide +kernel
theorem zd_Mod_judge_76 : decode zb_Mod_judge 76 = .ok (.iload 4, 2) := by decide +kernel
theorem zd_Mod_judge_78 : decode zb_Mod_judge 78 = .ok (.aload_n 0, 1) := by decide +kernel
theorem zd_Mod_judge_79 : decode zb_Mod_judge 79 = .ok (.getfield 44, 3) := by decide +kernel
theorem zd_Mod_judge_82 : decode zb_Mod_judge 82 = .ok (.bipush 40, 2) := by decide +kernel
theorem zd_Mod_judge_84 : decode zb_Mod_judge 84 = .ok (.iload_n 1, 1) := by decide +kernel
theorem zd_Mod_judge_85 : decode zb_Mod_judge 85 = .ok (.imul, 1) := by decide +kernel
theorem zd_Mod_judge_86 : decode zb_Mod_judge 86 = .ok (.iload 5, 2) := by decide +kernel
theorem zd_Mod_judge_88 : decode zb_Mod_judge 88 = .ok (.iadd, 1) := by decide +kernel
theorem zd_Mod_judge_89 : decode zb_Mod_judge 89 = .ok (.iaload, 1) := by decide +kernel
theorem zd_Mod_judge_90 : decode zb_Mod_judge 90 = .ok (.invokestatic 175, 3) := by decide +kernel
theorem zd_Mod_judge_93 : decode zb_Mod_judge 93 = .ok (.ifCond .eq 34, 3) := by decide +kernel
theorem zd_Mod_judge_96 : decode zb_Mod_judge 96 = .ok (.aload_n 0, 1) := by decide +kernel
theorem zd_Mod_judge_97 : decode zb_Mod_judge 97 = .ok (.aload_n 0, 1) := by decide +kernel
theorem zd_Mod_judge_98 : decode zb_Mod_judge 98 = .ok (.getfield 44, 3) := by decide +kernel
theorem zd_Mod_judge_101 : decode zb_Mod_judge 101 = .ok (.bipush 40, 2) := by decide +kernel
theorem zd_Mod_judge_103 : decode zb_Mod_judge 103 = .ok (.iload_n 1, 1) := by decide +kernel
theorem zd_Mod_judge_104 : decode zb_Mod_judge 104 = .ok (.imul, 1) := by decide +kernel
theorem zd_Mod_judge_105 : decode zb_Mod_judge 105 = .ok (.iload 5, 2) := by decide +kernel
theorem zd_Mod_judge_107 : decode zb_Mod_judge 107 = .ok (.iadd, 1) := by decide +kernel
theorem zd_Mod_judge_108 : decode zb_Mod_judge 108 = .ok (.iaload, 1) := by decide +kernel
theorem zd_Mod_judge_109 : decode zb_Mod_judge 109 = .ok (.aload_n 0, 1) := by decide +kernel
theorem zd_Mod_judge_110 : decode zb_Mod_judge 110 = .ok (.iload 5, 2) := by decide +kernel
theorem zd_Mod_judge_112 : decode zb_Mod_judge 112 = .ok (.invokevirtual 145, 3) := by decide +kernel
theorem zd_Mod_judge_115 : decode zb_Mod_judge 115 = .ok (.iconst (-1), 1) := by decide +kernel
theorem zd_Mod_judge_116 : decode zb_Mod_judge 116 = .ok (.invokevirtual 178, 3) := by decide +kernel
theorem zd_Mod_judge_119 : decode zb_Mod_judge 119 = .ok (.istore 4, 2) := by decide +kernel
theorem zd_Mod_judge_121 : decode zb_Mod_judge 121 = .ok (.iinc 5 1, 3) := by decide +kernel
theorem zd_Mod_judge_124 : decode zb_Mod_judge 124 = .ok (.goto (-77), 3) := by decide +kernel
theorem zd_Mod_judge_127 : decode zb_Mod_judge 127 = .ok (.iload 5, 2) := by decide +kernel
theorem zd_Mod_judge_129 : decode zb_Mod_judge 129 = .ok (.aload_n 0, 1) := by decide +kernel
theorem zd_Mod_judge_130 : decode zb_Mod_judge 130 = .ok (.getfield 41, 3) := by decide +kernel
theorem zd_Mod_judge_133 : decode zb_Mod_judge 133 = .ok (.iload_n 1, 1) := by decide +kernel
theorem zd_Mod_judge_134 : decode zb_Mod_judge 134 = .ok (.iaload, 1) := by decide +kernel
theorem zd_Mod_judge_135 : decode zb_Mod_judge 135 = .ok (.if_icmp .ne 7, 3) := by decide +kernel
theorem zd_Mod_judge_138 : decode zb_Mod_judge 138 = .ok (.iconst 0, 1) := by decide +kernel
theorem zd_Mod_judge_139 : decode zb_Mod_judge 139 = .ok (.goto 7, 3) := by decide +kernel
theorem zd_Mod_judge_142 : decode zb_Mod_judge 142 = .ok (.iconst 1, 1) := by decide +kernel
theorem zd_Mod_judge_143 : decode zb_Mod_judge 143 = .ok (.iload 5, 2) := by decide +kernel
theorem zd_Mod_judge_145 : decode zb_Mod_judge 145 = .ok (.iadd, 1) := by decide +kernel
theorem zd_Mod_judge_146 : decode zb_Mod_judge 146 = .ok (.ireturn, 1) := by decide +kernel
set_option maxHeartbeats 4000000 in
theorem zl_Mod_judge_L146 {p : Program} {l : Launch} {e : Env} {s : State} {m : MethodId} {args : Array Value} {below : List Frame} {meth : Method} {c : Code} {D : va_G} {cA : Nat → ClassId} {ad : Nat → Nat} {A : Nat → Prop} (B : zu_B p s m args c zb_Mod_judge 6 "StonePostModel" D cA ad A) (hret : meth.sig.returnType = (some .int)) (hlk : meth.locks = false) {Y : LX} {res : Int32 × IX} (y0 : Int32) (X : IX) (H : Heap) (locs : List Loc) (ls : Array Slot) (hP : va_P D zu_cl (zu_pic cA ad X Y) H) (hS : va_S A s.heap H locs) (hl : lv_has ls 6 []) (hf : fn_Mod_judge_L146 y0 X = some res) : W p l e zR_Mod_judge s m args below meth c H locs 0 0 (MQ below (zu_Qi D cA ad A res.1 res.2 Y) args s 0 0 A) (F0 m 146 ls [.int y0]) := by
  obtain ⟨hx, hb, hml, hown, hts, hST⟩ := id B
  unfold fn_Mod_judge_L146 at hf
  obtain rfl := Option.some.inj hf
  exact zr_iret hx hb hret hlk hP hS zd_Mod_judge_146
set_option maxHeartbeats 4000000 in
theorem zl_Mod_judge_L127 {p : Program} {l : Launch} {e : Env} {s : State} {m : MethodId} {args : Array Value} {below : List Frame} {meth : Method} {c : Code} {D : va_G} {cA : Nat → ClassId} {ad : Nat → Nat} {A : Nat → Prop} (B : zu_B p s m args c zb_Mod_judge 6 "StonePostModel" D cA ad A) (hret : meth.sig.returnType = (some .int)) (hlk : meth.locks = false) {Y : LX} {res : Int32 × IX} (x1 : Int32) (x5 : Int32) (X : IX) (H : Heap) (locs : List Loc) (ls : Array Slot) (hP : va_P D zu_cl (zu_pic cA ad X Y) H) (hS : va_S A s.heap H locs) (hl : lv_has ls 6 [(0, .ref (ad 95)), (1, .int x1), (5, .int x5)]) (hf : fn_Mod_judge_L127 x1 x5 X = some res) : W p l e zR_Mod_judge s m args below meth c H locs 0 0 (MQ below (zu_Qi D cA ad A res.1 res.2 Y) args s 0 0 A) (F0 m 127 ls []) := by
  obtain ⟨hx, hb, hml, hown, hts, hST⟩ := id B
  unfold fn_Mod_judge_L127 at hf
  refine lv_iload hx hb zd_Mod_judge_127 (lv_at hl 2 rfl) ?_
  refine lv_aload_n hx hb zd_Mod_judge_129 rfl (lv_at hl 0 rfl) ?_
  refine zg_Mod_sizeOf B hP rfl zq_881 zd_Mod_judge_130 ?_
  refine lv_iload_n hx hb zd_Mod_judge_133 rfl (lv_at hl 1 rfl) ?_
  obtain ⟨hg32, hf⟩ := zu_gd_e hf
  refine zr_iald rfl B hP rfl (by decide) rfl hg32 zd_Mod_judge_134 ?_
  refine lv_icmp_ne (tgt := 142) hx hb zd_Mod_judge_135 (by decide) (fun c33 => ?_) (fun c33 => ?_)
  · have hf := zu_f c33 hf
    refine lv_iconst (v := 1) hx hb zd_Mod_judge_142 (by decide) ?_
    refine lv_iload hx hb zd_Mod_judge_143 (lv_at hl 2 rfl) ?_
    refine lv_iadd hx hb zd_Mod_judge_145 ?_
    exact zl_Mod_judge_L146 B hret hlk ((1 : Int32) + x5) X _ _ _ hP hS (lv_sub hl [] rfl) hf
  · have hf := zu_t c33 hf
    refine lv_iconst (v := 0) hx hb zd_Mod_judge_138 (by decide) ?_
    refine lv_goto (tgt := 146) hx hb zd_Mod_judge_139 (by decide) ?_
    exact zl_Mod_judge_L146 B hret hlk (0 : Int32) X _ _ _ hP hS (lv_sub hl [] rfl) hf
set_option maxHeartbeats 4000000 in
theorem zl_Mod_judge_B47 {p : Program} {l : Launch} {e : Env} {s : State} {m : MethodId} {args : Array Value} {below : List Frame} {meth : Method} {c : Code} {D : va_G} {cA : Nat → ClassId} {ad : Nat → Nat} {A : Nat → Prop} (B : zu_B p s m args c zb_Mod_judge 6 "StonePostModel" D cA ad A) (hret : meth.sig.returnType = (some .int)) (hlk : meth.locks = false) {Y : LX} {res : Int32 × IX} {k47 : Int32 → Int32 → Int32 → IX → Option (Int32 × IX)} (hk47 : ∀ (x1 : Int32) (x4 : Int32) (x5 : Int32) (X : IX) (H : Heap) (locs : List Loc) (ls : Array Slot), va_P D zu_cl (zu_pic cA ad X Y) H → va_S A s.heap H locs → lv_has ls 6 [(0, .ref (ad 95)), (1, .int x1), (4, .int x4), (5, .int x5)] → k47 x1 x4 x5 X = some res → W p l e zR_Mod_judge s m args below meth c H locs 0 0 (MQ below (zu_Qi D cA ad A res.1 res.2 Y) args s 0 0 A) (F0 m 47 ls [])) (x1 : Int32) (x4 : Int32) (x5 : Int32) (X : IX) (H : Heap) (locs : List Loc) (ls : Array Slot) (hP : va_P D zu_cl (zu_pic cA ad X Y) H) (hS : va_S A s.heap H locs) (hl : lv_has ls 6 [(0, .ref (ad 95)), (1, .int x1), (4, .int x4), (5, .int x5)]) (hf : fn_Mod_judge_B47 k47 x1 x4 x5 X = some res) : W p l e zR_Mod_judge s m args below meth c H locs 0 0 (MQ below (zu_Qi D cA ad A res.1 res.2 Y) args s 0 0 A) (F0 m 47 ls []) := by
  obtain ⟨hx, hb, hml, hown, hts, hST⟩ := id B
  unfold fn_Mod_judge_B47 at hf
  refine lv_iload hx hb zd_Mod_judge_47 (lv_at hl 3 rfl) ?_
  refine lv_aload_n hx hb zd_Mod_judge_49 rfl (lv_at hl 0 rfl) ?_
  refine zg_Mod_sizeOf B hP rfl zq_881 zd_Mod_judge_50 ?_
  refine lv_iload_n hx hb zd_Mod_judge_53 rfl (lv_at hl 1 rfl) ?_
  obtain ⟨hg15, hf⟩ := zu_gd_e hf
  refine zr_iald rfl B hP rfl (by decide) rfl hg15 zd_Mod_judge_54 ?_
  refine lv_icmp_ge (tgt := 127) hx hb zd_Mod_judge_55 (by decide) (fun c16 => ?_) (fun c16 => ?_)
  · have hf := zu_t c16 hf
    exact zl_Mod_judge_L127 B hret hlk x1 x5 X _ _ _ hP hS (lv_sub hl [0, 1, 3] rfl) hf
  · have hf := zu_f c16 hf
    refine lv_aload_n hx hb zd_Mod_judge_58 rfl (lv_at hl 0 rfl) ?_
    refine zg_Mod_number B hP rfl zq_882 zd_Mod_judge_59 ?_
    refine lv_bipush (v := 40) hx hb zd_Mod_judge_62 (by decide) ?_
    refine lv_iload_n hx hb zd_Mod_judge_64 rfl (lv_at hl 1 rfl) ?_
    refine lv_imul hx hb zd_Mod_judge_65 ?_
    refine lv_iload hx hb zd_Mod_judge_66 (lv_at hl 3 rfl) ?_
    refine lv_iadd hx hb zd_Mod_judge_68 ?_
    obtain ⟨hg17, hf⟩ := zu_gd_e hf
    refine zr_iald rfl B hP rfl (by decide) rfl hg17 zd_Mod_judge_69 ?_
    obtain ⟨v18, hq19, hf⟩ := zu_b1_e hf
    refine zw_Mod_isCell (rest := []) B hP hS hq19 zq_935 (Nat.le_of_ble_eq_true rfl) (Nat.le_of_ble_eq_true rfl) hl.1 rfl (Nat.le_of_ble_eq_true rfl) zd_Mod_judge_70 (by decide) (fun H locs hP hS => ?_)
    clear hq19
    refine lv_if_eq (tgt := 127) hx hb zd_Mod_judge_73 (by decide) (fun c20 => ?_) (fun c20 => ?_)
    · have hf := zu_t c20 hf
      exact zl_Mod_judge_L127 B hret hlk x1 x5 X _ _ _ hP hS (lv_sub hl [0, 1, 3] rfl) hf
    · have hf := zu_f c20 hf
      refine lv_iload hx hb zd_Mod_judge_76 (lv_at hl 2 rfl) ?_
      refine lv_aload_n hx hb zd_Mod_judge_78 rfl (lv_at hl 0 rfl) ?_
      refine zg_Mod_number B hP rfl zq_882 zd_Mod_judge_79 ?_
      refine lv_bipush (v := 40) hx hb zd_Mod_judge_82 (by decide) ?_
      refine lv_iload_n hx hb zd_Mod_judge_84 rfl (lv_at hl 1 rfl) ?_
      refine lv_imul hx hb zd_Mod_judge_85 ?_
      refine lv_iload hx hb zd_Mod_judge_86 (lv_at hl 3 rfl) ?_
      refine lv_iadd hx hb zd_Mod_judge_88 ?_
      obtain ⟨hg21, hf⟩ := zu_gd_e hf
      refine zr_iald rfl B hP rfl (by decide) rfl hg21 zd_Mod_judge_89 ?_
      obtain ⟨v22, hq23, hf⟩ := zu_b1_e hf
      refine zw_Mod_has (rest := []) B hP hS hq23 zq_1117 (Nat.le_of_ble_eq_true rfl) (Nat.le_of_ble_eq_true rfl) hl.1 rfl (Nat.le_of_ble_eq_true rfl) zd_Mod_judge_90 (by decide) (fun H locs hP hS => ?_)
      clear hq23
      refine lv_if_eq (tgt := 127) hx hb zd_Mod_judge_93 (by decide) (fun c24 => ?_) (fun c24 => ?_)
      · have hf := zu_t c24 hf
        exact zl_Mod_judge_L127 B hret hlk x1 x5 X _ _ _ hP hS (lv_sub hl [0, 1, 3] rfl) hf
      · have hf := zu_f c24 hf
        refine lv_aload_n hx hb zd_Mod_judge_96 rfl (lv_at hl 0 rfl) ?_
        refine lv_aload_n hx hb zd_Mod_judge_97 rfl (lv_at hl 0 rfl) ?_
        refine zg_Mod_number B hP rfl zq_882 zd_Mod_judge_98 ?_
        refine lv_bipush (v := 40) hx hb zd_Mod_judge_101 (by decide) ?_
        refine lv_iload_n hx hb zd_Mod_judge_103 rfl (lv_at hl 1 rfl) ?_
        refine lv_imul hx hb zd_Mod_judge_104 ?_
        refine lv_iload hx hb zd_Mod_judge_105 (lv_at hl 3 rfl) ?_
        refine lv_iadd hx hb zd_Mod_judge_107 ?_
        obtain ⟨hg25, hf⟩ := zu_gd_e hf
        refine zr_iald rfl B hP rfl (by decide) rfl hg25 zd_Mod_judge_108 ?_
        refine lv_aload_n hx hb zd_Mod_judge_109 rfl (lv_at hl 0 rfl) ?_
        refine lv_iload hx hb zd_Mod_judge_110 (lv_at hl 3 rfl) ?_
        obtain ⟨v26, ehq27, hf⟩ := zu_nx_e hf
        have hq27 := ehq27.symm
        refine zw_Mod_clockIn (rest := [.int (X 107 ((((40 : Int32) * x1) + x5).toNatClampNeg)), .ref (ad 95)]) B hP hS hq27 zq_1071 (Nat.le_of_ble_eq_true rfl) (Nat.le_of_ble_eq_true rfl) hl.1 rfl (Nat.le_of_ble_eq_true rfl) zd_Mod_judge_112 (by decide) (fun H locs hP hS => ?_)
        clear hq27 ehq27
        refine lv_iconst (v := -1) hx hb zd_Mod_judge_115 (by decide) ?_
        obtain ⟨v28, X29, hq30, hf⟩ := zu_b2_e hf
        refine zw_Mod_ways (rest := []) B hP hS hq30 zq_1124 (Nat.le_of_ble_eq_true rfl) (Nat.le_of_ble_eq_true rfl) hl.1 rfl (Nat.le_of_ble_eq_true rfl) zd_Mod_judge_116 (by decide) (fun H locs hP hS => ?_)
        clear hq30
        refine lv_istore (lv' := [(4, .int v28), (0, .ref (ad 95)), (1, .int x1), (5, .int x5)]) hx hb zd_Mod_judge_119 hl (by decide) rfl (fun ls hl => ?_)
        obtain ⟨v31, ev31, hf⟩ := zu_nx_e hf
        refine lv_iinc (v := v31) (lv' := [(5, .int v31), (4, .int v28), (0, .ref (ad 95)), (1, .int x1)]) hx hb zd_Mod_judge_121 hl (k := 3) rfl (by rw [ev31]; rfl) (by decide) rfl (fun ls hl => ?_)
        clear ev31
        refine lv_goto (tgt := 47) hx hb zd_Mod_judge_124 (by decide) ?_
        exact hk47 x1 v28 v31 X29 _ _ _ hP hS (lv_sub hl [2, 3, 1, 0] rfl) hf
theorem zl_Mod_judge_L47 {p : Program} {l : Launch} {e : Env} {s : State} {m : MethodId} {args : Array Value} {below : List Frame} {meth : Method} {c : Code} {D : va_G} {cA : Nat → ClassId} {ad : Nat → Nat} {A : Nat → Prop} (B : zu_B p s m args c zb_Mod_judge 6 "StonePostModel" D cA ad A) (hret : meth.sig.returnType = (some .int)) (hlk : meth.locks = false) {Y : LX} {res : Int32 × IX} : ∀ (n : Nat) (x1 : Int32) (x4 : Int32) (x5 : Int32) (X : IX) (H : Heap) (locs : List Loc) (ls : Array Slot), va_P D zu_cl (zu_pic cA ad X Y) H → va_S A s.heap H locs → lv_has ls 6 [(0, .ref (ad 95)), (1, .int x1), (4, .int x4), (5, .int x5)] → fn_Mod_judge_L47 n x1 x4 x5 X = some res → W p l e zR_Mod_judge s m args below meth c H locs 0 0 (MQ below (zu_Qi D cA ad A res.1 res.2 Y) args s 0 0 A) (F0 m 47 ls []) := by
  intro n
  induction n with
  | zero =>
    intro x1 x4 x5 X H locs ls hP hS hl hf
    exact (Option.some_ne_none _ hf.symm).elim
  | succ n ih =>
    intro x1 x4 x5 X H locs ls hP hS hl hf
    exact zl_Mod_judge_B47 B hret hlk ih x1 x4 x5 X H locs ls hP hS hl  hf
set_option maxHeartbeats 4000000 in
theorem zl_Mod_judge {p : Program} {l : Launch} {e : Env} {s : State} {m : MethodId} {args : Array Value} {below : List Frame} {meth : Method} {c : Code} {D : va_G} {cA : Nat → ClassId} {ad : Nat → Nat} {A : Nat → Prop} (B : zu_B p s m args c zb_Mod_judge 6 "StonePostModel" D cA ad A) (hret : meth.sig.returnType = (some .int)) (hlk : meth.locks = false) {Y : LX} {res : Int32 × IX} {a1 : Int32} {a2 : Int32} {X : IX} (H : Heap) (locs : List Loc) (ls : Array Slot) (hP : va_P D zu_cl (zu_pic cA ad X Y) H) (hS : va_S A s.heap H locs) (hl : lv_has ls 6 [(0, .ref (ad 95)), (1, .int a1), (2, .int a2)]) (hf : fn_Mod_judge a1 a2 X = some res) : W p l e zR_Mod_judge s m args below meth c H locs 0 0 (MQ below (zu_Qi D cA ad A res.1 res.2 Y) args s 0 0 A) (F0 m 0 ls []) := by
  obtain ⟨hx, hb, hml, hown, hts, hST⟩ := id B
  unfold fn_Mod_judge at hf
  refine lv_aload_n hx hb zd_Mod_judge_0 rfl (lv_at hl 0 rfl) ?_
  refine lv_iload_n hx hb zd_Mod_judge_1 rfl (lv_at hl 1 rfl) ?_
  obtain ⟨v1, hq2, hf⟩ := zu_b1_e hf
  refine zw_Mod_wrong (rest := []) B hP hS hq2 zq_1347 (Nat.le_of_ble_eq_true rfl) (Nat.le_of_ble_eq_true rfl) hl.1 rfl (Nat.le_of_ble_eq_true rfl) zd_Mod_judge_2 (by decide) (fun H locs hP hS => ?_)
  clear hq2
  refine lv_istore_n (lv' := [(3, .int v1), (0, .ref (ad 95)), (1, .int a1), (2, .int a2)]) hx hb zd_Mod_judge_5 rfl hl (by decide) rfl (fun ls hl => ?_)
  refine lv_iload_n hx hb zd_Mod_judge_6 rfl (lv_at hl 0 rfl) ?_
  refine lv_if_eq (tgt := 16) hx hb zd_Mod_judge_7 (by decide) (fun c3 => ?_) (fun c3 => ?_)
  · have hf := zu_t c3 hf
    refine lv_aload_n hx hb zd_Mod_judge_16 rfl (lv_at hl 1 rfl) ?_
    refine lv_iload_n hx hb zd_Mod_judge_17 rfl (lv_at hl 3 rfl) ?_
    obtain ⟨v4, hq5, hf⟩ := zu_b1_e hf
    refine zw_Mod_isLetter (rest := []) B hP hS hq5 zq_1050 (Nat.le_of_ble_eq_true rfl) (Nat.le_of_ble_eq_true rfl) hl.1 rfl (Nat.le_of_ble_eq_true rfl) zd_Mod_judge_18 (by decide) (fun H locs hP hS => ?_)
    clear hq5
    refine lv_if_ne (tgt := 31) hx hb zd_Mod_judge_21 (by decide) (fun c6 => ?_) (fun c6 => ?_)
    · have hf := zu_f c6 hf
      refine lv_iconst (v := 1) hx hb zd_Mod_judge_31 (by decide) ?_
      refine lv_aload_n hx hb zd_Mod_judge_32 rfl (lv_at hl 1 rfl) ?_
      refine zg_Mod_s B hP rfl zq_861 zd_Mod_judge_33 ?_
      refine lv_bipush (v := 120) hx hb zd_Mod_judge_36 (by decide) ?_
      refine lv_iload_n hx hb zd_Mod_judge_38 rfl (lv_at hl 3 rfl) ?_
      refine lv_iadd hx hb zd_Mod_judge_39 ?_
      obtain ⟨hg7, hf⟩ := zu_gd_e hf
      refine zr_iald rfl B hP rfl (by decide) rfl hg7 zd_Mod_judge_40 ?_
      refine lv_ishl hx hb zd_Mod_judge_41 ?_
      refine zr_nxi hf (fun v8 hf => ?_)
      refine lv_istore (lv' := [(4, .int v8), (3, .int v1), (0, .ref (ad 95)), (1, .int a1), (2, .int a2)]) hx hb zd_Mod_judge_42 hl (by decide) rfl (fun ls hl => ?_)
      refine lv_iconst (v := 0) hx hb zd_Mod_judge_44 (by decide) ?_
      refine lv_istore (lv' := [(5, .int (0 : Int32)), (4, .int v8), (3, .int v1), (0, .ref (ad 95)), (1, .int a1), (2, .int a2)]) hx hb zd_Mod_judge_45 hl (by decide) rfl (fun ls hl => ?_)
      exact zl_Mod_judge_L47 B hret hlk 400 a1 v8 (0 : Int32) X _ _ _ hP hS (lv_sub hl [3, 4, 1, 0] rfl) hf
    · have hf := zu_t c6 hf
      refine lv_aload_n hx hb zd_Mod_judge_24 rfl (lv_at hl 1 rfl) ?_
      refine lv_ldc (v := -1000001) hx hb hown (hts _ zq_943) zd_Mod_judge_25 ?_
      obtain ⟨v9, X10, hq11, hf⟩ := zu_b2_e hf
      refine zw_Mod_finds (rest := []) B hP hS hq11 zq_944 (Nat.le_of_ble_eq_true rfl) (Nat.le_of_ble_eq_true rfl) hl.1 rfl (Nat.le_of_ble_eq_true rfl) zd_Mod_judge_27 (by decide) (fun H locs hP hS => ?_)
      clear hq11
      obtain rfl := Option.some.inj hf
      exact zr_iret hx hb hret hlk hP hS zd_Mod_judge_30
  · have hf := zu_f c3 hf
    refine lv_aload_n hx hb zd_Mod_judge_10 rfl (lv_at hl 1 rfl) ?_
    refine lv_iload_n hx hb zd_Mod_judge_11 rfl (lv_at hl 0 rfl) ?_
    obtain ⟨v12, X13, hq14, hf⟩ := zu_b2_e hf
    refine zw_Mod_finds (rest := []) B hP hS hq14 zq_944 (Nat.le_of_ble_eq_true rfl) (Nat.le_of_ble_eq_true rfl) hl.1 rfl (Nat.le_of_ble_eq_true rfl) zd_Mod_judge_12 (by decide) (fun H locs hP hS => ?_)
    clear hq14
    obtain rfl := Option.some.inj hf
    exact zr_iret hx hb hret hlk hP hS zd_Mod_judge_15
theorem zC_Mod_judge (l : Launch) {D : va_G} {cA : Nat → ClassId} {ad : Nat → Nat} {A : Nat → Prop} {a1 : Int32} {a2 : Int32} {X : IX} {Y : LX} {res : Int32 × IX} (hf : fn_Mod_judge a1 a2 X = some res) : Met l zm_Mod_judge (zu_ws zm_Mod_judge zb_Mod_judge 6 (some .int)) zR_Mod_judge (va_Pc [.ref (ad 95), .int a1, .int a2] (zu_Pre D cA ad A X Y)) (zu_Qi D cA ad A res.1 res.2 Y) 0 0 A := by
  refine Met.ofW (cc := zb_Mod_judge) (maxL := 6) (ret := (some .int)) (by decide +kernel) rfl ?_
  intro p e s m args below meth c s₁ B0 hml hv
  obtain ⟨rfl, hP, hST⟩ := hv
  have B : zu_B p s m _ c zb_Mod_judge 6 "StonePostModel" D cA ad A := ⟨B0.exec, B0.bytes, hml, findClass_of_methodNamed B0.named, (fun w hw => atoms_spec (ws := zu_ws zm_Mod_judge zb_Mod_judge 6 (some .int)) B0.pre w (List.mem_cons_of_mem _ hw)), hST⟩
  have hl := lv_entry ([.ref (ad 95), .int a1, .int a2]) (n := 6) (Nat.le_of_ble_eq_true rfl)
  rw [lg_entry_eq]
  generalize (lg_sl ([.ref (ad 95), .int a1, .int a2]) ++ List.replicate (6 - (lg_sl ([.ref (ad 95), .int a1, .int a2])).length) Slot.unset).toArray = ls at hl ⊢
  exact zl_Mod_judge B B0.returns B0.notSynchronized s.heap [] ls hP va_S.rf hl  hf
theorem zw_Mod_judge {p : Program} {l : Launch} {e : Env} {R : Room} {s : State} {m : MethodId} {args : Array Value} {below : List Frame} {meth : Method} {c : Code} {H : Heap} {locs : List Loc} {cells slots : Nat} {Q : State → Prop} {cc : ByteArray} {pc nL : Nat} {ls : Array Slot} {rest st0 : List Value} {D : va_G} {cA : Nat → ClassId} {ad : Nat → Nat} {A : Nat → Prop} {X : IX} {Y : LX} {own : String} {index : Nat} {a1 : Int32} {a2 : Int32} {v1 : Int32} {X1 : IX} (B : zu_B p s m args c cc nL own D cA ad A) (hP : va_P D zu_cl (zu_pic cA ad X Y) H) (hS : va_S A s.heap H locs) (hq : fn_Mod_judge a1 a2 X = some (v1, X1)) (m1 : Cond.methodLink own index zm_Mod_judge ∈ zu_TB) (hR1 : 6 + 1 ≤ R.frames) (hR2 : 8 + (6 + 11) + 142 ≤ R.locals) (hsz : ls.size = nL) (hst : st0 = .int a2 :: .int a1 :: .ref (ad 95) :: rest) (hw : (rest.map fun v => v.category).sum ≤ 8) (hdg : decode cc pc = .ok (.invokevirtual index, 3)) (h00 : cells ≤ R.cells ∧ slots ≤ R.slots) (kk : ∀ (H1 : Heap) (locs1 : List Loc), va_P D zu_cl (zu_pic cA ad X1 Y) H1 → va_S A s.heap H1 locs1 → W p l e R s m args below meth c H1 locs1 cells slots Q (F0 m (pc + 3) ls (.int v1 :: rest))) : W p l e R s m args below meth c H locs cells slots Q (F0 m pc ls st0) := by
  subst hst
  exact zr_cVi (As := [.int a1, .int a2]) (rest := rest) (n := 2) (C := "StonePostModel") (T := zt_Mod) (N := 23) B hP hS (zC_Mod_judge l  hq) (K := 7) rfl (by decide) (by decide) rfl rfl m1 zq_1363 zq_1364 zq_8 zq_1365 (by decide +kernel) ⟨hR1, hR2⟩ rfl rfl rfl hsz rfl hw hdg h00 kk
abbrev zR_Mod_image : Room := { frames := 0, cells := 0, slots := 0, locals := 0 }
theorem zd_Mod_image_0 : decode zb_Mod_image 0 = .ok (.iconst 0, 1) := by decide +kernel
theorem zd_Mod_image_1 : decode zb_Mod_image 1 = .ok (.istore_n 1, 1) := by decide +kernel
theorem zd_Mod_image_2 : decode zb_Mod_image 2 = .ok (.iload_n 1, 1) := by decide +kernel
theorem zd_Mod_image_3 : decode zb_Mod_image 3 = .ok (.sipush 142, 3) := by decide +kernel
theorem zd_Mod_image_6 : decode zb_Mod_image 6 = .ok (.if_icmp .ge 21, 3) := by decide +kernel
theorem zd_Mod_image_9 : decode zb_Mod_image 9 = .ok (.aload_n 0, 1) := by decide +kernel
theorem zd_Mod_image_10 : decode zb_Mod_image 10 = .ok (.getfield 13, 3) := by decide +kernel
theorem zd_Mod_image_13 : decode zb_Mod_image 13 = .ok (.iload_n 1, 1) := by decide +kernel
theorem zd_Mod_image_14 : decode zb_Mod_image 14 = .ok (.aload_n 0, 1) := by decide +kernel
theorem zd_Mod_image_15 : decode zb_Mod_image 15 = .ok (.getfield 7, 3) := by decide +kernel
theorem zd_Mod_image_18 : decode zb_Mod_image 18 = .ok (.iload_n 1, 1) := by decide +kernel
theorem zd_Mod_image_19 : decode zb_Mod_image 19 = .ok (.iaload, 1) := by decide +kernel
theorem zd_Mod_image_20 : decode zb_Mod_image 20 = .ok (.iastore, 1) := by decide +kernel
theorem zd_Mod_image_21 : decode zb_Mod_image 21 = .ok (.iinc 1 1, 3) := by decide +kernel
theorem zd_Mod_image_24 : decode zb_Mod_image 24 = .ok (.goto (-22), 3) := by decide +kernel
theorem zd_Mod_image_27 : decode zb_Mod_image 27 = .ok (.aload_n 0, 1) := by decide +kernel
theorem zd_Mod_image_28 : decode zb_Mod_image 28 = .ok (.iconst 1, 1) := by decide +kernel
theorem zd_Mod_image_29 : decode zb_Mod_image 29 = .ok (.putfield 356, 3) := by decide +kernel
theorem zd_Mod_image_32 : decode zb_Mod_image 32 = .ok (.iconst 1, 1) := by decide +kernel
theorem zd_Mod_image_33 : decode zb_Mod_image 33 = .ok (.ireturn, 1) := by decide +kernel
set_option maxHeartbeats 4000000 in
theorem zl_Mod_image_B2 {p : Program} {l : Launch} {e : Env} {s : State} {m : MethodId} {args : Array Value} {below : List Frame} {meth : Method} {c : Code} {D : va_G} {cA : Nat → ClassId} {ad : Nat → Nat} {A : Nat → Prop} (B : zu_B p s m args c zb_Mod_image 2 "StonePostModel" D cA ad A) (hret : meth.sig.returnType = (some .int)) (hlk : meth.locks = false) {Y : LX} {res : Int32 × IX} {k2 : Int32 → IX → Option (Int32 × IX)} (hk2 : ∀ (x1 : Int32) (X : IX) (H : Heap) (locs : List Loc) (ls : Array Slot), va_P D zu_cl (zu_pic cA ad X Y) H → va_S A s.heap H locs → lv_has ls 2 [(0, .ref (ad 95)), (1, .int x1)] → k2 x1 X = some res → W p l e zR_Mod_image s m args below meth c H locs 0 0 (MQ below (zu_Qi D cA ad A res.1 res.2 Y) args s 0 0 A) (F0 m 2 ls [])) (x1 : Int32) (X : IX) (H : Heap) (locs : List Loc) (ls : Array Slot) (hP : va_P D zu_cl (zu_pic cA ad X Y) H) (hS : va_S A s.heap H locs) (hl : lv_has ls 2 [(0, .ref (ad 95)), (1, .int x1)]) (hf : fn_Mod_image_B2 k2 x1 X = some res) : W p l e zR_Mod_image s m args below meth c H locs 0 0 (MQ below (zu_Qi D cA ad A res.1 res.2 Y) args s 0 0 A) (F0 m 2 ls []) := by
  obtain ⟨hx, hb, hml, hown, hts, hST⟩ := id B
  unfold fn_Mod_image_B2 at hf
  refine lv_iload_n hx hb zd_Mod_image_2 rfl (lv_at hl 1 rfl) ?_
  refine lv_sipush (v := 142) hx hb zd_Mod_image_3 (by decide) ?_
  refine lv_icmp_ge (tgt := 27) hx hb zd_Mod_image_6 (by decide) (fun c1 => ?_) (fun c1 => ?_)
  · have hf := zu_t c1 hf
    refine lv_aload_n hx hb zd_Mod_image_27 rfl (lv_at hl 0 rfl) ?_
    refine lv_iconst (v := 1) hx hb zd_Mod_image_28 (by decide) ?_
    refine zp_Mod_isKept B hP hS hf rfl rfl zq_865 zd_Mod_image_29 (fun X2 H locs hf hP hS => ?_)
    refine lv_iconst (v := 1) hx hb zd_Mod_image_32 (by decide) ?_
    obtain rfl := Option.some.inj hf
    exact zr_iret hx hb hret hlk hP hS zd_Mod_image_33
  · have hf := zu_f c1 hf
    refine lv_aload_n hx hb zd_Mod_image_9 rfl (lv_at hl 0 rfl) ?_
    refine zg_Mod_keptS B hP rfl zq_862 zd_Mod_image_10 ?_
    refine lv_iload_n hx hb zd_Mod_image_13 rfl (lv_at hl 1 rfl) ?_
    refine lv_aload_n hx hb zd_Mod_image_14 rfl (lv_at hl 0 rfl) ?_
    refine zg_Mod_s B hP rfl zq_861 zd_Mod_image_15 ?_
    refine lv_iload_n hx hb zd_Mod_image_18 rfl (lv_at hl 1 rfl) ?_
    obtain ⟨hg3, hf⟩ := zu_gd_e hf
    refine zr_iald rfl B hP rfl (by decide) rfl hg3 zd_Mod_image_19 ?_
    obtain ⟨hg4, hf⟩ := zu_gd_e hf
    refine zr_iast rfl B hP hS hf rfl (by decide) rfl hg4 zd_Mod_image_20 (fun X5 H locs hf hP hS => ?_)
    obtain ⟨v6, ev6, hf⟩ := zu_nx_e hf
    refine lv_iinc (v := v6) (lv' := [(1, .int v6), (0, .ref (ad 95))]) hx hb zd_Mod_image_21 hl (k := 1) rfl (by rw [ev6]; rfl) (by decide) rfl (fun ls hl => ?_)
    clear ev6
    refine lv_goto (tgt := 2) hx hb zd_Mod_image_24 (by decide) ?_
    exact hk2 v6 X5 _ _ _ hP hS (lv_sub hl [1, 0] rfl) hf
theorem zl_Mod_image_L2 {p : Program} {l : Launch} {e : Env} {s : State} {m : MethodId} {args : Array Value} {below : List Frame} {meth : Method} {c : Code} {D : va_G} {cA : Nat → ClassId} {ad : Nat → Nat} {A : Nat → Prop} (B : zu_B p s m args c zb_Mod_image 2 "StonePostModel" D cA ad A) (hret : meth.sig.returnType = (some .int)) (hlk : meth.locks = false) {Y : LX} {res : Int32 × IX} : ∀ (n : Nat) (x1 : Int32) (X : IX) (H : Heap) (locs : List Loc) (ls : Array Slot), va_P D zu_cl (zu_pic cA ad X Y) H → va_S A s.heap H locs → lv_has ls 2 [(0, .ref (ad 95)), (1, .int x1)] → fn_Mod_image_L2 n x1 X = some res → W p l e zR_Mod_image s m args below meth c H locs 0 0 (MQ below (zu_Qi D cA ad A res.1 res.2 Y) args s 0 0 A) (F0 m 2 ls []) := by
  intro n
  induction n with
  | zero =>
    intro x1 X H locs ls hP hS hl hf
    exact (Option.some_ne_none _ hf.symm).elim
  | succ n ih =>
    intro x1 X H locs ls hP hS hl hf
    exact zl_Mod_image_B2 B hret hlk ih x1 X H locs ls hP hS hl  hf
set_option maxHeartbeats 4000000 in
theorem zl_Mod_image {p : Program} {l : Launch} {e : Env} {s : State} {m : MethodId} {args : Array Value} {below : List Frame} {meth : Method} {c : Code} {D : va_G} {cA : Nat → ClassId} {ad : Nat → Nat} {A : Nat → Prop} (B : zu_B p s m args c zb_Mod_image 2 "StonePostModel" D cA ad A) (hret : meth.sig.returnType = (some .int)) (hlk : meth.locks = false) {Y : LX} {res : Int32 × IX} {X : IX} (H : Heap) (locs : List Loc) (ls : Array Slot) (hP : va_P D zu_cl (zu_pic cA ad X Y) H) (hS : va_S A s.heap H locs) (hl : lv_has ls 2 [(0, .ref (ad 95))]) (hf : fn_Mod_image X = some res) : W p l e zR_Mod_image s m args below meth c H locs 0 0 (MQ below (zu_Qi D cA ad A res.1 res.2 Y) args s 0 0 A) (F0 m 0 ls []) := by
  obtain ⟨hx, hb, hml, hown, hts, hST⟩ := id B
  unfold fn_Mod_image at hf
  refine lv_iconst (v := 0) hx hb zd_Mod_image_0 (by decide) ?_
  refine lv_istore_n (lv' := [(1, .int (0 : Int32)), (0, .ref (ad 95))]) hx hb zd_Mod_image_1 rfl hl (by decide) rfl (fun ls hl => ?_)
  exact zl_Mod_image_L2 B hret hlk 400 (0 : Int32) X _ _ _ hP hS (lv_sub hl [1, 0] rfl) hf
theorem zC_Mod_image (l : Launch) {D : va_G} {cA : Nat → ClassId} {ad : Nat → Nat} {A : Nat → Prop} {X : IX} {Y : LX} {res : Int32 × IX} (hf : fn_Mod_image X = some res) : Met l zm_Mod_image (zu_ws zm_Mod_image zb_Mod_image 2 (some .int)) zR_Mod_image (va_Pc [.ref (ad 95)] (zu_Pre D cA ad A X Y)) (zu_Qi D cA ad A res.1 res.2 Y) 0 0 A := by
  refine Met.ofW (cc := zb_Mod_image) (maxL := 2) (ret := (some .int)) (by decide +kernel) rfl ?_
  intro p e s m args below meth c s₁ B0 hml hv
  obtain ⟨rfl, hP, hST⟩ := hv
  have B : zu_B p s m _ c zb_Mod_image 2 "StonePostModel" D cA ad A := ⟨B0.exec, B0.bytes, hml, findClass_of_methodNamed B0.named, (fun w hw => atoms_spec (ws := zu_ws zm_Mod_image zb_Mod_image 2 (some .int)) B0.pre w (List.mem_cons_of_mem _ hw)), hST⟩
  have hl := lv_entry ([.ref (ad 95)]) (n := 2) (Nat.le_of_ble_eq_true rfl)
  rw [lg_entry_eq]
  generalize (lg_sl ([.ref (ad 95)]) ++ List.replicate (2 - (lg_sl ([.ref (ad 95)])).length) Slot.unset).toArray = ls at hl ⊢
  exact zl_Mod_image B B0.returns B0.notSynchronized s.heap [] ls hP va_S.rf hl  hf
theorem zw_Mod_image {p : Program} {l : Launch} {e : Env} {R : Room} {s : State} {m : MethodId} {args : Array Value} {below : List Frame} {meth : Method} {c : Code} {H : Heap} {locs : List Loc} {cells slots : Nat} {Q : State → Prop} {cc : ByteArray} {pc nL : Nat} {ls : Array Slot} {rest st0 : List Value} {D : va_G} {cA : Nat → ClassId} {ad : Nat → Nat} {A : Nat → Prop} {X : IX} {Y : LX} {own : String} {index : Nat} {v1 : Int32} {X1 : IX} (B : zu_B p s m args c cc nL own D cA ad A) (hP : va_P D zu_cl (zu_pic cA ad X Y) H) (hS : va_S A s.heap H locs) (hq : fn_Mod_image X = some (v1, X1)) (m1 : Cond.methodLink own index zm_Mod_image ∈ zu_TB) (hR1 : 0 + 1 ≤ R.frames) (hR2 : 8 + (2 + 11) + 0 ≤ R.locals) (hsz : ls.size = nL) (hst : st0 = .ref (ad 95) :: rest) (hw : (rest.map fun v => v.category).sum ≤ 8) (hdg : decode cc pc = .ok (.invokevirtual index, 3)) (h00 : cells ≤ R.cells ∧ slots ≤ R.slots) (kk : ∀ (H1 : Heap) (locs1 : List Loc), va_P D zu_cl (zu_pic cA ad X1 Y) H1 → va_S A s.heap H1 locs1 → W p l e R s m args below meth c H1 locs1 cells slots Q (F0 m (pc + 3) ls (.int v1 :: rest))) : W p l e R s m args below meth c H locs cells slots Q (F0 m pc ls st0) := by
  subst hst
  exact zr_cVi (As := []) (rest := rest) (n := 0) (C := "StonePostModel") (T := zt_Mod) (N := 23) B hP hS (zC_Mod_image l  hq) (K := 7) rfl (by decide) (by decide) rfl rfl m1 zq_1367 zq_1368 zq_8 zq_1369 (by decide +kernel) ⟨hR1, hR2⟩ rfl rfl rfl hsz rfl hw hdg h00 kk
abbrev zR_Mod_undo : Room := { frames := 1, cells := 0, slots := 0, locals := 21 }
theorem zd_Mod_undo_0 : decode zb_Mod_undo 0 = .ok (.aload_n 0, 1) := by decide +kernel
theorem zd_Mod_undo_1 : decode zb_Mod_undo 1 = .ok (.getfield 356, 3) := by decide +kernel
theorem zd_Mod_undo_4 : decode zb_Mod_undo 4 = .ok (.ifCond .ne 10, 3) := by decide +kernel
theorem zd_Mod_undo_7 : decode zb_Mod_undo 7 = .ok (.aload_n 0, 1) := by decide +kernel
theorem zd_Mod_undo_8 : decode zb_Mod_undo 8 = .ok (.ldc 128, 2) := by decide +kernel
theorem zd_Mod_undo_10 : decode zb_Mod_undo 10 = .ok (.invokevirtual 64, 3) := by decide +kernel
theorem zd_Mod_undo_13 : decode zb_Mod_undo 13 = .ok (.ireturn, 1) := by decide +kernel
theorem zd_Mod_undo_14 : decode zb_Mod_undo 14 = .ok (.iconst 0, 1) := by decide +kernel
theorem zd_Mod_undo_15 : decode zb_Mod_undo 15 = .ok (.istore_n 1, 1) := by decide +kernel
theorem zd_Mod_undo_16 : decode zb_Mod_undo 16 = .ok (.iload_n 1, 1) := by decide +kernel
theorem zd_Mod_undo_17 : decode zb_Mod_undo 17 = .ok (.sipush 142, 3) := by decide +kernel
theorem zd_Mod_undo_20 : decode zb_Mod_undo 20 = .ok (.if_icmp .ge 21, 3) := by decide +kernel
theorem zd_Mod_undo_23 : decode zb_Mod_undo 23 = .ok (.aload_n 0, 1) := by decide +kernel
theorem zd_Mod_undo_24 : decode zb_Mod_undo 24 = .ok (.getfield 7, 3) := by decide +kernel
theorem zd_Mod_undo_27 : decode zb_Mod_undo 27 = .ok (.iload_n 1, 1) := by decide +kernel
theorem zd_Mod_undo_28 : decode zb_Mod_undo 28 = .ok (.aload_n 0, 1) := by decide +kernel
theorem zd_Mod_undo_29 : decode zb_Mod_undo 29 = .ok (.getfield 13, 3) := by decide +kernel
theorem zd_Mod_undo_32 : decode zb_Mod_undo 32 = .ok (.iload_n 1, 1) := by decide +kernel
theorem zd_Mod_undo_33 : decode zb_Mod_undo 33 = .ok (.iaload, 1) := by decide +kernel
theorem zd_Mod_undo_34 : decode zb_Mod_undo 34 = .ok (.iastore, 1) := by decide +kernel
theorem zd_Mod_undo_35 : decode zb_Mod_undo 35 = .ok (.iinc 1 1, 3) := by decide +kernel
theorem zd_Mod_undo_38 : decode zb_Mod_undo 38 = .ok (.goto (-22), 3) := by decide +kernel
theorem zd_Mod_undo_41 : decode zb_Mod_undo 41 = .ok (.aload_n 0, 1) := by decide +kernel
theorem zd_Mod_undo_42 : decode zb_Mod_undo 42 = .ok (.getfield 7, 3) := by decide +kernel
theorem zd_Mod_undo_45 : decode zb_Mod_undo 45 = .ok (.iconst 0, 1) := by decide +kernel
theorem zd_Mod_undo_46 : decode zb_Mod_undo 46 = .ok (.iaload, 1) := by decide +kernel
theorem zd_Mod_undo_47 : decode zb_Mod_undo 47 = .ok (.ireturn, 1) := by decide +kernel
set_option maxHeartbeats 4000000 in
theorem zl_Mod_undo_B16 {p : Program} {l : Launch} {e : Env} {s : State} {m : MethodId} {args : Array Value} {below : List Frame} {meth : Method} {c : Code} {D : va_G} {cA : Nat → ClassId} {ad : Nat → Nat} {A : Nat → Prop} (B : zu_B p s m args c zb_Mod_undo 2 "StonePostModel" D cA ad A) (hret : meth.sig.returnType = (some .int)) (hlk : meth.locks = false) {Y : LX} {res : Int32 × IX} {k16 : Int32 → IX → Option (Int32 × IX)} (hk16 : ∀ (x1 : Int32) (X : IX) (H : Heap) (locs : List Loc) (ls : Array Slot), va_P D zu_cl (zu_pic cA ad X Y) H → va_S A s.heap H locs → lv_has ls 2 [(0, .ref (ad 95)), (1, .int x1)] → k16 x1 X = some res → W p l e zR_Mod_undo s m args below meth c H locs 0 0 (MQ below (zu_Qi D cA ad A res.1 res.2 Y) args s 0 0 A) (F0 m 16 ls [])) (x1 : Int32) (X : IX) (H : Heap) (locs : List Loc) (ls : Array Slot) (hP : va_P D zu_cl (zu_pic cA ad X Y) H) (hS : va_S A s.heap H locs) (hl : lv_has ls 2 [(0, .ref (ad 95)), (1, .int x1)]) (hf : fn_Mod_undo_B16 k16 x1 X = some res) : W p l e zR_Mod_undo s m args below meth c H locs 0 0 (MQ below (zu_Qi D cA ad A res.1 res.2 Y) args s 0 0 A) (F0 m 16 ls []) := by
  obtain ⟨hx, hb, hml, hown, hts, hST⟩ := id B
  unfold fn_Mod_undo_B16 at hf
  refine lv_iload_n hx hb zd_Mod_undo_16 rfl (lv_at hl 1 rfl) ?_
  refine lv_sipush (v := 142) hx hb zd_Mod_undo_17 (by decide) ?_
  refine lv_icmp_ge (tgt := 41) hx hb zd_Mod_undo_20 (by decide) (fun c5 => ?_) (fun c5 => ?_)
  · have hf := zu_t c5 hf
    refine lv_aload_n hx hb zd_Mod_undo_41 rfl (lv_at hl 0 rfl) ?_
    refine zg_Mod_s B hP rfl zq_861 zd_Mod_undo_42 ?_
    refine lv_iconst (v := 0) hx hb zd_Mod_undo_45 (by decide) ?_
    refine zr_iald (j := 0) (by decide) B hP rfl (by decide) rfl (by decide) zd_Mod_undo_46 ?_
    obtain rfl := Option.some.inj hf
    exact zr_iret hx hb hret hlk hP hS zd_Mod_undo_47
  · have hf := zu_f c5 hf
    refine lv_aload_n hx hb zd_Mod_undo_23 rfl (lv_at hl 0 rfl) ?_
    refine zg_Mod_s B hP rfl zq_861 zd_Mod_undo_24 ?_
    refine lv_iload_n hx hb zd_Mod_undo_27 rfl (lv_at hl 1 rfl) ?_
    refine lv_aload_n hx hb zd_Mod_undo_28 rfl (lv_at hl 0 rfl) ?_
    refine zg_Mod_keptS B hP rfl zq_862 zd_Mod_undo_29 ?_
    refine lv_iload_n hx hb zd_Mod_undo_32 rfl (lv_at hl 1 rfl) ?_
    obtain ⟨hg6, hf⟩ := zu_gd_e hf
    refine zr_iald rfl B hP rfl (by decide) rfl hg6 zd_Mod_undo_33 ?_
    obtain ⟨hg7, hf⟩ := zu_gd_e hf
    refine zr_iast rfl B hP hS hf rfl (by decide) rfl hg7 zd_Mod_undo_34 (fun X8 H locs hf hP hS => ?_)
    obtain ⟨v9, ev9, hf⟩ := zu_nx_e hf
    refine lv_iinc (v := v9) (lv' := [(1, .int v9), (0, .ref (ad 95))]) hx hb zd_Mod_undo_35 hl (k := 1) rfl (by rw [ev9]; rfl) (by decide) rfl (fun ls hl => ?_)
    clear ev9
    refine lv_goto (tgt := 16) hx hb zd_Mod_undo_38 (by decide) ?_
    exact hk16 v9 X8 _ _ _ hP hS (lv_sub hl [1, 0] rfl) hf
theorem zl_Mod_undo_L16 {p : Program} {l : Launch} {e : Env} {s : State} {m : MethodId} {args : Array Value} {below : List Frame} {meth : Method} {c : Code} {D : va_G} {cA : Nat → ClassId} {ad : Nat → Nat} {A : Nat → Prop} (B : zu_B p s m args c zb_Mod_undo 2 "StonePostModel" D cA ad A) (hret : meth.sig.returnType = (some .int)) (hlk : meth.locks = false) {Y : LX} {res : Int32 × IX} : ∀ (n : Nat) (x1 : Int32) (X : IX) (H : Heap) (locs : List Loc) (ls : Array Slot), va_P D zu_cl (zu_pic cA ad X Y) H → va_S A s.heap H locs → lv_has ls 2 [(0, .ref (ad 95)), (1, .int x1)] → fn_Mod_undo_L16 n x1 X = some res → W p l e zR_Mod_undo s m args below meth c H locs 0 0 (MQ below (zu_Qi D cA ad A res.1 res.2 Y) args s 0 0 A) (F0 m 16 ls []) := by
  intro n
  induction n with
  | zero =>
    intro x1 X H locs ls hP hS hl hf
    exact (Option.some_ne_none _ hf.symm).elim
  | succ n ih =>
    intro x1 X H locs ls hP hS hl hf
    exact zl_Mod_undo_B16 B hret hlk ih x1 X H locs ls hP hS hl  hf
set_option maxHeartbeats 4000000 in
theorem zl_Mod_undo {p : Program} {l : Launch} {e : Env} {s : State} {m : MethodId} {args : Array Value} {below : List Frame} {meth : Method} {c : Code} {D : va_G} {cA : Nat → ClassId} {ad : Nat → Nat} {A : Nat → Prop} (B : zu_B p s m args c zb_Mod_undo 2 "StonePostModel" D cA ad A) (hret : meth.sig.returnType = (some .int)) (hlk : meth.locks = false) {Y : LX} {res : Int32 × IX} {X : IX} (H : Heap) (locs : List Loc) (ls : Array Slot) (hP : va_P D zu_cl (zu_pic cA ad X Y) H) (hS : va_S A s.heap H locs) (hl : lv_has ls 2 [(0, .ref (ad 95))]) (hf : fn_Mod_undo X = some res) : W p l e zR_Mod_undo s m args below meth c H locs 0 0 (MQ below (zu_Qi D cA ad A res.1 res.2 Y) args s 0 0 A) (F0 m 0 ls []) := by
  obtain ⟨hx, hb, hml, hown, hts, hST⟩ := id B
  unfold fn_Mod_undo at hf
  refine lv_aload_n hx hb zd_Mod_undo_0 rfl (lv_at hl 0 rfl) ?_
  refine zg_Mod_isKept B hP rfl zq_865 zd_Mod_undo_1 ?_
  refine lv_if_ne (tgt := 14) hx hb zd_Mod_undo_4 (by decide) (fun c1 => ?_) (fun c1 => ?_)
  · have hf := zu_f c1 hf
    refine lv_iconst (v := 0) hx hb zd_Mod_undo_14 (by decide) ?_
    refine lv_istore_n (lv' := [(1, .int (0 : Int32)), (0, .ref (ad 95))]) hx hb zd_Mod_undo_15 rfl hl (by decide) rfl (fun ls hl => ?_)
    exact zl_Mod_undo_L16 B hret hlk 400 (0 : Int32) X _ _ _ hP hS (lv_sub hl [1, 0] rfl) hf
  · have hf := zu_t c1 hf
    refine lv_aload_n hx hb zd_Mod_undo_7 rfl (lv_at hl 0 rfl) ?_
    refine lv_ldc (v := -1000004) hx hb hown (hts _ zq_1041) zd_Mod_undo_8 ?_
    obtain ⟨v2, X3, hq4, hf⟩ := zu_b2_e hf
    refine zw_Mod_finds (rest := []) B hP hS hq4 zq_944 (Nat.le_of_ble_eq_true rfl) (Nat.le_of_ble_eq_true rfl) hl.1 rfl (Nat.le_of_ble_eq_true rfl) zd_Mod_undo_10 (by decide) (fun H locs hP hS => ?_)
    clear hq4
    obtain rfl := Option.some.inj hf
    exact zr_iret hx hb hret hlk hP hS zd_Mod_undo_13
theorem zC_Mod_undo (l : Launch) {D : va_G} {cA : Nat → ClassId} {ad : Nat → Nat} {A : Nat → Prop} {X : IX} {Y : LX} {res : Int32 × IX} (hf : fn_Mod_undo X = some res) : Met l zm_Mod_undo (zu_ws zm_Mod_undo zb_Mod_undo 2 (some .int)) zR_Mod_undo (va_Pc [.ref (ad 95)] (zu_Pre D cA ad A X Y)) (zu_Qi D cA ad A res.1 res.2 Y) 0 0 A := by
  refine Met.ofW (cc := zb_Mod_undo) (maxL := 2) (ret := (some .int)) (by decide +kernel) rfl ?_
  intro p e s m args below meth c s₁ B0 hml hv
  obtain ⟨rfl, hP, hST⟩ := hv
  have B : zu_B p s m _ c zb_Mod_undo 2 "StonePostModel" D cA ad A := ⟨B0.exec, B0.bytes, hml, findClass_of_methodNamed B0.named, (fun w hw => atoms_spec (ws := zu_ws zm_Mod_undo zb_Mod_undo 2 (some .int)) B0.pre w (List.mem_cons_of_mem _ hw)), hST⟩
  have hl := lv_entry ([.ref (ad 95)]) (n := 2) (Nat.le_of_ble_eq_true rfl)
  rw [lg_entry_eq]
  generalize (lg_sl ([.ref (ad 95)]) ++ List.replicate (2 - (lg_sl ([.ref (ad 95)])).length) Slot.unset).toArray = ls at hl ⊢
  exact zl_Mod_undo B B0.returns B0.notSynchronized s.heap [] ls hP va_S.rf hl  hf
theorem zw_Mod_undo {p : Program} {l : Launch} {e : Env} {R : Room} {s : State} {m : MethodId} {args : Array Value} {below : List Frame} {meth : Method} {c : Code} {H : Heap} {locs : List Loc} {cells slots : Nat} {Q : State → Prop} {cc : ByteArray} {pc nL : Nat} {ls : Array Slot} {rest st0 : List Value} {D : va_G} {cA : Nat → ClassId} {ad : Nat → Nat} {A : Nat → Prop} {X : IX} {Y : LX} {own : String} {index : Nat} {v1 : Int32} {X1 : IX} (B : zu_B p s m args c cc nL own D cA ad A) (hP : va_P D zu_cl (zu_pic cA ad X Y) H) (hS : va_S A s.heap H locs) (hq : fn_Mod_undo X = some (v1, X1)) (m1 : Cond.methodLink own index zm_Mod_undo ∈ zu_TB) (hR1 : 1 + 1 ≤ R.frames) (hR2 : 8 + (2 + 11) + 21 ≤ R.locals) (hsz : ls.size = nL) (hst : st0 = .ref (ad 95) :: rest) (hw : (rest.map fun v => v.category).sum ≤ 8) (hdg : decode cc pc = .ok (.invokevirtual index, 3)) (h00 : cells ≤ R.cells ∧ slots ≤ R.slots) (kk : ∀ (H1 : Heap) (locs1 : List Loc), va_P D zu_cl (zu_pic cA ad X1 Y) H1 → va_S A s.heap H1 locs1 → W p l e R s m args below meth c H1 locs1 cells slots Q (F0 m (pc + 3) ls (.int v1 :: rest))) : W p l e R s m args below meth c H locs cells slots Q (F0 m pc ls st0) := by
  subst hst
  exact zr_cVi (As := []) (rest := rest) (n := 0) (C := "StonePostModel") (T := zt_Mod) (N := 23) B hP hS (zC_Mod_undo l  hq) (K := 7) rfl (by decide) (by decide) rfl rfl m1 zq_1371 zq_1372 zq_8 zq_1373 (by decide +kernel) ⟨hR1, hR2⟩ rfl rfl rfl hsz rfl hw hdg h00 kk
abbrev zR_Mod_tear : Room := { frames := 0, cells := 0, slots := 0, locals := 0 }
theorem zd_Mod_tear_0 : decode zb_Mod_tear 0 = .ok (.aload_n 0, 1) := by decide +kernel
theorem zd_Mod_tear_1 : decode zb_Mod_tear 1 = .ok (.getfield 356, 3) := by decide +kernel
theorem zd_Mod_tear_4 : decode zb_Mod_tear 4 = .ok (.ifCond .eq 7, 3) := by decide +kernel
theorem zd_Mod_tear_7 : decode zb_Mod_tear 7 = .ok (.iconst 1, 1) := by decide +kernel
theorem zd_Mod_tear_8 : decode zb_Mod_tear 8 = .ok (.goto 4, 3) := by decide +kernel
theorem zd_Mod_tear_11 : decode zb_Mod_tear 11 = .ok (.iconst 0, 1) := by decide +kernel
theorem zd_Mod_tear_12 : decode zb_Mod_tear 12 = .ok (.istore_n 1, 1) := by decide +kernel
theorem zd_Mod_tear_13 : decode zb_Mod_tear 13 = .ok (.aload_n 0, 1) := by decide +kernel
theorem zd_Mod_tear_14 : decode zb_Mod_tear 14 = .ok (.iconst 0, 1) := by decide +kernel
theorem zd_Mod_tear_15 : decode zb_Mod_tear 15 = .ok (.putfield 356, 3) := by decide +kernel
theorem zd_Mod_tear_18 : decode zb_Mod_tear 18 = .ok (.iload_n 1, 1) := by decide +kernel
theorem zd_Mod_tear_19 : decode zb_Mod_tear 19 = .ok (.ireturn, 1) := by decide +kernel
set_option maxHeartbeats 4000000 in
theorem zl_Mod_tear_L12 {p : Program} {l : Launch} {e : Env} {s : State} {m : MethodId} {args : Array Value} {below : List Frame} {meth : Method} {c : Code} {D : va_G} {cA : Nat → ClassId} {ad : Nat → Nat} {A : Nat → Prop} (B : zu_B p s m args c zb_Mod_tear 2 "StonePostModel" D cA ad A) (hret : meth.sig.returnType = (some .int)) (hlk : meth.locks = false) {Y : LX} {res : Int32 × IX} (y0 : Int32) (X : IX) (H : Heap) (locs : List Loc) (ls : Array Slot) (hP : va_P D zu_cl (zu_pic cA ad X Y) H) (hS : va_S A s.heap H locs) (hl : lv_has ls 2 [(0, .ref (ad 95))]) (hf : fn_Mod_tear_L12 y0 X = some res) : W p l e zR_Mod_tear s m args below meth c H locs 0 0 (MQ below (zu_Qi D cA ad A res.1 res.2 Y) args s 0 0 A) (F0 m 12 ls [.int y0]) := by
  obtain ⟨hx, hb, hml, hown, hts, hST⟩ := id B
  unfold fn_Mod_tear_L12 at hf
  refine lv_istore_n (lv' := [(1, .int y0), (0, .ref (ad 95))]) hx hb zd_Mod_tear_12 rfl hl (by decide) rfl (fun ls hl => ?_)
  refine lv_aload_n hx hb zd_Mod_tear_13 rfl (lv_at hl 1 rfl) ?_
  refine lv_iconst (v := 0) hx hb zd_Mod_tear_14 (by decide) ?_
  refine zp_Mod_isKept B hP hS hf rfl rfl zq_865 zd_Mod_tear_15 (fun X2 H locs hf hP hS => ?_)
  refine lv_iload_n hx hb zd_Mod_tear_18 rfl (lv_at hl 0 rfl) ?_
  obtain rfl := Option.some.inj hf
  exact zr_iret hx hb hret hlk hP hS zd_Mod_tear_19
set_option maxHeartbeats 4000000 in
theorem zl_Mod_tear {p : Program} {l : Launch} {e : Env} {s : State} {m : MethodId} {args : Array Value} {below : List Frame} {meth : Method} {c : Code} {D : va_G} {cA : Nat → ClassId} {ad : Nat → Nat} {A : Nat → Prop} (B : zu_B p s m args c zb_Mod_tear 2 "StonePostModel" D cA ad A) (hret : meth.sig.returnType = (some .int)) (hlk : meth.locks = false) {Y : LX} {res : Int32 × IX} {X : IX} (H : Heap) (locs : List Loc) (ls : Array Slot) (hP : va_P D zu_cl (zu_pic cA ad X Y) H) (hS : va_S A s.heap H locs) (hl : lv_has ls 2 [(0, .ref (ad 95))]) (hf : fn_Mod_tear X = some res) : W p l e zR_Mod_tear s m args below meth c H locs 0 0 (MQ below (zu_Qi D cA ad A res.1 res.2 Y) args s 0 0 A) (F0 m 0 ls []) := by
  obtain ⟨hx, hb, hml, hown, hts, hST⟩ := id B
  unfold fn_Mod_tear at hf
  refine lv_aload_n hx hb zd_Mod_tear_0 rfl (lv_at hl 0 rfl) ?_
  refine zg_Mod_isKept B hP rfl zq_865 zd_Mod_tear_1 ?_
  refine lv_if_eq (tgt := 11) hx hb zd_Mod_tear_4 (by decide) (fun c1 => ?_) (fun c1 => ?_)
  · have hf := zu_t c1 hf
    refine lv_iconst (v := 0) hx hb zd_Mod_tear_11 (by decide) ?_
    exact zl_Mod_tear_L12 B hret hlk (0 : Int32) X _ _ _ hP hS (lv_sub hl [0] rfl) hf
  · have hf := zu_f c1 hf
    refine lv_iconst (v := 1) hx hb zd_Mod_tear_7 (by decide) ?_
    refine lv_goto (tgt := 12) hx hb zd_Mod_tear_8 (by decide) ?_
    exact zl_Mod_tear_L12 B hret hlk (1 : Int32) X _ _ _ hP hS (lv_sub hl [0] rfl) hf
theorem zC_Mod_tear (l : Launch) {D : va_G} {cA : Nat → ClassId} {ad : Nat → Nat} {A : Nat → Prop} {X : IX} {Y : LX} {res : Int32 × IX} (hf : fn_Mod_tear X = some res) : Met l zm_Mod_tear (zu_ws zm_Mod_tear zb_Mod_tear 2 (some .int)) zR_Mod_tear (va_Pc [.ref (ad 95)] (zu_Pre D cA ad A X Y)) (zu_Qi D cA ad A res.1 res.2 Y) 0 0 A := by
  refine Met.ofW (cc := zb_Mod_tear) (maxL := 2) (ret := (some .int)) (by decide +kernel) rfl ?_
  intro p e s m args below meth c s₁ B0 hml hv
  obtain ⟨rfl, hP, hST⟩ := hv
  have B : zu_B p s m _ c zb_Mod_tear 2 "StonePostModel" D cA ad A := ⟨B0.exec, B0.bytes, hml, findClass_of_methodNamed B0.named, (fun w hw => atoms_spec (ws := zu_ws zm_Mod_tear zb_Mod_tear 2 (some .int)) B0.pre w (List.mem_cons_of_mem _ hw)), hST⟩
  have hl := lv_entry ([.ref (ad 95)]) (n := 2) (Nat.le_of_ble_eq_true rfl)
  rw [lg_entry_eq]
  generalize (lg_sl ([.ref (ad 95)]) ++ List.replicate (2 - (lg_sl ([.ref (ad 95)])).length) Slot.unset).toArray = ls at hl ⊢
  exact zl_Mod_tear B B0.returns B0.notSynchronized s.heap [] ls hP va_S.rf hl  hf
theorem zw_Mod_tear {p : Program} {l : Launch} {e : Env} {R : Room} {s : State} {m : MethodId} {args : Array Value} {below : List Frame} {meth : Method} {c : Code} {H : Heap} {locs : List Loc} {cells slots : Nat} {Q : State → Prop} {cc : ByteArray} {pc nL : Nat} {ls : Array Slot} {rest st0 : List Value} {D : va_G} {cA : Nat → ClassId} {ad : Nat → Nat} {A : Nat → Prop} {X : IX} {Y : LX} {own : String} {index : Nat} {v1 : Int32} {X1 : IX} (B : zu_B p s m args c cc nL own D cA ad A) (hP : va_P D zu_cl (zu_pic cA ad X Y) H) (hS : va_S A s.heap H locs) (hq : fn_Mod_tear X = some (v1, X1)) (m1 : Cond.methodLink own index zm_Mod_tear ∈ zu_TB) (hR1 : 0 + 1 ≤ R.frames) (hR2 : 8 + (2 + 11) + 0 ≤ R.locals) (hsz : ls.size = nL) (hst : st0 = .ref (ad 95) :: rest) (hw : (rest.map fun v => v.category).sum ≤ 8) (hdg : decode cc pc = .ok (.invokevirtual index, 3)) (h00 : cells ≤ R.cells ∧ slots ≤ R.slots) (kk : ∀ (H1 : Heap) (locs1 : List Loc), va_P D zu_cl (zu_pic cA ad X1 Y) H1 → va_S A s.heap H1 locs1 → W p l e R s m args below meth c H1 locs1 cells slots Q (F0 m (pc + 3) ls (.int v1 :: rest))) : W p l e R s m args below meth c H locs cells slots Q (F0 m pc ls st0) := by
  subst hst
  exact zr_cVi (As := []) (rest := rest) (n := 0) (C := "StonePostModel") (T := zt_Mod) (N := 23) B hP hS (zC_Mod_tear l  hq) (K := 7) rfl (by decide) (by decide) rfl rfl m1 zq_1375 zq_1376 zq_8 zq_1377 (by decide +kernel) ⟨hR1, hR2⟩ rfl rfl rfl hsz rfl hw hdg h00 kk
abbrev zR_Mod_ills : Room := { frames := 2, cells := 0, slots := 0, locals := 43 }
theorem zd_Mod_ills_0 : decode zb_Mod_ills 0 = .ok (.iconst 0, 1) := by decide +kernel
theorem zd_Mod_ills_1 : decode zb_Mod_ills 1 = .ok (.istore_n 1, 1) := by decide +kernel
theorem zd_Mod_ills_2 : decode zb_Mod_ills 2 = .ok (.iconst 0, 1) := by decide +kernel
theorem zd_Mod_ills_3 : decode zb_Mod_ills 3 = .ok (.istore_n 2, 1) := by decide +kernel
theorem zd_Mod_ills_4 : decode zb_Mod_ills 4 = .ok (.iload_n 2, 1) := by decide +kernel
theorem zd_Mod_ills_5 : decode zb_Mod_ills 5 = .ok (.aload_n 0, 1) := by decide +kernel
theorem zd_Mod_ills_6 : decode zb_Mod_ills 6 = .ok (.getfield 7, 3) := by decide +kernel
theorem zd_Mod_ills_9 : decode zb_Mod_ills 9 = .ok (.iconst 1, 1) := by decide +kernel
theorem zd_Mod_ills_10 : decode zb_Mod_ills 10 = .ok (.iaload, 1) := by decide +kernel
theorem zd_Mod_ills_11 : decode zb_Mod_ills 11 = .ok (.if_icmp .ge 19, 3) := by decide +kernel
theorem zd_Mod_ills_14 : decode zb_Mod_ills 14 = .ok (.iload_n 1, 1) := by decide +kernel
theorem zd_Mod_ills_15 : decode zb_Mod_ills 15 = .ok (.aload_n 0, 1) := by decide +kernel
theorem zd_Mod_ills_16 : decode zb_Mod_ills 16 = .ok (.iload_n 2, 1) := by decide +kernel
theorem zd_Mod_ills_17 : decode zb_Mod_ills 17 = .ok (.bipush 7, 2) := by decide +kernel
theorem zd_Mod_ills_19 : decode zb_Mod_ills 19 = .ok (.invokevirtual 74, 3) := by decide +kernel
theorem zd_Mod_ills_22 : decode zb_Mod_ills 22 = .ok (.iadd, 1) := by decide +kernel
theorem zd_Mod_ills_23 : decode zb_Mod_ills 23 = .ok (.istore_n 1, 1) := by decide +kernel
theorem zd_Mod_ills_24 : decode zb_Mod_ills 24 = .ok (.iinc 2 1, 3) := by decide +kernel
theorem zd_Mod_ills_27 : decode zb_Mod_ills 27 = .ok (.goto (-23), 3) := by decide +kernel
theorem zd_Mod_ills_30 : decode zb_Mod_ills 30 = .ok (.iload_n 1, 1) := by decide +kernel
theorem zd_Mod_ills_31 : decode zb_Mod_ills 31 = .ok (.ireturn, 1) := by decide +kernel
set_option maxHeartbeats 4000000 in
theorem zl_Mod_ills_B4 {p : Program} {l : Launch} {e : Env} {s : State} {m : MethodId} {args : Array Value} {below : List Frame} {meth : Method} {c : Code} {D : va_G} {cA : Nat → ClassId} {ad : Nat → Nat} {A : Nat → Prop} (B : zu_B p s m args c zb_Mod_ills 3 "StonePostModel" D cA ad A) (hret : meth.sig.returnType = (some .int)) (hlk : meth.locks = false) {X : IX} {Y : LX} {res : Int32} {k4 : Int32 → Int32 → Option Int32} (hk4 : ∀ (x1 : Int32) (x2 : Int32) (H : Heap) (locs : List Loc) (ls : Array Slot), va_P D zu_cl (zu_pic cA ad X Y) H → va_S A s.heap H locs → lv_has ls 3 [(0, .ref (ad 95)), (1, .int x1), (2, .int x2)] → k4 x1 x2 = some res → W p l e zR_Mod_ills s m args below meth c H locs 0 0 (MQ below (zu_Qi D cA ad A res X Y) args s 0 0 A) (F0 m 4 ls [])) (x1 : Int32) (x2 : Int32) (H : Heap) (locs : List Loc) (ls : Array Slot) (hP : va_P D zu_cl (zu_pic cA ad X Y) H) (hS : va_S A s.heap H locs) (hl : lv_has ls 3 [(0, .ref (ad 95)), (1, .int x1), (2, .int x2)]) (hf : fn_Mod_ills_B4 X k4 x1 x2 = some res) : W p l e zR_Mod_ills s m args below meth c H locs 0 0 (MQ below (zu_Qi D cA ad A res X Y) args s 0 0 A) (F0 m 4 ls []) := by
  obtain ⟨hx, hb, hml, hown, hts, hST⟩ := id B
  unfold fn_Mod_ills_B4 at hf
  refine lv_iload_n hx hb zd_Mod_ills_4 rfl (lv_at hl 2 rfl) ?_
  refine lv_aload_n hx hb zd_Mod_ills_5 rfl (lv_at hl 0 rfl) ?_
  refine zg_Mod_s B hP rfl zq_861 zd_Mod_ills_6 ?_
  refine lv_iconst (v := 1) hx hb zd_Mod_ills_9 (by decide) ?_
  refine zr_iald (j := 1) (by decide) B hP rfl (by decide) rfl (by decide) zd_Mod_ills_10 ?_
  refine lv_icmp_ge (tgt := 30) hx hb zd_Mod_ills_11 (by decide) (fun c1 => ?_) (fun c1 => ?_)
  · have hf := zu_t c1 hf
    refine lv_iload_n hx hb zd_Mod_ills_30 rfl (lv_at hl 1 rfl) ?_
    obtain rfl := Option.some.inj hf
    exact zr_iret hx hb hret hlk hP hS zd_Mod_ills_31
  · have hf := zu_f c1 hf
    refine lv_iload_n hx hb zd_Mod_ills_14 rfl (lv_at hl 1 rfl) ?_
    refine lv_aload_n hx hb zd_Mod_ills_15 rfl (lv_at hl 0 rfl) ?_
    refine lv_iload_n hx hb zd_Mod_ills_16 rfl (lv_at hl 2 rfl) ?_
    refine lv_bipush (v := 7) hx hb zd_Mod_ills_17 (by decide) ?_
    obtain ⟨v2, hq3, hf⟩ := zu_b1_e hf
    refine zw_Mod_its (rest := [.int x1]) B hP hS hq3 zq_962 (Nat.le_of_ble_eq_true rfl) (Nat.le_of_ble_eq_true rfl) hl.1 rfl (Nat.le_of_ble_eq_true rfl) zd_Mod_ills_19 (by decide) (fun H locs hP hS => ?_)
    clear hq3
    refine lv_iadd hx hb zd_Mod_ills_22 ?_
    refine zr_nxi hf (fun v4 hf => ?_)
    refine lv_istore_n (lv' := [(1, .int v4), (0, .ref (ad 95)), (2, .int x2)]) hx hb zd_Mod_ills_23 rfl hl (by decide) rfl (fun ls hl => ?_)
    obtain ⟨v5, ev5, hf⟩ := zu_nx_e hf
    refine lv_iinc (v := v5) (lv' := [(2, .int v5), (1, .int v4), (0, .ref (ad 95))]) hx hb zd_Mod_ills_24 hl (k := 2) rfl (by rw [ev5]; rfl) (by decide) rfl (fun ls hl => ?_)
    clear ev5
    refine lv_goto (tgt := 4) hx hb zd_Mod_ills_27 (by decide) ?_
    exact hk4 v4 v5 _ _ _ hP hS (lv_sub hl [2, 1, 0] rfl) hf
theorem zl_Mod_ills_L4 {p : Program} {l : Launch} {e : Env} {s : State} {m : MethodId} {args : Array Value} {below : List Frame} {meth : Method} {c : Code} {D : va_G} {cA : Nat → ClassId} {ad : Nat → Nat} {A : Nat → Prop} (B : zu_B p s m args c zb_Mod_ills 3 "StonePostModel" D cA ad A) (hret : meth.sig.returnType = (some .int)) (hlk : meth.locks = false) {X : IX} {Y : LX} {res : Int32} : ∀ (n : Nat) (x1 : Int32) (x2 : Int32) (H : Heap) (locs : List Loc) (ls : Array Slot), va_P D zu_cl (zu_pic cA ad X Y) H → va_S A s.heap H locs → lv_has ls 3 [(0, .ref (ad 95)), (1, .int x1), (2, .int x2)] → fn_Mod_ills_L4 X n x1 x2 = some res → W p l e zR_Mod_ills s m args below meth c H locs 0 0 (MQ below (zu_Qi D cA ad A res X Y) args s 0 0 A) (F0 m 4 ls []) := by
  intro n
  induction n with
  | zero =>
    intro x1 x2 H locs ls hP hS hl hf
    exact (Option.some_ne_none _ hf.symm).elim
  | succ n ih =>
    intro x1 x2 H locs ls hP hS hl hf
    exact zl_Mod_ills_B4 B hret hlk ih x1 x2 H locs ls hP hS hl  hf
set_option maxHeartbeats 4000000 in
theorem zl_Mod_ills {p : Program} {l : Launch} {e : Env} {s : State} {m : MethodId} {args : Array Value} {below : List Frame} {meth : Method} {c : Code} {D : va_G} {cA : Nat → ClassId} {ad : Nat → Nat} {A : Nat → Prop} (B : zu_B p s m args c zb_Mod_ills 3 "StonePostModel" D cA ad A) (hret : meth.sig.returnType = (some .int)) (hlk : meth.locks = false) {X : IX} {Y : LX} {res : Int32} (H : Heap) (locs : List Loc) (ls : Array Slot) (hP : va_P D zu_cl (zu_pic cA ad X Y) H) (hS : va_S A s.heap H locs) (hl : lv_has ls 3 [(0, .ref (ad 95))]) (hf : fn_Mod_ills X = some res) : W p l e zR_Mod_ills s m args below meth c H locs 0 0 (MQ below (zu_Qi D cA ad A res X Y) args s 0 0 A) (F0 m 0 ls []) := by
  obtain ⟨hx, hb, hml, hown, hts, hST⟩ := id B
  unfold fn_Mod_ills at hf
  refine lv_iconst (v := 0) hx hb zd_Mod_ills_0 (by decide) ?_
  refine lv_istore_n (lv' := [(1, .int (0 : Int32)), (0, .ref (ad 95))]) hx hb zd_Mod_ills_1 rfl hl (by decide) rfl (fun ls hl => ?_)
  refine lv_iconst (v := 0) hx hb zd_Mod_ills_2 (by decide) ?_
  refine lv_istore_n (lv' := [(2, .int (0 : Int32)), (1, .int (0 : Int32)), (0, .ref (ad 95))]) hx hb zd_Mod_ills_3 rfl hl (by decide) rfl (fun ls hl => ?_)
  exact zl_Mod_ills_L4 B hret hlk 400 (0 : Int32) (0 : Int32) _ _ _ hP hS (lv_sub hl [2, 1, 0] rfl) hf
theorem zC_Mod_ills (l : Launch) {D : va_G} {cA : Nat → ClassId} {ad : Nat → Nat} {A : Nat → Prop} {X : IX} {Y : LX} {res : Int32} (hf : fn_Mod_ills X = some res) : Met l zm_Mod_ills (zu_ws zm_Mod_ills zb_Mod_ills 3 (some .int)) zR_Mod_ills (va_Pc [.ref (ad 95)] (zu_Pre D cA ad A X Y)) (zu_Qi D cA ad A res X Y) 0 0 A := by
  refine Met.ofW (cc := zb_Mod_ills) (maxL := 3) (ret := (some .int)) (by decide +kernel) rfl ?_
  intro p e s m args below meth c s₁ B0 hml hv
  obtain ⟨rfl, hP, hST⟩ := hv
  have B : zu_B p s m _ c zb_Mod_ills 3 "StonePostModel" D cA ad A := ⟨B0.exec, B0.bytes, hml, findClass_of_methodNamed B0.named, (fun w hw => atoms_spec (ws := zu_ws zm_Mod_ills zb_Mod_ills 3 (some .int)) B0.pre w (List.mem_cons_of_mem _ hw)), hST⟩
  have hl := lv_entry ([.ref (ad 95)]) (n := 3) (Nat.le_of_ble_eq_true rfl)
  rw [lg_entry_eq]
  generalize (lg_sl ([.ref (ad 95)]) ++ List.replicate (3 - (lg_sl ([.ref (ad 95)])).length) Slot.unset).toArray = ls at hl ⊢
  exact zl_Mod_ills B B0.returns B0.notSynchronized s.heap [] ls hP va_S.rf hl  hf
theorem zw_Mod_ills {p : Program} {l : Launch} {e : Env} {R : Room} {s : State} {m : MethodId} {args : Array Value} {below : List Frame} {meth : Method} {c : Code} {H : Heap} {locs : List Loc} {cells slots : Nat} {Q : State → Prop} {cc : ByteArray} {pc nL : Nat} {ls : Array Slot} {rest st0 : List Value} {D : va_G} {cA : Nat → ClassId} {ad : Nat → Nat} {A : Nat → Prop} {X : IX} {Y : LX} {own : String} {index : Nat} {v1 : Int32} (B : zu_B p s m args c cc nL own D cA ad A) (hP : va_P D zu_cl (zu_pic cA ad X Y) H) (hS : va_S A s.heap H locs) (hq : fn_Mod_ills X = some v1) (m1 : Cond.methodLink own index zm_Mod_ills ∈ zu_TB) (hR1 : 2 + 1 ≤ R.frames) (hR2 : 8 + (3 + 11) + 43 ≤ R.locals) (hsz : ls.size = nL) (hst : st0 = .ref (ad 95) :: rest) (hw : (rest.map fun v => v.category).sum ≤ 8) (hdg : decode cc pc = .ok (.invokevirtual index, 3)) (h00 : cells ≤ R.cells ∧ slots ≤ R.slots) (kk : ∀ (H1 : Heap) (locs1 : List Loc), va_P D zu_cl (zu_pic cA ad X Y) H1 → va_S A s.heap H1 locs1 → W p l e R s m args below meth c H1 locs1 cells slots Q (F0 m (pc + 3) ls (.int v1 :: rest))) : W p l e R s m args below meth c H locs cells slots Q (F0 m pc ls st0) := by
  subst hst
  exact zr_cVi (As := []) (rest := rest) (n := 0) (C := "StonePostModel") (T := zt_Mod) (N := 23) B hP hS (zC_Mod_ills l  hq) (K := 7) rfl (by decide) (by decide) rfl rfl m1 zq_1384 zqP_63 zq_8 zq_1385 (by decide +kernel) ⟨hR1, hR2⟩ rfl rfl rfl hsz rfl hw hdg h00 kk
abbrev zR_Mod_held : Room := { frames := 0, cells := 0, slots := 0, locals := 0 }
theorem zd_Mod_held_0 : decode zb_Mod_held 0 = .ok (.iconst 0, 1) := by decide +kernel
theorem zd_Mod_held_1 : decode zb_Mod_held 1 = .ok (.istore_n 1, 1) := by decide +kernel
theorem zd_Mod_held_2 : decode zb_Mod_held 2 = .ok (.iconst 0, 1) := by decide +kernel
theorem zd_Mod_held_3 : decode zb_Mod_held 3 = .ok (.istore_n 2, 1) := by decide +kernel
theorem zd_Mod_held_4 : decode zb_Mod_held 4 = .ok (.iload_n 2, 1) := by decide +kernel
theorem zd_Mod_held_5 : decode zb_Mod_held 5 = .ok (.bipush 10, 2) := by decide +kernel
theorem zd_Mod_held_7 : decode zb_Mod_held 7 = .ok (.if_icmp .ge 30, 3) := by decide +kernel
theorem zd_Mod_held_10 : decode zb_Mod_held 10 = .ok (.iload_n 1, 1) := by decide +kernel
theorem zd_Mod_held_11 : decode zb_Mod_held 11 = .ok (.aload_n 0, 1) := by decide +kernel
theorem zd_Mod_held_12 : decode zb_Mod_held 12 = .ok (.getfield 7, 3) := by decide +kernel
theorem zd_Mod_held_15 : decode zb_Mod_held 15 = .ok (.sipush 132, 3) := by decide +kernel
theorem zd_Mod_held_18 : decode zb_Mod_held 18 = .ok (.iload_n 2, 1) := by decide +kernel
theorem zd_Mod_held_19 : decode zb_Mod_held 19 = .ok (.iadd, 1) := by decide +kernel
theorem zd_Mod_held_20 : decode zb_Mod_held 20 = .ok (.iaload, 1) := by decide +kernel
theorem zd_Mod_held_21 : decode zb_Mod_held 21 = .ok (.ifCond .ge 7, 3) := by decide +kernel
theorem zd_Mod_held_24 : decode zb_Mod_held 24 = .ok (.iconst 0, 1) := by decide +kernel
theorem zd_Mod_held_25 : decode zb_Mod_held 25 = .ok (.goto 4, 3) := by decide +kernel
theorem zd_Mod_held_28 : decode zb_Mod_held 28 = .ok (.iconst 1, 1) := by decide +kernel
theorem zd_Mod_held_29 : decode zb_Mod_held 29 = .ok (.iadd, 1) := by decide +kernel
theorem zd_Mod_held_30 : decode zb_Mod_held 30 = .ok (.istore_n 1, 1) := by decide +kernel
theorem zd_Mod_held_31 : decode zb_Mod_held 31 = .ok (.iinc 2 1, 3) := by decide +kernel
theorem zd_Mod_held_34 : decode zb_Mod_held 34 = .ok (.goto (-30), 3) := by decide +kernel
theorem zd_Mod_held_37 : decode zb_Mod_held 37 = .ok (.iload_n 1, 1) := by decide +kernel
theorem zd_Mod_held_38 : decode zb_Mod_held 38 = .ok (.ireturn, 1) := by decide +kernel
set_option maxHeartbeats 4000000 in
theorem zl_Mod_held_L29 {p : Program} {l : Launch} {e : Env} {s : State} {m : MethodId} {args : Array Value} {below : List Frame} {meth : Method} {c : Code} {D : va_G} {cA : Nat → ClassId} {ad : Nat → Nat} {A : Nat → Prop} (B : zu_B p s m args c zb_Mod_held 3 "StonePostModel" D cA ad A) (hret : meth.sig.returnType = (some .int)) (hlk : meth.locks = false) {X : IX} {Y : LX} {res : Int32} {k4 : Int32 → Int32 → Option Int32} (hk4 : ∀ (x1 : Int32) (x2 : Int32) (H : Heap) (locs : List Loc) (ls : Array Slot), va_P D zu_cl (zu_pic cA ad X Y) H → va_S A s.heap H locs → lv_has ls 3 [(0, .ref (ad 95)), (1, .int x1), (2, .int x2)] → k4 x1 x2 = some res → W p l e zR_Mod_held s m args below meth c H locs 0 0 (MQ below (zu_Qi D cA ad A res X Y) args s 0 0 A) (F0 m 4 ls [])) (x2 : Int32) (y0 : Int32) (y1 : Int32) (H : Heap) (locs : List Loc) (ls : Array Slot) (hP : va_P D zu_cl (zu_pic cA ad X Y) H) (hS : va_S A s.heap H locs) (hl : lv_has ls 3 [(0, .ref (ad 95)), (2, .int x2)]) (hf : fn_Mod_held_L29 X k4 x2 y0 y1 = some res) : W p l e zR_Mod_held s m args below meth c H locs 0 0 (MQ below (zu_Qi D cA ad A res X Y) args s 0 0 A) (F0 m 29 ls [.int y0, .int y1]) := by
  obtain ⟨hx, hb, hml, hown, hts, hST⟩ := id B
  unfold fn_Mod_held_L29 at hf
  refine lv_iadd hx hb zd_Mod_held_29 ?_
  refine zr_nxi hf (fun v4 hf => ?_)
  refine lv_istore_n (lv' := [(1, .int v4), (0, .ref (ad 95)), (2, .int x2)]) hx hb zd_Mod_held_30 rfl hl (by decide) rfl (fun ls hl => ?_)
  obtain ⟨v5, ev5, hf⟩ := zu_nx_e hf
  refine lv_iinc (v := v5) (lv' := [(2, .int v5), (1, .int v4), (0, .ref (ad 95))]) hx hb zd_Mod_held_31 hl (k := 2) rfl (by rw [ev5]; rfl) (by decide) rfl (fun ls hl => ?_)
  clear ev5
  refine lv_goto (tgt := 4) hx hb zd_Mod_held_34 (by decide) ?_
  exact hk4 v4 v5 _ _ _ hP hS (lv_sub hl [2, 1, 0] rfl) hf
set_option maxHeartbeats 4000000 in
theorem zl_Mod_held_B4 {p : Program} {l : Launch} {e : Env} {s : State} {m : MethodId} {args : Array Value} {below : List Frame} {meth : Method} {c : Code} {D : va_G} {cA : Nat → ClassId} {ad : Nat → Nat} {A : Nat → Prop} (B : zu_B p s m args c zb_Mod_held 3 "StonePostModel" D cA ad A) (hret : meth.sig.returnType = (some .int)) (hlk : meth.locks = false) {X : IX} {Y : LX} {res : Int32} {k4 : Int32 → Int32 → Option Int32} (hk4 : ∀ (x1 : Int32) (x2 : Int32) (H : Heap) (locs : List Loc) (ls : Array Slot), va_P D zu_cl (zu_pic cA ad X Y) H → va_S A s.heap H locs → lv_has ls 3 [(0, .ref (ad 95)), (1, .int x1), (2, .int x2)] → k4 x1 x2 = some res → W p l e zR_Mod_held s m args below meth c H locs 0 0 (MQ below (zu_Qi D cA ad A res X Y) args s 0 0 A) (F0 m 4 ls [])) (x1 : Int32) (x2 : Int32) (H : Heap) (locs : List Loc) (ls : Array Slot) (hP : va_P D zu_cl (zu_pic cA ad X Y) H) (hS : va_S A s.heap H locs) (hl : lv_has ls 3 [(0, .ref (ad 95)), (1, .int x1), (2, .int x2)]) (hf : fn_Mod_held_B4 X k4 x1 x2 = some res) : W p l e zR_Mod_held s m args below meth c H locs 0 0 (MQ below (zu_Qi D cA ad A res X Y) args s 0 0 A) (F0 m 4 ls []) := by
  obtain ⟨hx, hb, hml, hown, hts, hST⟩ := id B
  unfold fn_Mod_held_B4 at hf
  refine lv_iload_n hx hb zd_Mod_held_4 rfl (lv_at hl 2 rfl) ?_
  refine lv_bipush (v := 10) hx hb zd_Mod_held_5 (by decide) ?_
  refine lv_icmp_ge (tgt := 37) hx hb zd_Mod_held_7 (by decide) (fun c1 => ?_) (fun c1 => ?_)
  · have hf := zu_t c1 hf
    refine lv_iload_n hx hb zd_Mod_held_37 rfl (lv_at hl 1 rfl) ?_
    obtain rfl := Option.some.inj hf
    exact zr_iret hx hb hret hlk hP hS zd_Mod_held_38
  · have hf := zu_f c1 hf
    refine lv_iload_n hx hb zd_Mod_held_10 rfl (lv_at hl 1 rfl) ?_
    refine lv_aload_n hx hb zd_Mod_held_11 rfl (lv_at hl 0 rfl) ?_
    refine zg_Mod_s B hP rfl zq_861 zd_Mod_held_12 ?_
    refine lv_sipush (v := 132) hx hb zd_Mod_held_15 (by decide) ?_
    refine lv_iload_n hx hb zd_Mod_held_18 rfl (lv_at hl 2 rfl) ?_
    refine lv_iadd hx hb zd_Mod_held_19 ?_
    obtain ⟨hg2, hf⟩ := zu_gd_e hf
    refine zr_iald rfl B hP rfl (by decide) rfl hg2 zd_Mod_held_20 ?_
    refine lv_if_ge (tgt := 28) hx hb zd_Mod_held_21 (by decide) (fun c3 => ?_) (fun c3 => ?_)
    · have hf := zu_t c3 hf
      refine lv_iconst (v := 1) hx hb zd_Mod_held_28 (by decide) ?_
      exact zl_Mod_held_L29 B hret hlk hk4 x2 (1 : Int32) x1 _ _ _ hP hS (lv_sub hl [0, 2] rfl) hf
    · have hf := zu_f c3 hf
      refine lv_iconst (v := 0) hx hb zd_Mod_held_24 (by decide) ?_
      refine lv_goto (tgt := 29) hx hb zd_Mod_held_25 (by decide) ?_
      exact zl_Mod_held_L29 B hret hlk hk4 x2 (0 : Int32) x1 _ _ _ hP hS (lv_sub hl [0, 2] rfl) hf
theorem zl_Mod_held_L4 {p : Program} {l : Launch} {e : Env} {s : State} {m : MethodId} {args : Array Value} {below : List Frame} {meth : Method} {c : Code} {D : va_G} {cA : Nat → ClassId} {ad : Nat → Nat} {A : Nat → Prop} (B : zu_B p s m args c zb_Mod_held 3 "StonePostModel" D cA ad A) (hret : meth.sig.returnType = (some .int)) (hlk : meth.locks = false) {X : IX} {Y : LX} {res : Int32} : ∀ (n : Nat) (x1 : Int32) (x2 : Int32) (H : Heap) (locs : List Loc) (ls : Array Slot), va_P D zu_cl (zu_pic cA ad X Y) H → va_S A s.heap H locs → lv_has ls 3 [(0, .ref (ad 95)), (1, .int x1), (2, .int x2)] → fn_Mod_held_L4 X n x1 x2 = some res → W p l e zR_Mod_held s m args below meth c H locs 0 0 (MQ below (zu_Qi D cA ad A res X Y) args s 0 0 A) (F0 m 4 ls []) := by
  intro n
  induction n with
  | zero =>
    intro x1 x2 H locs ls hP hS hl hf
    exact (Option.some_ne_none _ hf.symm).elim
  | succ n ih =>
    intro x1 x2 H locs ls hP hS hl hf
    exact zl_Mod_held_B4 B hret hlk ih x1 x2 H locs ls hP hS hl  hf
set_option maxHeartbeats 4000000 in
theorem zl_Mod_held {p : Program} {l : Launch} {e : Env} {s : State} {m : MethodId} {args : Array Value} {below : List Frame} {meth : Method} {c : Code} {D : va_G} {cA : Nat → ClassId} {ad : Nat → Nat} {A : Nat → Prop} (B : zu_B p s m args c zb_Mod_held 3 "StonePostModel" D cA ad A) (hret : meth.sig.returnType = (some .int)) (hlk : meth.locks = false) {X : IX} {Y : LX} {res : Int32} (H : Heap) (locs : List Loc) (ls : Array Slot) (hP : va_P D zu_cl (zu_pic cA ad X Y) H) (hS : va_S A s.heap H locs) (hl : lv_has ls 3 [(0, .ref (ad 95))]) (hf : fn_Mod_held X = some res) : W p l e zR_Mod_held s m args below meth c H locs 0 0 (MQ below (zu_Qi D cA ad A res X Y) args s 0 0 A) (F0 m 0 ls []) := by
  obtain ⟨hx, hb, hml, hown, hts, hST⟩ := id B
  unfold fn_Mod_held at hf
  refine lv_iconst (v := 0) hx hb zd_Mod_held_0 (by decide) ?_
  refine lv_istore_n (lv' := [(1, .int (0 : Int32)), (0, .ref (ad 95))]) hx hb zd_Mod_held_1 rfl hl (by decide) rfl (fun ls hl => ?_)
  refine lv_iconst (v := 0) hx hb zd_Mod_held_2 (by decide) ?_
  refine lv_istore_n (lv' := [(2, .int (0 : Int32)), (1, .int (0 : Int32)), (0, .ref (ad 95))]) hx hb zd_Mod_held_3 rfl hl (by decide) rfl (fun ls hl => ?_)
  exact zl_Mod_held_L4 B hret hlk 400 (0 : Int32) (0 : Int32) _ _ _ hP hS (lv_sub hl [2, 1, 0] rfl) hf
theorem zC_Mod_held (l : Launch) {D : va_G} {cA : Nat → ClassId} {ad : Nat → Nat} {A : Nat → Prop} {X : IX} {Y : LX} {res : Int32} (hf : fn_Mod_held X = some res) : Met l zm_Mod_held (zu_ws zm_Mod_held zb_Mod_held 3 (some .int)) zR_Mod_held (va_Pc [.ref (ad 95)] (zu_Pre D cA ad A X Y)) (zu_Qi D cA ad A res X Y) 0 0 A := by
  refine Met.ofW (cc := zb_Mod_held) (maxL := 3) (ret := (some .int)) (by decide +kernel) rfl ?_
  intro p e s m args below meth c s₁ B0 hml hv
  obtain ⟨rfl, hP, hST⟩ := hv
  have B : zu_B p s m _ c zb_Mod_held 3 "StonePostModel" D cA ad A := ⟨B0.exec, B0.bytes, hml, findClass_of_methodNamed B0.named, (fun w hw => atoms_spec (ws := zu_ws zm_Mod_held zb_Mod_held 3 (some .int)) B0.pre w (List.mem_cons_of_mem _ hw)), hST⟩
  have hl := lv_entry ([.ref (ad 95)]) (n := 3) (Nat.le_of_ble_eq_true rfl)
  rw [lg_entry_eq]
  generalize (lg_sl ([.ref (ad 95)]) ++ List.replicate (3 - (lg_sl ([.ref (ad 95)])).length) Slot.unset).toArray = ls at hl ⊢
  exact zl_Mod_held B B0.returns B0.notSynchronized s.heap [] ls hP va_S.rf hl  hf
theorem zw_Mod_held {p : Program} {l : Launch} {e : Env} {R : Room} {s : State} {m : MethodId} {args : Array Value} {below : List Frame} {meth : Method} {c : Code} {H : Heap} {locs : List Loc} {cells slots : Nat} {Q : State → Prop} {cc : ByteArray} {pc nL : Nat} {ls : Array Slot} {rest st0 : List Value} {D : va_G} {cA : Nat → ClassId} {ad : Nat → Nat} {A : Nat → Prop} {X : IX} {Y : LX} {own : String} {index : Nat} {v1 : Int32} (B : zu_B p s m args c cc nL own D cA ad A) (hP : va_P D zu_cl (zu_pic cA ad X Y) H) (hS : va_S A s.heap H locs) (hq : fn_Mod_held X = some v1) (m1 : Cond.methodLink own index zm_Mod_held ∈ zu_TB) (hR1 : 0 + 1 ≤ R.frames) (hR2 : 8 + (3 + 11) + 0 ≤ R.locals) (hsz : ls.size = nL) (hst : st0 = .ref (ad 95) :: rest) (hw : (rest.map fun v => v.category).sum ≤ 8) (hdg : decode cc pc = .ok (.invokevirtual index, 3)) (h00 : cells ≤ R.cells ∧ slots ≤ R.slots) (kk : ∀ (H1 : Heap) (locs1 : List Loc), va_P D zu_cl (zu_pic cA ad X Y) H1 → va_S A s.heap H1 locs1 → W p l e R s m args below meth c H1 locs1 cells slots Q (F0 m (pc + 3) ls (.int v1 :: rest))) : W p l e R s m args below meth c H locs cells slots Q (F0 m pc ls st0) := by
  subst hst
  exact zr_cVi (As := []) (rest := rest) (n := 0) (C := "StonePostModel") (T := zt_Mod) (N := 23) B hP hS (zC_Mod_held l  hq) (K := 7) rfl (by decide) (by decide) rfl rfl m1 zq_1388 zqP_64 zq_8 zq_1389 (by decide +kernel) ⟨hR1, hR2⟩ rfl rfl rfl hsz rfl hw hdg h00 kk
abbrev zR_Mod_count : Room := { frames := 3, cells := 0, slots := 0, locals := 65 }
theorem zd_Mod_count_0 : decode zb_Mod_count 0 = .ok (.iload_n 1, 1) := by decide +kernel
theorem zd_Mod_count_1 : decode zb_Mod_count 1 = .ok (.tableswitch 95 0 7 #[47, 54, 61, 68, 73, 78, 83, 90], 47) := by decide +kernel
theorem zd_Mod_count_48 : decode zb_Mod_count 48 = .ok (.aload_n 0, 1) := by decide +kernel
theorem zd_Mod_count_49 : decode zb_Mod_count 49 = .ok (.getfield 7, 3) := by decide +kernel
theorem zd_Mod_count_52 : decode zb_Mod_count 52 = .ok (.iconst 0, 1) := by decide +kernel
theorem zd_Mod_count_53 : decode zb_Mod_count 53 = .ok (.iaload, 1) := by decide +kernel
theorem zd_Mod_count_54 : decode zb_Mod_count 54 = .ok (.ireturn, 1) := by decide +kernel
theorem zd_Mod_count_55 : decode zb_Mod_count 55 = .ok (.aload_n 0, 1) := by decide +kernel
theorem zd_Mod_count_56 : decode zb_Mod_count 56 = .ok (.getfield 7, 3) := by decide +kernel
theorem zd_Mod_count_59 : decode zb_Mod_count 59 = .ok (.iconst 1, 1) := by decide +kernel
theorem zd_Mod_count_60 : decode zb_Mod_count 60 = .ok (.iaload, 1) := by decide +kernel
theorem zd_Mod_count_61 : decode zb_Mod_count 61 = .ok (.ireturn, 1) := by decide +kernel
theorem zd_Mod_count_62 : decode zb_Mod_count 62 = .ok (.aload_n 0, 1) := by decide +kernel
theorem zd_Mod_count_63 : decode zb_Mod_count 63 = .ok (.getfield 7, 3) := by decide +kernel
theorem zd_Mod_count_66 : decode zb_Mod_count 66 = .ok (.iconst 2, 1) := by decide +kernel
theorem zd_Mod_count_67 : decode zb_Mod_count 67 = .ok (.iaload, 1) := by decide +kernel
theorem zd_Mod_count_68 : decode zb_Mod_count 68 = .ok (.ireturn, 1) := by decide +kernel
theorem zd_Mod_count_69 : decode zb_Mod_count 69 = .ok (.aload_n 0, 1) := by decide +kernel
theorem zd_Mod_count_70 : decode zb_Mod_count 70 = .ok (.invokevirtual 227, 3) := by decide +kernel
theorem zd_Mod_count_73 : decode zb_Mod_count 73 = .ok (.ireturn, 1) := by decide +kernel
theorem zd_Mod_count_74 : decode zb_Mod_count 74 = .ok (.aload_n 0, 1) := by decide +kernel
theorem zd_Mod_count_75 : decode zb_Mod_count 75 = .ok (.invokevirtual 359, 3) := by decide +kernel
theorem zd_Mod_count_78 : decode zb_Mod_count 78 = .ok (.ireturn, 1) := by decide +kernel
theorem zd_Mod_count_79 : decode zb_Mod_count 79 = .ok (.aload_n 0, 1) := by decide +kernel
theorem zd_Mod_count_80 : decode zb_Mod_count 80 = .ok (.getfield 232, 3) := by decide +kernel
theorem zd_Mod_count_83 : decode zb_Mod_count 83 = .ok (.ireturn, 1) := by decide +kernel
theorem zd_Mod_count_84 : decode zb_Mod_count 84 = .ok (.aload_n 0, 1) := by decide +kernel
theorem zd_Mod_count_85 : decode zb_Mod_count 85 = .ok (.getfield 7, 3) := by decide +kernel
theorem zd_Mod_count_88 : decode zb_Mod_count 88 = .ok (.iconst 5, 1) := by decide +kernel
theorem zd_Mod_count_89 : decode zb_Mod_count 89 = .ok (.iaload, 1) := by decide +kernel
theorem zd_Mod_count_90 : decode zb_Mod_count 90 = .ok (.ireturn, 1) := by decide +kernel
theorem zd_Mod_count_91 : decode zb_Mod_count 91 = .ok (.aload_n 0, 1) := by decide +kernel
theorem zd_Mod_count_92 : decode zb_Mod_count 92 = .ok (.invokevirtual 362, 3) := by decide +kernel
theorem zd_Mod_count_95 : decode zb_Mod_count 95 = .ok (.ireturn, 1) := by decide +kernel
theorem zd_Mod_count_96 : decode zb_Mod_count 96 = .ok (.aload_n 0, 1) := by decide +kernel
theorem zd_Mod_count_97 : decode zb_Mod_count 97 = .ok (.ldc 50, 2) := by decide +kernel
theorem zd_Mod_count_99 : decode zb_Mod_count 99 = .ok (.invokevirtual 64, 3) := by decide +kernel
theorem zd_Mod_count_102 : decode zb_Mod_count 102 = .ok (.ireturn, 1) := by decide +kernel
set_option maxHeartbeats 4000000 in
theorem zl_Mod_count {p : Program} {l : Launch} {e : Env} {s : State} {m : MethodId} {args : Array Value} {below : List Frame} {meth : Method} {c : Code} {D : va_G} {cA : Nat → ClassId} {ad : Nat → Nat} {A : Nat → Prop} (B : zu_B p s m args c zb_Mod_count 2 "StonePostModel" D cA ad A) (hret : meth.sig.returnType = (some .int)) (hlk : meth.locks = false) {Y : LX} {res : Int32 × IX} {a1 : Int32} {X : IX} (H : Heap) (locs : List Loc) (ls : Array Slot) (hP : va_P D zu_cl (zu_pic cA ad X Y) H) (hS : va_S A s.heap H locs) (hl : lv_has ls 2 [(0, .ref (ad 95)), (1, .int a1)]) (hf : fn_Mod_count a1 X = some res) : W p l e zR_Mod_count s m args below meth c H locs 0 0 (MQ below (zu_Qi D cA ad A res.1 res.2 Y) args s 0 0 A) (F0 m 0 ls []) := by
  obtain ⟨hx, hb, hml, hown, hts, hST⟩ := id B
  unfold fn_Mod_count at hf
  refine lv_iload_n hx hb zd_Mod_count_0 rfl (lv_at hl 1 rfl) ?_
  by_cases h1_0 : a1 = (0 : Int32)
  · have hf := zu_t h1_0 hf
    refine lv_tableIn (tgt := 48) (off := 47) hx hb zd_Mod_count_1 (by rw [h1_0]; decide) (by rw [h1_0]; decide) (by rw [h1_0]; decide) (by decide) ?_
    refine lv_aload_n hx hb zd_Mod_count_48 rfl (lv_at hl 0 rfl) ?_
    refine zg_Mod_s B hP rfl zq_861 zd_Mod_count_49 ?_
    refine lv_iconst (v := 0) hx hb zd_Mod_count_52 (by decide) ?_
    refine zr_iald (j := 0) (by decide) B hP rfl (by decide) rfl (by decide) zd_Mod_count_53 ?_
    obtain rfl := Option.some.inj hf
    exact zr_iret hx hb hret hlk hP hS zd_Mod_count_54
  · have hf := zu_f h1_0 hf
    by_cases h1_1 : a1 = (1 : Int32)
    · have hf := zu_t h1_1 hf
      refine lv_tableIn (tgt := 55) (off := 54) hx hb zd_Mod_count_1 (by rw [h1_1]; decide) (by rw [h1_1]; decide) (by rw [h1_1]; decide) (by decide) ?_
      refine lv_aload_n hx hb zd_Mod_count_55 rfl (lv_at hl 0 rfl) ?_
      refine zg_Mod_s B hP rfl zq_861 zd_Mod_count_56 ?_
      refine lv_iconst (v := 1) hx hb zd_Mod_count_59 (by decide) ?_
      refine zr_iald (j := 1) (by decide) B hP rfl (by decide) rfl (by decide) zd_Mod_count_60 ?_
      obtain rfl := Option.some.inj hf
      exact zr_iret hx hb hret hlk hP hS zd_Mod_count_61
    · have hf := zu_f h1_1 hf
      by_cases h1_2 : a1 = (2 : Int32)
      · have hf := zu_t h1_2 hf
        refine lv_tableIn (tgt := 62) (off := 61) hx hb zd_Mod_count_1 (by rw [h1_2]; decide) (by rw [h1_2]; decide) (by rw [h1_2]; decide) (by decide) ?_
        refine lv_aload_n hx hb zd_Mod_count_62 rfl (lv_at hl 0 rfl) ?_
        refine zg_Mod_s B hP rfl zq_861 zd_Mod_count_63 ?_
        refine lv_iconst (v := 2) hx hb zd_Mod_count_66 (by decide) ?_
        refine zr_iald (j := 2) (by decide) B hP rfl (by decide) rfl (by decide) zd_Mod_count_67 ?_
        obtain rfl := Option.some.inj hf
        exact zr_iret hx hb hret hlk hP hS zd_Mod_count_68
      · have hf := zu_f h1_2 hf
        by_cases h1_3 : a1 = (3 : Int32)
        · have hf := zu_t h1_3 hf
          refine lv_tableIn (tgt := 69) (off := 68) hx hb zd_Mod_count_1 (by rw [h1_3]; decide) (by rw [h1_3]; decide) (by rw [h1_3]; decide) (by decide) ?_
          refine lv_aload_n hx hb zd_Mod_count_69 rfl (lv_at hl 0 rfl) ?_
          obtain ⟨v1, X2, hq3, hf⟩ := zu_b2_e hf
          refine zw_Mod_thanksOf (rest := []) B hP hS hq3 zq_1222 (Nat.le_of_ble_eq_true rfl) (Nat.le_of_ble_eq_true rfl) hl.1 rfl (Nat.le_of_ble_eq_true rfl) zd_Mod_count_70 (by decide) (fun H locs hP hS => ?_)
          clear hq3
          obtain rfl := Option.some.inj hf
          exact zr_iret hx hb hret hlk hP hS zd_Mod_count_73
        · have hf := zu_f h1_3 hf
          by_cases h1_4 : a1 = (4 : Int32)
          · have hf := zu_t h1_4 hf
            refine lv_tableIn (tgt := 74) (off := 73) hx hb zd_Mod_count_1 (by rw [h1_4]; decide) (by rw [h1_4]; decide) (by rw [h1_4]; decide) (by decide) ?_
            refine lv_aload_n hx hb zd_Mod_count_74 rfl (lv_at hl 0 rfl) ?_
            obtain ⟨v4, hq5, hf⟩ := zu_b1_e hf
            refine zw_Mod_ills (rest := []) B hP hS hq5 zq_1382 (Nat.le_of_ble_eq_true rfl) (Nat.le_of_ble_eq_true rfl) hl.1 rfl (Nat.le_of_ble_eq_true rfl) zd_Mod_count_75 (by decide) (fun H locs hP hS => ?_)
            clear hq5
            obtain rfl := Option.some.inj hf
            exact zr_iret hx hb hret hlk hP hS zd_Mod_count_78
          · have hf := zu_f h1_4 hf
            by_cases h1_5 : a1 = (5 : Int32)
            · have hf := zu_t h1_5 hf
              refine lv_tableIn (tgt := 79) (off := 78) hx hb zd_Mod_count_1 (by rw [h1_5]; decide) (by rw [h1_5]; decide) (by rw [h1_5]; decide) (by decide) ?_
              refine lv_aload_n hx hb zd_Mod_count_79 rfl (lv_at hl 0 rfl) ?_
              refine zg_Mod_taped B hP rfl zq_875 zd_Mod_count_80 ?_
              obtain rfl := Option.some.inj hf
              exact zr_iret hx hb hret hlk hP hS zd_Mod_count_83
            · have hf := zu_f h1_5 hf
              by_cases h1_6 : a1 = (6 : Int32)
              · have hf := zu_t h1_6 hf
                refine lv_tableIn (tgt := 84) (off := 83) hx hb zd_Mod_count_1 (by rw [h1_6]; decide) (by rw [h1_6]; decide) (by rw [h1_6]; decide) (by decide) ?_
                refine lv_aload_n hx hb zd_Mod_count_84 rfl (lv_at hl 0 rfl) ?_
                refine zg_Mod_s B hP rfl zq_861 zd_Mod_count_85 ?_
                refine lv_iconst (v := 5) hx hb zd_Mod_count_88 (by decide) ?_
                refine zr_iald (j := 5) (by decide) B hP rfl (by decide) rfl (by decide) zd_Mod_count_89 ?_
                obtain rfl := Option.some.inj hf
                exact zr_iret hx hb hret hlk hP hS zd_Mod_count_90
              · have hf := zu_f h1_6 hf
                by_cases h1_7 : a1 = (7 : Int32)
                · have hf := zu_t h1_7 hf
                  refine lv_tableIn (tgt := 91) (off := 90) hx hb zd_Mod_count_1 (by rw [h1_7]; decide) (by rw [h1_7]; decide) (by rw [h1_7]; decide) (by decide) ?_
                  refine lv_aload_n hx hb zd_Mod_count_91 rfl (lv_at hl 0 rfl) ?_
                  obtain ⟨v6, hq7, hf⟩ := zu_b1_e hf
                  refine zw_Mod_held (rest := []) B hP hS hq7 zq_1386 (Nat.le_of_ble_eq_true rfl) (Nat.le_of_ble_eq_true rfl) hl.1 rfl (Nat.le_of_ble_eq_true rfl) zd_Mod_count_92 (by decide) (fun H locs hP hS => ?_)
                  clear hq7
                  obtain rfl := Option.some.inj hf
                  exact zr_iret hx hb hret hlk hP hS zd_Mod_count_95
                · have hf := zu_f h1_7 hf
                  have hsw : a1.toInt < 0 ∨ 7 < a1.toInt := by
                    have n0 := lv_neT h1_0 (a := 0) (by decide)
                    have n1 := lv_neT h1_1 (a := 1) (by decide)
                    have n2 := lv_neT h1_2 (a := 2) (by decide)
                    have n3 := lv_neT h1_3 (a := 3) (by decide)
                    have n4 := lv_neT h1_4 (a := 4) (by decide)
                    have n5 := lv_neT h1_5 (a := 5) (by decide)
                    have n6 := lv_neT h1_6 (a := 6) (by decide)
                    have n7 := lv_neT h1_7 (a := 7) (by decide)
                    omega
                  refine lv_tableOut (tgt := 96) hx hb zd_Mod_count_1 hsw (by decide) ?_
                  refine lv_aload_n hx hb zd_Mod_count_96 rfl (lv_at hl 0 rfl) ?_
                  refine lv_ldc (v := -1000001) hx hb hown (hts _ zq_943) zd_Mod_count_97 ?_
                  obtain ⟨v8, X9, hq10, hf⟩ := zu_b2_e hf
                  refine zw_Mod_finds (rest := []) B hP hS hq10 zq_944 (Nat.le_of_ble_eq_true rfl) (Nat.le_of_ble_eq_true rfl) hl.1 rfl (Nat.le_of_ble_eq_true rfl) zd_Mod_count_99 (by decide) (fun H locs hP hS => ?_)
                  clear hq10
                  obtain rfl := Option.some.inj hf
                  exact zr_iret hx hb hret hlk hP hS zd_Mod_count_102
theorem zC_Mod_count (l : Launch) {D : va_G} {cA : Nat → ClassId} {ad : Nat → Nat} {A : Nat → Prop} {a1 : Int32} {X : IX} {Y : LX} {res : Int32 × IX} (hf : fn_Mod_count a1 X = some res) : Met l zm_Mod_count (zu_ws zm_Mod_count zb_Mod_count 2 (some .int)) zR_Mod_count (va_Pc [.ref (ad 95), .int a1] (zu_Pre D cA ad A X Y)) (zu_Qi D cA ad A res.1 res.2 Y) 0 0 A := by
  refine Met.ofW (cc := zb_Mod_count) (maxL := 2) (ret := (some .int)) (by decide +kernel) rfl ?_
  intro p e s m args below meth c s₁ B0 hml hv
  obtain ⟨rfl, hP, hST⟩ := hv
  have B : zu_B p s m _ c zb_Mod_count 2 "StonePostModel" D cA ad A := ⟨B0.exec, B0.bytes, hml, findClass_of_methodNamed B0.named, (fun w hw => atoms_spec (ws := zu_ws zm_Mod_count zb_Mod_count 2 (some .int)) B0.pre w (List.mem_cons_of_mem _ hw)), hST⟩
  have hl := lv_entry ([.ref (ad 95), .int a1]) (n := 2) (Nat.le_of_ble_eq_true rfl)
  rw [lg_entry_eq]
  generalize (lg_sl ([.ref (ad 95), .int a1]) ++ List.replicate (2 - (lg_sl ([.ref (ad 95), .int a1])).length) Slot.unset).toArray = ls at hl ⊢
  exact zl_Mod_count B B0.returns B0.notSynchronized s.heap [] ls hP va_S.rf hl  hf
theorem zw_Mod_count {p : Program} {l : Launch} {e : Env} {R : Room} {s : State} {m : MethodId} {args : Array Value} {below : List Frame} {meth : Method} {c : Code} {H : Heap} {locs : List Loc} {cells slots : Nat} {Q : State → Prop} {cc : ByteArray} {pc nL : Nat} {ls : Array Slot} {rest st0 : List Value} {D : va_G} {cA : Nat → ClassId} {ad : Nat → Nat} {A : Nat → Prop} {X : IX} {Y : LX} {own : String} {index : Nat} {a1 : Int32} {v1 : Int32} {X1 : IX} (B : zu_B p s m args c cc nL own D cA ad A) (hP : va_P D zu_cl (zu_pic cA ad X Y) H) (hS : va_S A s.heap H locs) (hq : fn_Mod_count a1 X = some (v1, X1)) (m1 : Cond.methodLink own index zm_Mod_count ∈ zu_TB) (hR1 : 3 + 1 ≤ R.frames) (hR2 : 8 + (2 + 11) + 65 ≤ R.locals) (hsz : ls.size = nL) (hst : st0 = .int a1 :: .ref (ad 95) :: rest) (hw : (rest.map fun v => v.category).sum ≤ 8) (hdg : decode cc pc = .ok (.invokevirtual index, 3)) (h00 : cells ≤ R.cells ∧ slots ≤ R.slots) (kk : ∀ (H1 : Heap) (locs1 : List Loc), va_P D zu_cl (zu_pic cA ad X1 Y) H1 → va_S A s.heap H1 locs1 → W p l e R s m args below meth c H1 locs1 cells slots Q (F0 m (pc + 3) ls (.int v1 :: rest))) : W p l e R s m args below meth c H locs cells slots Q (F0 m pc ls st0) := by
  subst hst
  exact zr_cVi (As := [.int a1]) (rest := rest) (n := 1) (C := "StonePostModel") (T := zt_Mod) (N := 23) B hP hS (zC_Mod_count l  hq) (K := 7) rfl (by decide) (by decide) rfl rfl m1 zq_1379 zq_1380 zq_8 zq_1381 (by decide +kernel) ⟨hR1, hR2⟩ rfl rfl rfl hsz rfl hw hdg h00 kk
abbrev zR_Mod_status : Room := { frames := 1, cells := 0, slots := 0, locals := 25 }
theorem zd_Mod_status_0 : decode zb_Mod_status 0 = .ok (.iload_n 1, 1) := by decide +kernel
theorem zd_Mod_status_1 : decode zb_Mod_status 1 = .ok (.i2l, 1) := by decide +kernel
theorem zd_Mod_status_2 : decode zb_Mod_status 2 = .ok (.ldc2_w 365, 3) := by decide +kernel
theorem zd_Mod_status_5 : decode zb_Mod_status 5 = .ok (.ldc2_w 77, 3) := by decide +kernel
theorem zd_Mod_status_8 : decode zb_Mod_status 8 = .ok (.invokestatic 53, 3) := by decide +kernel
theorem zd_Mod_status_11 : decode zb_Mod_status 11 = .ok (.ifCond .ne 10, 3) := by decide +kernel
theorem zd_Mod_status_14 : decode zb_Mod_status 14 = .ok (.aload_n 0, 1) := by decide +kernel
theorem zd_Mod_status_15 : decode zb_Mod_status 15 = .ok (.ldc 50, 2) := by decide +kernel
theorem zd_Mod_status_17 : decode zb_Mod_status 17 = .ok (.invokevirtual 64, 3) := by decide +kernel
theorem zd_Mod_status_20 : decode zb_Mod_status 20 = .ok (.ireturn, 1) := by decide +kernel
theorem zd_Mod_status_21 : decode zb_Mod_status 21 = .ok (.iconst 0, 1) := by decide +kernel
theorem zd_Mod_status_22 : decode zb_Mod_status 22 = .ok (.istore_n 2, 1) := by decide +kernel
theorem zd_Mod_status_23 : decode zb_Mod_status 23 = .ok (.iconst 0, 1) := by decide +kernel
theorem zd_Mod_status_24 : decode zb_Mod_status 24 = .ok (.istore_n 3, 1) := by decide +kernel
theorem zd_Mod_status_25 : decode zb_Mod_status 25 = .ok (.iload_n 3, 1) := by decide +kernel
theorem zd_Mod_status_26 : decode zb_Mod_status 26 = .ok (.bipush 7, 2) := by decide +kernel
theorem zd_Mod_status_28 : decode zb_Mod_status 28 = .ok (.if_icmp .ge 31, 3) := by decide +kernel
theorem zd_Mod_status_31 : decode zb_Mod_status 31 = .ok (.iload_n 2, 1) := by decide +kernel
theorem zd_Mod_status_32 : decode zb_Mod_status 32 = .ok (.iload_n 1, 1) := by decide +kernel
theorem zd_Mod_status_33 : decode zb_Mod_status 33 = .ok (.ifCond .lt 8, 3) := by decide +kernel
theorem zd_Mod_status_36 : decode zb_Mod_status 36 = .ok (.iload_n 3, 1) := by decide +kernel
theorem zd_Mod_status_37 : decode zb_Mod_status 37 = .ok (.iload_n 1, 1) := by decide +kernel
theorem zd_Mod_status_38 : decode zb_Mod_status 38 = .ok (.if_icmp .ne 12, 3) := by decide +kernel
theorem zd_Mod_status_41 : decode zb_Mod_status 41 = .ok (.aload_n 0, 1) := by decide +kernel
theorem zd_Mod_status_42 : decode zb_Mod_status 42 = .ok (.getfield 19, 3) := by decide +kernel
theorem zd_Mod_status_45 : decode zb_Mod_status 45 = .ok (.iload_n 3, 1) := by decide +kernel
theorem zd_Mod_status_46 : decode zb_Mod_status 46 = .ok (.iaload, 1) := by decide +kernel
theorem zd_Mod_status_47 : decode zb_Mod_status 47 = .ok (.goto 4, 3) := by decide +kernel
theorem zd_Mod_status_50 : decode zb_Mod_status 50 = .ok (.iconst 0, 1) := by decide +kernel
theorem zd_Mod_status_51 : decode zb_Mod_status 51 = .ok (.iadd, 1) := by decide +kernel
theorem zd_Mod_status_52 : decode zb_Mod_status 52 = .ok (.istore_n 2, 1) := by decide +kernel
theorem zd_Mod_status_53 : decode zb_Mod_status 53 = .ok (.iinc 3 1, 3) := by decide +kernel
theorem zd_Mod_status_56 : decode zb_Mod_status 56 = .ok (.goto (-31), 3) := by decide +kernel
theorem zd_Mod_status_59 : decode zb_Mod_status 59 = .ok (.iload_n 2, 1) := by decide +kernel
theorem zd_Mod_status_60 : decode zb_Mod_status 60 = .ok (.ireturn, 1) := by decide +kernel
set_option maxHeartbeats 4000000 in
theorem zl_Mod_status_L51 {p : Program} {l : Launch} {e : Env} {s : State} {m : MethodId} {args : Array Value} {below : List Frame} {meth : Method} {c : Code} {D : va_G} {cA : Nat → ClassId} {ad : Nat → Nat} {A : Nat → Prop} (B : zu_B p s m args c zb_Mod_status 4 "StonePostModel" D cA ad A) (hret : meth.sig.returnType = (some .int)) (hlk : meth.locks = false) {Y : LX} {res : Int32 × IX} {k25 : Int32 → Int32 → Int32 → IX → Option (Int32 × IX)} (hk25 : ∀ (x1 : Int32) (x2 : Int32) (x3 : Int32) (X : IX) (H : Heap) (locs : List Loc) (ls : Array Slot), va_P D zu_cl (zu_pic cA ad X Y) H → va_S A s.heap H locs → lv_has ls 4 [(0, .ref (ad 95)), (1, .int x1), (2, .int x2), (3, .int x3)] → k25 x1 x2 x3 X = some res → W p l e zR_Mod_status s m args below meth c H locs 0 0 (MQ below (zu_Qi D cA ad A res.1 res.2 Y) args s 0 0 A) (F0 m 25 ls [])) (x1 : Int32) (x3 : Int32) (y0 : Int32) (y1 : Int32) (X : IX) (H : Heap) (locs : List Loc) (ls : Array Slot) (hP : va_P D zu_cl (zu_pic cA ad X Y) H) (hS : va_S A s.heap H locs) (hl : lv_has ls 4 [(0, .ref (ad 95)), (1, .int x1), (3, .int x3)]) (hf : fn_Mod_status_L51 k25 x1 x3 y0 y1 X = some res) : W p l e zR_Mod_status s m args below meth c H locs 0 0 (MQ below (zu_Qi D cA ad A res.1 res.2 Y) args s 0 0 A) (F0 m 51 ls [.int y0, .int y1]) := by
  obtain ⟨hx, hb, hml, hown, hts, hST⟩ := id B
  unfold fn_Mod_status_L51 at hf
  refine lv_iadd hx hb zd_Mod_status_51 ?_
  refine zr_nxi hf (fun v11 hf => ?_)
  refine lv_istore_n (lv' := [(2, .int v11), (0, .ref (ad 95)), (1, .int x1), (3, .int x3)]) hx hb zd_Mod_status_52 rfl hl (by decide) rfl (fun ls hl => ?_)
  obtain ⟨v12, ev12, hf⟩ := zu_nx_e hf
  refine lv_iinc (v := v12) (lv' := [(3, .int v12), (2, .int v11), (0, .ref (ad 95)), (1, .int x1)]) hx hb zd_Mod_status_53 hl (k := 3) rfl (by rw [ev12]; rfl) (by decide) rfl (fun ls hl => ?_)
  clear ev12
  refine lv_goto (tgt := 25) hx hb zd_Mod_status_56 (by decide) ?_
  exact hk25 x1 v11 v12 X _ _ _ hP hS (lv_sub hl [2, 3, 1, 0] rfl) hf
set_option maxHeartbeats 4000000 in
theorem zl_Mod_status_L41 {p : Program} {l : Launch} {e : Env} {s : State} {m : MethodId} {args : Array Value} {below : List Frame} {meth : Method} {c : Code} {D : va_G} {cA : Nat → ClassId} {ad : Nat → Nat} {A : Nat → Prop} (B : zu_B p s m args c zb_Mod_status 4 "StonePostModel" D cA ad A) (hret : meth.sig.returnType = (some .int)) (hlk : meth.locks = false) {Y : LX} {res : Int32 × IX} {k25 : Int32 → Int32 → Int32 → IX → Option (Int32 × IX)} (hk25 : ∀ (x1 : Int32) (x2 : Int32) (x3 : Int32) (X : IX) (H : Heap) (locs : List Loc) (ls : Array Slot), va_P D zu_cl (zu_pic cA ad X Y) H → va_S A s.heap H locs → lv_has ls 4 [(0, .ref (ad 95)), (1, .int x1), (2, .int x2), (3, .int x3)] → k25 x1 x2 x3 X = some res → W p l e zR_Mod_status s m args below meth c H locs 0 0 (MQ below (zu_Qi D cA ad A res.1 res.2 Y) args s 0 0 A) (F0 m 25 ls [])) (x1 : Int32) (x3 : Int32) (y0 : Int32) (X : IX) (H : Heap) (locs : List Loc) (ls : Array Slot) (hP : va_P D zu_cl (zu_pic cA ad X Y) H) (hS : va_S A s.heap H locs) (hl : lv_has ls 4 [(0, .ref (ad 95)), (1, .int x1), (3, .int x3)]) (hf : fn_Mod_status_L41 k25 x1 x3 y0 X = some res) : W p l e zR_Mod_status s m args below meth c H locs 0 0 (MQ below (zu_Qi D cA ad A res.1 res.2 Y) args s 0 0 A) (F0 m 41 ls [.int y0]) := by
  obtain ⟨hx, hb, hml, hown, hts, hST⟩ := id B
  unfold fn_Mod_status_L41 at hf
  refine lv_aload_n hx hb zd_Mod_status_41 rfl (lv_at hl 0 rfl) ?_
  refine zg_Mod_statuses B hP rfl zq_864 zd_Mod_status_42 ?_
  refine lv_iload_n hx hb zd_Mod_status_45 rfl (lv_at hl 2 rfl) ?_
  obtain ⟨hg10, hf⟩ := zu_gd_e hf
  refine zr_iald rfl B hP rfl (by decide) rfl hg10 zd_Mod_status_46 ?_
  refine lv_goto (tgt := 51) hx hb zd_Mod_status_47 (by decide) ?_
  exact zl_Mod_status_L51 B hret hlk hk25 x1 x3 (X 99 (x3.toNatClampNeg)) y0 X _ _ _ hP hS (lv_sub hl [0, 1, 2] rfl) hf
set_option maxHeartbeats 4000000 in
theorem zl_Mod_status_B25 {p : Program} {l : Launch} {e : Env} {s : State} {m : MethodId} {args : Array Value} {below : List Frame} {meth : Method} {c : Code} {D : va_G} {cA : Nat → ClassId} {ad : Nat → Nat} {A : Nat → Prop} (B : zu_B p s m args c zb_Mod_status 4 "StonePostModel" D cA ad A) (hret : meth.sig.returnType = (some .int)) (hlk : meth.locks = false) {Y : LX} {res : Int32 × IX} {k25 : Int32 → Int32 → Int32 → IX → Option (Int32 × IX)} (hk25 : ∀ (x1 : Int32) (x2 : Int32) (x3 : Int32) (X : IX) (H : Heap) (locs : List Loc) (ls : Array Slot), va_P D zu_cl (zu_pic cA ad X Y) H → va_S A s.heap H locs → lv_has ls 4 [(0, .ref (ad 95)), (1, .int x1), (2, .int x2), (3, .int x3)] → k25 x1 x2 x3 X = some res → W p l e zR_Mod_status s m args below meth c H locs 0 0 (MQ below (zu_Qi D cA ad A res.1 res.2 Y) args s 0 0 A) (F0 m 25 ls [])) (x1 : Int32) (x2 : Int32) (x3 : Int32) (X : IX) (H : Heap) (locs : List Loc) (ls : Array Slot) (hP : va_P D zu_cl (zu_pic cA ad X Y) H) (hS : va_S A s.heap H locs) (hl : lv_has ls 4 [(0, .ref (ad 95)), (1, .int x1), (2, .int x2), (3, .int x3)]) (hf : fn_Mod_status_B25 k25 x1 x2 x3 X = some res) : W p l e zR_Mod_status s m args below meth c H locs 0 0 (MQ below (zu_Qi D cA ad A res.1 res.2 Y) args s 0 0 A) (F0 m 25 ls []) := by
  obtain ⟨hx, hb, hml, hown, hts, hST⟩ := id B
  unfold fn_Mod_status_B25 at hf
  refine lv_iload_n hx hb zd_Mod_status_25 rfl (lv_at hl 3 rfl) ?_
  refine lv_bipush (v := 7) hx hb zd_Mod_status_26 (by decide) ?_
  refine lv_icmp_ge (tgt := 59) hx hb zd_Mod_status_28 (by decide) (fun c7 => ?_) (fun c7 => ?_)
  · have hf := zu_t c7 hf
    refine lv_iload_n hx hb zd_Mod_status_59 rfl (lv_at hl 2 rfl) ?_
    obtain rfl := Option.some.inj hf
    exact zr_iret hx hb hret hlk hP hS zd_Mod_status_60
  · have hf := zu_f c7 hf
    refine lv_iload_n hx hb zd_Mod_status_31 rfl (lv_at hl 2 rfl) ?_
    refine lv_iload_n hx hb zd_Mod_status_32 rfl (lv_at hl 1 rfl) ?_
    refine lv_if_lt (tgt := 41) hx hb zd_Mod_status_33 (by decide) (fun c8 => ?_) (fun c8 => ?_)
    · have hf := zu_t c8 hf
      exact zl_Mod_status_L41 B hret hlk hk25 x1 x3 x2 X _ _ _ hP hS (lv_sub hl [0, 1, 3] rfl) hf
    · have hf := zu_f c8 hf
      refine lv_iload_n hx hb zd_Mod_status_36 rfl (lv_at hl 3 rfl) ?_
      refine lv_iload_n hx hb zd_Mod_status_37 rfl (lv_at hl 1 rfl) ?_
      refine lv_icmp_ne (tgt := 50) hx hb zd_Mod_status_38 (by decide) (fun c9 => ?_) (fun c9 => ?_)
      · have hf := zu_f c9 hf
        refine lv_iconst (v := 0) hx hb zd_Mod_status_50 (by decide) ?_
        exact zl_Mod_status_L51 B hret hlk hk25 x1 x3 (0 : Int32) x2 X _ _ _ hP hS (lv_sub hl [0, 1, 3] rfl) hf
      · have hf := zu_t c9 hf
        exact zl_Mod_status_L41 B hret hlk hk25 x1 x3 x2 X _ _ _ hP hS (lv_sub hl [0, 1, 3] rfl) hf
theorem zl_Mod_status_L25 {p : Program} {l : Launch} {e : Env} {s : State} {m : MethodId} {args : Array Value} {below : List Frame} {meth : Method} {c : Code} {D : va_G} {cA : Nat → ClassId} {ad : Nat → Nat} {A : Nat → Prop} (B : zu_B p s m args c zb_Mod_status 4 "StonePostModel" D cA ad A) (hret : meth.sig.returnType = (some .int)) (hlk : meth.locks = false) {Y : LX} {res : Int32 × IX} : ∀ (n : Nat) (x1 : Int32) (x2 : Int32) (x3 : Int32) (X : IX) (H : Heap) (locs : List Loc) (ls : Array Slot), va_P D zu_cl (zu_pic cA ad X Y) H → va_S A s.heap H locs → lv_has ls 4 [(0, .ref (ad 95)), (1, .int x1), (2, .int x2), (3, .int x3)] → fn_Mod_status_L25 n x1 x2 x3 X = some res → W p l e zR_Mod_status s m args below meth c H locs 0 0 (MQ below (zu_Qi D cA ad A res.1 res.2 Y) args s 0 0 A) (F0 m 25 ls []) := by
  intro n
  induction n with
  | zero =>
    intro x1 x2 x3 X H locs ls hP hS hl hf
    exact (Option.some_ne_none _ hf.symm).elim
  | succ n ih =>
    intro x1 x2 x3 X H locs ls hP hS hl hf
    exact zl_Mod_status_B25 B hret hlk ih x1 x2 x3 X H locs ls hP hS hl  hf
set_option maxHeartbeats 4000000 in
theorem zl_Mod_status {p : Program} {l : Launch} {e : Env} {s : State} {m : MethodId} {args : Array Value} {below : List Frame} {meth : Method} {c : Code} {D : va_G} {cA : Nat → ClassId} {ad : Nat → Nat} {A : Nat → Prop} (B : zu_B p s m args c zb_Mod_status 4 "StonePostModel" D cA ad A) (hret : meth.sig.returnType = (some .int)) (hlk : meth.locks = false) {Y : LX} {res : Int32 × IX} {a1 : Int32} {X : IX} (H : Heap) (locs : List Loc) (ls : Array Slot) (hP : va_P D zu_cl (zu_pic cA ad X Y) H) (hS : va_S A s.heap H locs) (hl : lv_has ls 4 [(0, .ref (ad 95)), (1, .int a1)]) (hf : fn_Mod_status a1 X = some res) : W p l e zR_Mod_status s m args below meth c H locs 0 0 (MQ below (zu_Qi D cA ad A res.1 res.2 Y) args s 0 0 A) (F0 m 0 ls []) := by
  obtain ⟨hx, hb, hml, hown, hts, hST⟩ := id B
  unfold fn_Mod_status at hf
  refine lv_iload_n hx hb zd_Mod_status_0 rfl (lv_at hl 1 rfl) ?_
  refine lv_i2l hx hb zd_Mod_status_1 rfl ?_
  refine lv_ldc2 (v := -1) hx hb hown (hts _ zq_1394) zd_Mod_status_2 ?_
  refine lv_ldc2 (v := 6) hx hb hown (hts _ zq_957) zd_Mod_status_5 ?_
  obtain ⟨v1, hq2, hf⟩ := zu_b1_e hf
  refine zw_Mod_in (rest := []) B hP hS hq2 zq_939 (Nat.le_of_ble_eq_true rfl) (Nat.le_of_ble_eq_true rfl) hl.1 rfl (Nat.le_of_ble_eq_true rfl) zd_Mod_status_8 (by decide) (fun H locs hP hS => ?_)
  clear hq2
  refine lv_if_ne (tgt := 21) hx hb zd_Mod_status_11 (by decide) (fun c3 => ?_) (fun c3 => ?_)
  · have hf := zu_f c3 hf
    refine lv_iconst (v := 0) hx hb zd_Mod_status_21 (by decide) ?_
    refine lv_istore_n (lv' := [(2, .int (0 : Int32)), (0, .ref (ad 95)), (1, .int a1)]) hx hb zd_Mod_status_22 rfl hl (by decide) rfl (fun ls hl => ?_)
    refine lv_iconst (v := 0) hx hb zd_Mod_status_23 (by decide) ?_
    refine lv_istore_n (lv' := [(3, .int (0 : Int32)), (2, .int (0 : Int32)), (0, .ref (ad 95)), (1, .int a1)]) hx hb zd_Mod_status_24 rfl hl (by decide) rfl (fun ls hl => ?_)
    exact zl_Mod_status_L25 B hret hlk 400 a1 (0 : Int32) (0 : Int32) X _ _ _ hP hS (lv_sub hl [2, 3, 1, 0] rfl) hf
  · have hf := zu_t c3 hf
    refine lv_aload_n hx hb zd_Mod_status_14 rfl (lv_at hl 0 rfl) ?_
    refine lv_ldc (v := -1000001) hx hb hown (hts _ zq_943) zd_Mod_status_15 ?_
    obtain ⟨v4, X5, hq6, hf⟩ := zu_b2_e hf
    refine zw_Mod_finds (rest := []) B hP hS hq6 zq_944 (Nat.le_of_ble_eq_true rfl) (Nat.le_of_ble_eq_true rfl) hl.1 rfl (Nat.le_of_ble_eq_true rfl) zd_Mod_status_17 (by decide) (fun H locs hP hS => ?_)
    clear hq6
    obtain rfl := Option.some.inj hf
    exact zr_iret hx hb hret hlk hP hS zd_Mod_status_20
theorem zC_Mod_status (l : Launch) {D : va_G} {cA : Nat → ClassId} {ad : Nat → Nat} {A : Nat → Prop} {a1 : Int32} {X : IX} {Y : LX} {res : Int32 × IX} (hf : fn_Mod_status a1 X = some res) : Met l zm_Mod_status (zu_ws zm_Mod_status zb_Mod_status 4 (some .int)) zR_Mod_status (va_Pc [.ref (ad 95), .int a1] (zu_Pre D cA ad A X Y)) (zu_Qi D cA ad A res.1 res.2 Y) 0 0 A := by
  refine Met.ofW (cc := zb_Mod_status) (maxL := 4) (ret := (some .int)) (by decide +kernel) rfl ?_
  intro p e s m args below meth c s₁ B0 hml hv
  obtain ⟨rfl, hP, hST⟩ := hv
  have B : zu_B p s m _ c zb_Mod_status 4 "StonePostModel" D cA ad A := ⟨B0.exec, B0.bytes, hml, findClass_of_methodNamed B0.named, (fun w hw => atoms_spec (ws := zu_ws zm_Mod_status zb_Mod_status 4 (some .int)) B0.pre w (List.mem_cons_of_mem _ hw)), hST⟩
  have hl := lv_entry ([.ref (ad 95), .int a1]) (n := 4) (Nat.le_of_ble_eq_true rfl)
  rw [lg_entry_eq]
  generalize (lg_sl ([.ref (ad 95), .int a1]) ++ List.replicate (4 - (lg_sl ([.ref (ad 95), .int a1])).length) Slot.unset).toArray = ls at hl ⊢
  exact zl_Mod_status B B0.returns B0.notSynchronized s.heap [] ls hP va_S.rf hl  hf
theorem zw_Mod_status {p : Program} {l : Launch} {e : Env} {R : Room} {s : State} {m : MethodId} {args : Array Value} {below : List Frame} {meth : Method} {c : Code} {H : Heap} {locs : List Loc} {cells slots : Nat} {Q : State → Prop} {cc : ByteArray} {pc nL : Nat} {ls : Array Slot} {rest st0 : List Value} {D : va_G} {cA : Nat → ClassId} {ad : Nat → Nat} {A : Nat → Prop} {X : IX} {Y : LX} {own : String} {index : Nat} {a1 : Int32} {v1 : Int32} {X1 : IX} (B : zu_B p s m args c cc nL own D cA ad A) (hP : va_P D zu_cl (zu_pic cA ad X Y) H) (hS : va_S A s.heap H locs) (hq : fn_Mod_status a1 X = some (v1, X1)) (m1 : Cond.methodLink own index zm_Mod_status ∈ zu_TB) (hR1 : 1 + 1 ≤ R.frames) (hR2 : 8 + (4 + 11) + 25 ≤ R.locals) (hsz : ls.size = nL) (hst : st0 = .int a1 :: .ref (ad 95) :: rest) (hw : (rest.map fun v => v.category).sum ≤ 8) (hdg : decode cc pc = .ok (.invokevirtual index, 3)) (h00 : cells ≤ R.cells ∧ slots ≤ R.slots) (kk : ∀ (H1 : Heap) (locs1 : List Loc), va_P D zu_cl (zu_pic cA ad X1 Y) H1 → va_S A s.heap H1 locs1 → W p l e R s m args below meth c H1 locs1 cells slots Q (F0 m (pc + 3) ls (.int v1 :: rest))) : W p l e R s m args below meth c H locs cells slots Q (F0 m pc ls st0) := by
  subst hst
  exact zr_cVi (As := [.int a1]) (rest := rest) (n := 1) (C := "StonePostModel") (T := zt_Mod) (N := 23) B hP hS (zC_Mod_status l  hq) (K := 7) rfl (by decide) (by decide) rfl rfl m1 zq_1391 zq_1392 zq_8 zq_1393 (by decide +kernel) ⟨hR1, hR2⟩ rfl rfl rfl hsz rfl hw hdg h00 kk
