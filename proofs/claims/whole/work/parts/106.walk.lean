abbrev zR_Post_seed : Room := { frames := 0, cells := 0, slots := 0, locals := 0 }
theorem zd_Post_seed_0 : decode zb_Post_seed 0 = .ok (.aload_n 0, 1) := by decide +kernel
theorem zd_Post_seed_1 : decode zb_Post_seed 1 = .ok (.getfield 10, 3) := by decide +kernel
theorem zd_Post_seed_4 : decode zb_Post_seed 4 = .ok (.getfield 231, 3) := by decide +kernel
theorem zd_Post_seed_7 : decode zb_Post_seed 7 = .ok (.istore_n 2, 1) := by decide +kernel
theorem zd_Post_seed_8 : decode zb_Post_seed 8 = .ok (.aload_n 0, 1) := by decide +kernel
theorem zd_Post_seed_9 : decode zb_Post_seed 9 = .ok (.getfield 10, 3) := by decide +kernel
theorem zd_Post_seed_12 : decode zb_Post_seed 12 = .ok (.iload_n 1, 1) := by decide +kernel
theorem zd_Post_seed_13 : decode zb_Post_seed 13 = .ok (.putfield 231, 3) := by decide +kernel
theorem zd_Post_seed_16 : decode zb_Post_seed 16 = .ok (.iload_n 2, 1) := by decide +kernel
theorem zd_Post_seed_17 : decode zb_Post_seed 17 = .ok (.ireturn, 1) := by decide +kernel
set_option maxHeartbeats 4000000 in
theorem zl_Post_seed {p : Program} {l : Launch} {e : Env} {s : State} {m : MethodId} {args : Array Value} {below : List Frame} {meth : Method} {c : Code} {D : va_G} {cA : Nat → ClassId} {ad : Nat → Nat} {A : Nat → Prop} (B : zu_B p s m args c zb_Post_seed 3 "StonePost" D cA ad A) (hret : meth.sig.returnType = (some .int)) (hlk : meth.locks = false) {Y : LX} {res : Int32 × IX} {a1 : Int32} {X : IX} (H : Heap) (locs : List Loc) (ls : Array Slot) (hP : va_P D zu_cl (zu_pic cA ad X Y) H) (hS : va_S A s.heap H locs) (hl : lv_has ls 3 [(0, .ref (ad 0)), (1, .int a1)]) (hf : fn_Post_seed a1 X = some res) : W p l e zR_Post_seed s m args below meth c H locs 0 0 (MQ below (zu_Qi D cA ad A res.1 res.2 Y) args s 0 0 A) (F0 m 0 ls []) := by
  obtain ⟨hx, hb, hml, hown, hts, hST⟩ := id B
  unfold fn_Post_seed at hf
  refine lv_aload_n hx hb zd_Post_seed_0 rfl (lv_at hl 0 rfl) ?_
  refine zg_Post_land B hP rfl zq_191 zd_Post_seed_1 ?_
  refine zg_Land_z B hP rfl zq_78 zd_Post_seed_4 ?_
  refine zr_nxi hf (fun v1 hf => ?_)
  refine lv_istore_n (lv' := [(2, .int v1), (0, .ref (ad 0)), (1, .int a1)]) hx hb zd_Post_seed_7 rfl hl (by decide) rfl (fun ls hl => ?_)
  refine lv_aload_n hx hb zd_Post_seed_8 rfl (lv_at hl 1 rfl) ?_
  refine zg_Post_land B hP rfl zq_191 zd_Post_seed_9 ?_
  refine lv_iload_n hx hb zd_Post_seed_12 rfl (lv_at hl 2 rfl) ?_
  refine zp_Land_z B hP hS hf rfl zq_78 zd_Post_seed_13 (fun X2 H locs hf hP hS => ?_)
  refine lv_iload_n hx hb zd_Post_seed_16 rfl (lv_at hl 0 rfl) ?_
  obtain rfl := Option.some.inj hf
  exact zr_iret hx hb hret hlk hP hS zd_Post_seed_17
theorem zC_Post_seed (l : Launch) {D : va_G} {cA : Nat → ClassId} {ad : Nat → Nat} {A : Nat → Prop} {a1 : Int32} {X : IX} {Y : LX} {res : Int32 × IX} (hf : fn_Post_seed a1 X = some res) : Met l zm_Post_seed (zu_ws zm_Post_seed zb_Post_seed 3 (some .int)) zR_Post_seed (va_Pc [.ref (ad 0), .int a1] (zu_Pre D cA ad A X Y)) (zu_Qi D cA ad A res.1 res.2 Y) 0 0 A := by
  refine Met.ofW (cc := zb_Post_seed) (maxL := 3) (ret := (some .int)) (by decide +kernel) rfl ?_
  intro p e s m args below meth c s₁ B0 hml hv
  obtain ⟨rfl, hP, hST⟩ := hv
  have B : zu_B p s m _ c zb_Post_seed 3 "StonePost" D cA ad A := ⟨B0.exec, B0.bytes, hml, findClass_of_methodNamed B0.named, (fun w hw => atoms_spec (ws := zu_ws zm_Post_seed zb_Post_seed 3 (some .int)) B0.pre w (List.mem_cons_of_mem _ hw)), hST⟩
  have hl := lv_entry ([.ref (ad 0), .int a1]) (n := 3) (Nat.le_of_ble_eq_true rfl)
  rw [lg_entry_eq]
  generalize (lg_sl ([.ref (ad 0), .int a1]) ++ List.replicate (3 - (lg_sl ([.ref (ad 0), .int a1])).length) Slot.unset).toArray = ls at hl ⊢
  exact zl_Post_seed B B0.returns B0.notSynchronized s.heap [] ls hP va_S.rf hl  hf
theorem zw_Post_seed {p : Program} {l : Launch} {e : Env} {R : Room} {s : State} {m : MethodId} {args : Array Value} {below : List Frame} {meth : Method} {c : Code} {H : Heap} {locs : List Loc} {cells slots : Nat} {Q : State → Prop} {cc : ByteArray} {pc nL : Nat} {ls : Array Slot} {rest st0 : List Value} {D : va_G} {cA : Nat → ClassId} {ad : Nat → Nat} {A : Nat → Prop} {X : IX} {Y : LX} {own : String} {index : Nat} {a1 : Int32} {v1 : Int32} {X1 : IX} (B : zu_B p s m args c cc nL own D cA ad A) (hP : va_P D zu_cl (zu_pic cA ad X Y) H) (hS : va_S A s.heap H locs) (hq : fn_Post_seed a1 X = some (v1, X1)) (m1 : Cond.methodLink own index zm_Post_seed ∈ zu_TB) (hR1 : 0 + 1 ≤ R.frames) (hR2 : 8 + (3 + 11) + 0 ≤ R.locals) (hsz : ls.size = nL) (hst : st0 = .int a1 :: .ref (ad 0) :: rest) (hw : (rest.map fun v => v.category).sum ≤ 8) (hdg : decode cc pc = .ok (.invokevirtual index, 3)) (h00 : cells ≤ R.cells ∧ slots ≤ R.slots) (kk : ∀ (H1 : Heap) (locs1 : List Loc), va_P D zu_cl (zu_pic cA ad X1 Y) H1 → va_S A s.heap H1 locs1 → W p l e R s m args below meth c H1 locs1 cells slots Q (F0 m (pc + 3) ls (.int v1 :: rest))) : W p l e R s m args below meth c H locs cells slots Q (F0 m pc ls st0) := by
  subst hst
  exact zr_cVi (As := [.int a1]) (rest := rest) (n := 1) (C := "StonePost") (T := zt_Post) (N := 8) B hP hS (zC_Post_seed l  hq) (K := 1) rfl (by decide) (by decide) rfl rfl m1 zq_610 zq_611 zq_1 zq_612 (by decide +kernel) ⟨hR1, hR2⟩ rfl rfl rfl hsz rfl hw hdg h00 kk
abbrev zR_Post_feed : Room := { frames := 2, cells := 0, slots := 0, locals := 44 }
theorem zd_Post_feed_0 : decode zb_Post_feed 0 = .ok (.iload_n 2, 1) := by decide +kernel
theorem zd_Post_feed_1 : decode zb_Post_feed 1 = .ok (.iconst 1, 1) := by decide +kernel
theorem zd_Post_feed_2 : decode zb_Post_feed 2 = .ok (.iconst 4, 1) := by decide +kernel
theorem zd_Post_feed_3 : decode zb_Post_feed 3 = .ok (.invokestatic 51, 3) := by decide +kernel
theorem zd_Post_feed_6 : decode zb_Post_feed 6 = .ok (.ifCond .ne 10, 3) := by decide +kernel
theorem zd_Post_feed_9 : decode zb_Post_feed 9 = .ok (.aload_n 0, 1) := by decide +kernel
theorem zd_Post_feed_10 : decode zb_Post_feed 10 = .ok (.ldc 55, 2) := by decide +kernel
theorem zd_Post_feed_12 : decode zb_Post_feed 12 = .ok (.invokevirtual 56, 3) := by decide +kernel
theorem zd_Post_feed_15 : decode zb_Post_feed 15 = .ok (.ireturn, 1) := by decide +kernel
theorem zd_Post_feed_16 : decode zb_Post_feed 16 = .ok (.aload_n 0, 1) := by decide +kernel
theorem zd_Post_feed_17 : decode zb_Post_feed 17 = .ok (.getfield 32, 3) := by decide +kernel
theorem zd_Post_feed_20 : decode zb_Post_feed 20 = .ok (.getfield 234, 3) := by decide +kernel
theorem zd_Post_feed_23 : decode zb_Post_feed 23 = .ok (.iload_n 2, 1) := by decide +kernel
theorem zd_Post_feed_24 : decode zb_Post_feed 24 = .ok (.iadd, 1) := by decide +kernel
theorem zd_Post_feed_25 : decode zb_Post_feed 25 = .ok (.bipush 120, 2) := by decide +kernel
theorem zd_Post_feed_27 : decode zb_Post_feed 27 = .ok (.if_icmp .le 10, 3) := by decide +kernel
theorem zd_Post_feed_30 : decode zb_Post_feed 30 = .ok (.aload_n 0, 1) := by decide +kernel
theorem zd_Post_feed_31 : decode zb_Post_feed 31 = .ok (.ldc 81, 2) := by decide +kernel
theorem zd_Post_feed_33 : decode zb_Post_feed 33 = .ok (.invokevirtual 56, 3) := by decide +kernel
theorem zd_Post_feed_36 : decode zb_Post_feed 36 = .ok (.ireturn, 1) := by decide +kernel
theorem zd_Post_feed_37 : decode zb_Post_feed 37 = .ok (.iload_n 2, 1) := by decide +kernel
theorem zd_Post_feed_38 : decode zb_Post_feed 38 = .ok (.iconst 1, 1) := by decide +kernel
theorem zd_Post_feed_39 : decode zb_Post_feed 39 = .ok (.isub, 1) := by decide +kernel
theorem zd_Post_feed_40 : decode zb_Post_feed 40 = .ok (.istore_n 3, 1) := by decide +kernel
theorem zd_Post_feed_41 : decode zb_Post_feed 41 = .ok (.iload_n 3, 1) := by decide +kernel
theorem zd_Post_feed_42 : decode zb_Post_feed 42 = .ok (.ifCond .lt 47, 3) := by decide +kernel
theorem zd_Post_feed_45 : decode zb_Post_feed 45 = .ok (.aload_n 0, 1) := by decide +kernel
theorem zd_Post_feed_46 : decode zb_Post_feed 46 = .ok (.getfield 32, 3) := by decide +kernel
theorem zd_Post_feed_49 : decode zb_Post_feed 49 = .ok (.getfield 237, 3) := by decide +kernel
theorem zd_Post_feed_52 : decode zb_Post_feed 52 = .ok (.aload_n 0, 1) := by decide +kernel
theorem zd_Post_feed_53 : decode zb_Post_feed 53 = .ok (.getfield 32, 3) := by decide +kernel
theorem zd_Post_feed_56 : decode zb_Post_feed 56 = .ok (.getfield 234, 3) := by decide +kernel
theorem zd_Post_feed_59 : decode zb_Post_feed 59 = .ok (.iload_n 1, 1) := by decide +kernel
theorem zd_Post_feed_60 : decode zb_Post_feed 60 = .ok (.bipush 8, 2) := by decide +kernel
theorem zd_Post_feed_62 : decode zb_Post_feed 62 = .ok (.iload_n 3, 1) := by decide +kernel
theorem zd_Post_feed_63 : decode zb_Post_feed 63 = .ok (.imul, 1) := by decide +kernel
theorem zd_Post_feed_64 : decode zb_Post_feed 64 = .ok (.ishr, 1) := by decide +kernel
theorem zd_Post_feed_65 : decode zb_Post_feed 65 = .ok (.sipush 255, 3) := by decide +kernel
theorem zd_Post_feed_68 : decode zb_Post_feed 68 = .ok (.iand, 1) := by decide +kernel
theorem zd_Post_feed_69 : decode zb_Post_feed 69 = .ok (.iastore, 1) := by decide +kernel
theorem zd_Post_feed_70 : decode zb_Post_feed 70 = .ok (.aload_n 0, 1) := by decide +kernel
theorem zd_Post_feed_71 : decode zb_Post_feed 71 = .ok (.getfield 32, 3) := by decide +kernel
theorem zd_Post_feed_74 : decode zb_Post_feed 74 = .ok (.dup, 1) := by decide +kernel
theorem zd_Post_feed_75 : decode zb_Post_feed 75 = .ok (.getfield 234, 3) := by decide +kernel
theorem zd_Post_feed_78 : decode zb_Post_feed 78 = .ok (.iconst 1, 1) := by decide +kernel
theorem zd_Post_feed_79 : decode zb_Post_feed 79 = .ok (.iadd, 1) := by decide +kernel
theorem zd_Post_feed_80 : decode zb_Post_feed 80 = .ok (.putfield 234, 3) := by decide +kernel
theorem zd_Post_feed_83 : decode zb_Post_feed 83 = .ok (.iinc 3 (-1), 3) := by decide +kernel
theorem zd_Post_feed_86 : decode zb_Post_feed 86 = .ok (.goto (-45), 3) := by decide +kernel
theorem zd_Post_feed_89 : decode zb_Post_feed 89 = .ok (.aload_n 0, 1) := by decide +kernel
theorem zd_Post_feed_90 : decode zb_Post_feed 90 = .ok (.getfield 32, 3) := by decide +kernel
theorem zd_Post_feed_93 : decode zb_Post_feed 93 = .ok (.getfield 234, 3) := by decide +kernel
theorem zd_Post_feed_96 : decode zb_Post_feed 96 = .ok (.ireturn, 1) := by decide +kernel
set_option maxHeartbeats 4000000 in
theorem zl_Post_feed_B41 {p : Program} {l : Launch} {e : Env} {s : State} {m : MethodId} {args : Array Value} {below : List Frame} {meth : Method} {c : Code} {D : va_G} {cA : Nat → ClassId} {ad : Nat → Nat} {A : Nat → Prop} (B : zu_B p s m args c zb_Post_feed 4 "StonePost" D cA ad A) (hret : meth.sig.returnType = (some .int)) (hlk : meth.locks = false) {Y : LX} {res : Int32 × IX} {k41 : Int32 → Int32 → IX → Option (Int32 × IX)} (hk41 : ∀ (x1 : Int32) (x3 : Int32) (X : IX) (H : Heap) (locs : List Loc) (ls : Array Slot), va_P D zu_cl (zu_pic cA ad X Y) H → va_S A s.heap H locs → lv_has ls 4 [(0, .ref (ad 0)), (1, .int x1), (3, .int x3)] → k41 x1 x3 X = some res → W p l e zR_Post_feed s m args below meth c H locs 0 0 (MQ below (zu_Qi D cA ad A res.1 res.2 Y) args s 0 0 A) (F0 m 41 ls [])) (x1 : Int32) (x3 : Int32) (X : IX) (H : Heap) (locs : List Loc) (ls : Array Slot) (hP : va_P D zu_cl (zu_pic cA ad X Y) H) (hS : va_S A s.heap H locs) (hl : lv_has ls 4 [(0, .ref (ad 0)), (1, .int x1), (3, .int x3)]) (hf : fn_Post_feed_B41 k41 x1 x3 X = some res) : W p l e zR_Post_feed s m args below meth c H locs 0 0 (MQ below (zu_Qi D cA ad A res.1 res.2 Y) args s 0 0 A) (F0 m 41 ls []) := by
  obtain ⟨hx, hb, hml, hown, hts, hST⟩ := id B
  unfold fn_Post_feed_B41 at hf
  refine lv_iload_n hx hb zd_Post_feed_41 rfl (lv_at hl 2 rfl) ?_
  refine lv_if_lt (tgt := 89) hx hb zd_Post_feed_42 (by decide) (fun c12 => ?_) (fun c12 => ?_)
  · have hf := zu_t c12 hf
    refine lv_aload_n hx hb zd_Post_feed_89 rfl (lv_at hl 0 rfl) ?_
    refine zg_Post_tape B hP rfl zq_195 zd_Post_feed_90 ?_
    refine zg_Tape_length B hP rfl zq_150 zd_Post_feed_93 ?_
    obtain rfl := Option.some.inj hf
    exact zr_iret hx hb hret hlk hP hS zd_Post_feed_96
  · have hf := zu_f c12 hf
    refine lv_aload_n hx hb zd_Post_feed_45 rfl (lv_at hl 0 rfl) ?_
    refine zg_Post_tape B hP rfl zq_195 zd_Post_feed_46 ?_
    refine zg_Tape_bytes B hP rfl zq_148 zd_Post_feed_49 ?_
    refine lv_aload_n hx hb zd_Post_feed_52 rfl (lv_at hl 0 rfl) ?_
    refine zg_Post_tape B hP rfl zq_195 zd_Post_feed_53 ?_
    refine zg_Tape_length B hP rfl zq_150 zd_Post_feed_56 ?_
    refine lv_iload_n hx hb zd_Post_feed_59 rfl (lv_at hl 1 rfl) ?_
    refine lv_bipush (v := 8) hx hb zd_Post_feed_60 (by decide) ?_
    refine lv_iload_n hx hb zd_Post_feed_62 rfl (lv_at hl 2 rfl) ?_
    refine lv_imul hx hb zd_Post_feed_63 ?_
    refine lv_ishr hx hb zd_Post_feed_64 ?_
    refine lv_sipush (v := 255) hx hb zd_Post_feed_65 (by decide) ?_
    refine lv_iand hx hb zd_Post_feed_68 ?_
    obtain ⟨hg13, hf⟩ := zu_gd_e hf
    refine zr_iast rfl B hP hS hf rfl (by decide) rfl hg13 zd_Post_feed_69 (fun X14 H locs hf hP hS => ?_)
    refine lv_aload_n hx hb zd_Post_feed_70 rfl (lv_at hl 0 rfl) ?_
    refine zg_Post_tape B hP rfl zq_195 zd_Post_feed_71 ?_
    refine lv_dup hx hb zd_Post_feed_74 rfl ?_
    refine zg_Tape_length B hP rfl zq_150 zd_Post_feed_75 ?_
    refine lv_iconst (v := 1) hx hb zd_Post_feed_78 (by decide) ?_
    refine lv_iadd hx hb zd_Post_feed_79 ?_
    refine zp_Tape_length B hP hS hf rfl zq_150 zd_Post_feed_80 (fun X15 H locs hf hP hS => ?_)
    obtain ⟨v16, ev16, hf⟩ := zu_nx_e hf
    refine lv_iinc (v := v16) (lv' := [(3, .int v16), (0, .ref (ad 0)), (1, .int x1)]) hx hb zd_Post_feed_83 hl (k := 2) rfl (by rw [ev16]; rfl) (by decide) rfl (fun ls hl => ?_)
    clear ev16
    refine lv_goto (tgt := 41) hx hb zd_Post_feed_86 (by decide) ?_
    exact hk41 x1 v16 X15 _ _ _ hP hS (lv_sub hl [1, 2, 0] rfl) hf
theorem zl_Post_feed_L41 {p : Program} {l : Launch} {e : Env} {s : State} {m : MethodId} {args : Array Value} {below : List Frame} {meth : Method} {c : Code} {D : va_G} {cA : Nat → ClassId} {ad : Nat → Nat} {A : Nat → Prop} (B : zu_B p s m args c zb_Post_feed 4 "StonePost" D cA ad A) (hret : meth.sig.returnType = (some .int)) (hlk : meth.locks = false) {Y : LX} {res : Int32 × IX} : ∀ (n : Nat) (x1 : Int32) (x3 : Int32) (X : IX) (H : Heap) (locs : List Loc) (ls : Array Slot), va_P D zu_cl (zu_pic cA ad X Y) H → va_S A s.heap H locs → lv_has ls 4 [(0, .ref (ad 0)), (1, .int x1), (3, .int x3)] → fn_Post_feed_L41 n x1 x3 X = some res → W p l e zR_Post_feed s m args below meth c H locs 0 0 (MQ below (zu_Qi D cA ad A res.1 res.2 Y) args s 0 0 A) (F0 m 41 ls []) := by
  intro n
  induction n with
  | zero =>
    intro x1 x3 X H locs ls hP hS hl hf
    exact (Option.some_ne_none _ hf.symm).elim
  | succ n ih =>
    intro x1 x3 X H locs ls hP hS hl hf
    exact zl_Post_feed_B41 B hret hlk ih x1 x3 X H locs ls hP hS hl  hf
set_option maxHeartbeats 4000000 in
theorem zl_Post_feed {p : Program} {l : Launch} {e : Env} {s : State} {m : MethodId} {args : Array Value} {below : List Frame} {meth : Method} {c : Code} {D : va_G} {cA : Nat → ClassId} {ad : Nat → Nat} {A : Nat → Prop} (B : zu_B p s m args c zb_Post_feed 4 "StonePost" D cA ad A) (hret : meth.sig.returnType = (some .int)) (hlk : meth.locks = false) {Y : LX} {res : Int32 × IX} {a1 : Int32} {a2 : Int32} {X : IX} (H : Heap) (locs : List Loc) (ls : Array Slot) (hP : va_P D zu_cl (zu_pic cA ad X Y) H) (hS : va_S A s.heap H locs) (hl : lv_has ls 4 [(0, .ref (ad 0)), (1, .int a1), (2, .int a2)]) (hf : fn_Post_feed a1 a2 X = some res) : W p l e zR_Post_feed s m args below meth c H locs 0 0 (MQ below (zu_Qi D cA ad A res.1 res.2 Y) args s 0 0 A) (F0 m 0 ls []) := by
  obtain ⟨hx, hb, hml, hown, hts, hST⟩ := id B
  unfold fn_Post_feed at hf
  refine lv_iload_n hx hb zd_Post_feed_0 rfl (lv_at hl 2 rfl) ?_
  refine lv_iconst (v := 1) hx hb zd_Post_feed_1 (by decide) ?_
  refine lv_iconst (v := 4) hx hb zd_Post_feed_2 (by decide) ?_
  obtain ⟨v1, hq2, hf⟩ := zu_b1_e hf
  refine zw_Post_isWithin (rest := []) B hP hS hq2 zq_223 (Nat.le_of_ble_eq_true rfl) (Nat.le_of_ble_eq_true rfl) hl.1 rfl (Nat.le_of_ble_eq_true rfl) zd_Post_feed_3 (by decide) (fun H locs hP hS => ?_)
  clear hq2
  refine lv_if_ne (tgt := 16) hx hb zd_Post_feed_6 (by decide) (fun c3 => ?_) (fun c3 => ?_)
  · have hf := zu_f c3 hf
    refine lv_aload_n hx hb zd_Post_feed_16 rfl (lv_at hl 0 rfl) ?_
    refine zg_Post_tape B hP rfl zq_195 zd_Post_feed_17 ?_
    refine zg_Tape_length B hP rfl zq_150 zd_Post_feed_20 ?_
    refine lv_iload_n hx hb zd_Post_feed_23 rfl (lv_at hl 2 rfl) ?_
    refine lv_iadd hx hb zd_Post_feed_24 ?_
    refine lv_bipush (v := 120) hx hb zd_Post_feed_25 (by decide) ?_
    refine lv_icmp_le (tgt := 37) hx hb zd_Post_feed_27 (by decide) (fun c4 => ?_) (fun c4 => ?_)
    · have hf := zu_t c4 hf
      refine lv_iload_n hx hb zd_Post_feed_37 rfl (lv_at hl 2 rfl) ?_
      refine lv_iconst (v := 1) hx hb zd_Post_feed_38 (by decide) ?_
      refine lv_isub hx hb zd_Post_feed_39 ?_
      refine zr_nxi hf (fun v5 hf => ?_)
      refine lv_istore_n (lv' := [(3, .int v5), (0, .ref (ad 0)), (1, .int a1), (2, .int a2)]) hx hb zd_Post_feed_40 rfl hl (by decide) rfl (fun ls hl => ?_)
      exact zl_Post_feed_L41 B hret hlk 400 a1 v5 X _ _ _ hP hS (lv_sub hl [1, 2, 0] rfl) hf
    · have hf := zu_f c4 hf
      refine lv_aload_n hx hb zd_Post_feed_30 rfl (lv_at hl 0 rfl) ?_
      refine lv_ldc (v := -1000002) hx hb hown (hts _ zq_260) zd_Post_feed_31 ?_
      obtain ⟨v6, X7, hq8, hf⟩ := zu_b2_e hf
      refine zw_Post_finding (rest := []) B hP hS hq8 zq_227 (Nat.le_of_ble_eq_true rfl) (Nat.le_of_ble_eq_true rfl) hl.1 rfl (Nat.le_of_ble_eq_true rfl) zd_Post_feed_33 (by decide) (fun H locs hP hS => ?_)
      clear hq8
      obtain rfl := Option.some.inj hf
      exact zr_iret hx hb hret hlk hP hS zd_Post_feed_36
  · have hf := zu_t c3 hf
    refine lv_aload_n hx hb zd_Post_feed_9 rfl (lv_at hl 0 rfl) ?_
    refine lv_ldc (v := -1000001) hx hb hown (hts _ zq_226) zd_Post_feed_10 ?_
    obtain ⟨v9, X10, hq11, hf⟩ := zu_b2_e hf
    refine zw_Post_finding (rest := []) B hP hS hq11 zq_227 (Nat.le_of_ble_eq_true rfl) (Nat.le_of_ble_eq_true rfl) hl.1 rfl (Nat.le_of_ble_eq_true rfl) zd_Post_feed_12 (by decide) (fun H locs hP hS => ?_)
    clear hq11
    obtain rfl := Option.some.inj hf
    exact zr_iret hx hb hret hlk hP hS zd_Post_feed_15
theorem zC_Post_feed (l : Launch) {D : va_G} {cA : Nat → ClassId} {ad : Nat → Nat} {A : Nat → Prop} {a1 : Int32} {a2 : Int32} {X : IX} {Y : LX} {res : Int32 × IX} (hf : fn_Post_feed a1 a2 X = some res) : Met l zm_Post_feed (zu_ws zm_Post_feed zb_Post_feed 4 (some .int)) zR_Post_feed (va_Pc [.ref (ad 0), .int a1, .int a2] (zu_Pre D cA ad A X Y)) (zu_Qi D cA ad A res.1 res.2 Y) 0 0 A := by
  refine Met.ofW (cc := zb_Post_feed) (maxL := 4) (ret := (some .int)) (by decide +kernel) rfl ?_
  intro p e s m args below meth c s₁ B0 hml hv
  obtain ⟨rfl, hP, hST⟩ := hv
  have B : zu_B p s m _ c zb_Post_feed 4 "StonePost" D cA ad A := ⟨B0.exec, B0.bytes, hml, findClass_of_methodNamed B0.named, (fun w hw => atoms_spec (ws := zu_ws zm_Post_feed zb_Post_feed 4 (some .int)) B0.pre w (List.mem_cons_of_mem _ hw)), hST⟩
  have hl := lv_entry ([.ref (ad 0), .int a1, .int a2]) (n := 4) (Nat.le_of_ble_eq_true rfl)
  rw [lg_entry_eq]
  generalize (lg_sl ([.ref (ad 0), .int a1, .int a2]) ++ List.replicate (4 - (lg_sl ([.ref (ad 0), .int a1, .int a2])).length) Slot.unset).toArray = ls at hl ⊢
  exact zl_Post_feed B B0.returns B0.notSynchronized s.heap [] ls hP va_S.rf hl  hf
theorem zw_Post_feed {p : Program} {l : Launch} {e : Env} {R : Room} {s : State} {m : MethodId} {args : Array Value} {below : List Frame} {meth : Method} {c : Code} {H : Heap} {locs : List Loc} {cells slots : Nat} {Q : State → Prop} {cc : ByteArray} {pc nL : Nat} {ls : Array Slot} {rest st0 : List Value} {D : va_G} {cA : Nat → ClassId} {ad : Nat → Nat} {A : Nat → Prop} {X : IX} {Y : LX} {own : String} {index : Nat} {a1 : Int32} {a2 : Int32} {v1 : Int32} {X1 : IX} (B : zu_B p s m args c cc nL own D cA ad A) (hP : va_P D zu_cl (zu_pic cA ad X Y) H) (hS : va_S A s.heap H locs) (hq : fn_Post_feed a1 a2 X = some (v1, X1)) (m1 : Cond.methodLink own index zm_Post_feed ∈ zu_TB) (hR1 : 2 + 1 ≤ R.frames) (hR2 : 8 + (4 + 11) + 44 ≤ R.locals) (hsz : ls.size = nL) (hst : st0 = .int a2 :: .int a1 :: .ref (ad 0) :: rest) (hw : (rest.map fun v => v.category).sum ≤ 8) (hdg : decode cc pc = .ok (.invokevirtual index, 3)) (h00 : cells ≤ R.cells ∧ slots ≤ R.slots) (kk : ∀ (H1 : Heap) (locs1 : List Loc), va_P D zu_cl (zu_pic cA ad X1 Y) H1 → va_S A s.heap H1 locs1 → W p l e R s m args below meth c H1 locs1 cells slots Q (F0 m (pc + 3) ls (.int v1 :: rest))) : W p l e R s m args below meth c H locs cells slots Q (F0 m pc ls st0) := by
  subst hst
  exact zr_cVi (As := [.int a1, .int a2]) (rest := rest) (n := 2) (C := "StonePost") (T := zt_Post) (N := 8) B hP hS (zC_Post_feed l  hq) (K := 1) rfl (by decide) (by decide) rfl rfl m1 zq_614 zq_615 zq_1 zq_616 (by decide +kernel) ⟨hR1, hR2⟩ rfl rfl rfl hsz rfl hw hdg h00 kk
abbrev zR_Post_wipe : Room := { frames := 0, cells := 0, slots := 0, locals := 0 }
theorem zd_Post_wipe_0 : decode zb_Post_wipe 0 = .ok (.aload_n 0, 1) := by decide +kernel
theorem zd_Post_wipe_1 : decode zb_Post_wipe 1 = .ok (.getfield 32, 3) := by decide +kernel
theorem zd_Post_wipe_4 : decode zb_Post_wipe 4 = .ok (.getfield 234, 3) := by decide +kernel
theorem zd_Post_wipe_7 : decode zb_Post_wipe 7 = .ok (.istore_n 1, 1) := by decide +kernel
theorem zd_Post_wipe_8 : decode zb_Post_wipe 8 = .ok (.aload_n 0, 1) := by decide +kernel
theorem zd_Post_wipe_9 : decode zb_Post_wipe 9 = .ok (.getfield 32, 3) := by decide +kernel
theorem zd_Post_wipe_12 : decode zb_Post_wipe 12 = .ok (.iconst 0, 1) := by decide +kernel
theorem zd_Post_wipe_13 : decode zb_Post_wipe 13 = .ok (.putfield 234, 3) := by decide +kernel
theorem zd_Post_wipe_16 : decode zb_Post_wipe 16 = .ok (.iload_n 1, 1) := by decide +kernel
theorem zd_Post_wipe_17 : decode zb_Post_wipe 17 = .ok (.ireturn, 1) := by decide +kernel
set_option maxHeartbeats 4000000 in
theorem zl_Post_wipe {p : Program} {l : Launch} {e : Env} {s : State} {m : MethodId} {args : Array Value} {below : List Frame} {meth : Method} {c : Code} {D : va_G} {cA : Nat → ClassId} {ad : Nat → Nat} {A : Nat → Prop} (B : zu_B p s m args c zb_Post_wipe 2 "StonePost" D cA ad A) (hret : meth.sig.returnType = (some .int)) (hlk : meth.locks = false) {Y : LX} {res : Int32 × IX} {X : IX} (H : Heap) (locs : List Loc) (ls : Array Slot) (hP : va_P D zu_cl (zu_pic cA ad X Y) H) (hS : va_S A s.heap H locs) (hl : lv_has ls 2 [(0, .ref (ad 0))]) (hf : fn_Post_wipe X = some res) : W p l e zR_Post_wipe s m args below meth c H locs 0 0 (MQ below (zu_Qi D cA ad A res.1 res.2 Y) args s 0 0 A) (F0 m 0 ls []) := by
  obtain ⟨hx, hb, hml, hown, hts, hST⟩ := id B
  unfold fn_Post_wipe at hf
  refine lv_aload_n hx hb zd_Post_wipe_0 rfl (lv_at hl 0 rfl) ?_
  refine zg_Post_tape B hP rfl zq_195 zd_Post_wipe_1 ?_
  refine zg_Tape_length B hP rfl zq_150 zd_Post_wipe_4 ?_
  refine zr_nxi hf (fun v1 hf => ?_)
  refine lv_istore_n (lv' := [(1, .int v1), (0, .ref (ad 0))]) hx hb zd_Post_wipe_7 rfl hl (by decide) rfl (fun ls hl => ?_)
  refine lv_aload_n hx hb zd_Post_wipe_8 rfl (lv_at hl 1 rfl) ?_
  refine zg_Post_tape B hP rfl zq_195 zd_Post_wipe_9 ?_
  refine lv_iconst (v := 0) hx hb zd_Post_wipe_12 (by decide) ?_
  refine zp_Tape_length B hP hS hf rfl zq_150 zd_Post_wipe_13 (fun X2 H locs hf hP hS => ?_)
  refine lv_iload_n hx hb zd_Post_wipe_16 rfl (lv_at hl 0 rfl) ?_
  obtain rfl := Option.some.inj hf
  exact zr_iret hx hb hret hlk hP hS zd_Post_wipe_17
theorem zC_Post_wipe (l : Launch) {D : va_G} {cA : Nat → ClassId} {ad : Nat → Nat} {A : Nat → Prop} {X : IX} {Y : LX} {res : Int32 × IX} (hf : fn_Post_wipe X = some res) : Met l zm_Post_wipe (zu_ws zm_Post_wipe zb_Post_wipe 2 (some .int)) zR_Post_wipe (va_Pc [.ref (ad 0)] (zu_Pre D cA ad A X Y)) (zu_Qi D cA ad A res.1 res.2 Y) 0 0 A := by
  refine Met.ofW (cc := zb_Post_wipe) (maxL := 2) (ret := (some .int)) (by decide +kernel) rfl ?_
  intro p e s m args below meth c s₁ B0 hml hv
  obtain ⟨rfl, hP, hST⟩ := hv
  have B : zu_B p s m _ c zb_Post_wipe 2 "StonePost" D cA ad A := ⟨B0.exec, B0.bytes, hml, findClass_of_methodNamed B0.named, (fun w hw => atoms_spec (ws := zu_ws zm_Post_wipe zb_Post_wipe 2 (some .int)) B0.pre w (List.mem_cons_of_mem _ hw)), hST⟩
  have hl := lv_entry ([.ref (ad 0)]) (n := 2) (Nat.le_of_ble_eq_true rfl)
  rw [lg_entry_eq]
  generalize (lg_sl ([.ref (ad 0)]) ++ List.replicate (2 - (lg_sl ([.ref (ad 0)])).length) Slot.unset).toArray = ls at hl ⊢
  exact zl_Post_wipe B B0.returns B0.notSynchronized s.heap [] ls hP va_S.rf hl  hf
theorem zw_Post_wipe {p : Program} {l : Launch} {e : Env} {R : Room} {s : State} {m : MethodId} {args : Array Value} {below : List Frame} {meth : Method} {c : Code} {H : Heap} {locs : List Loc} {cells slots : Nat} {Q : State → Prop} {cc : ByteArray} {pc nL : Nat} {ls : Array Slot} {rest st0 : List Value} {D : va_G} {cA : Nat → ClassId} {ad : Nat → Nat} {A : Nat → Prop} {X : IX} {Y : LX} {own : String} {index : Nat} {v1 : Int32} {X1 : IX} (B : zu_B p s m args c cc nL own D cA ad A) (hP : va_P D zu_cl (zu_pic cA ad X Y) H) (hS : va_S A s.heap H locs) (hq : fn_Post_wipe X = some (v1, X1)) (m1 : Cond.methodLink own index zm_Post_wipe ∈ zu_TB) (hR1 : 0 + 1 ≤ R.frames) (hR2 : 8 + (2 + 11) + 0 ≤ R.locals) (hsz : ls.size = nL) (hst : st0 = .ref (ad 0) :: rest) (hw : (rest.map fun v => v.category).sum ≤ 8) (hdg : decode cc pc = .ok (.invokevirtual index, 3)) (h00 : cells ≤ R.cells ∧ slots ≤ R.slots) (kk : ∀ (H1 : Heap) (locs1 : List Loc), va_P D zu_cl (zu_pic cA ad X1 Y) H1 → va_S A s.heap H1 locs1 → W p l e R s m args below meth c H1 locs1 cells slots Q (F0 m (pc + 3) ls (.int v1 :: rest))) : W p l e R s m args below meth c H locs cells slots Q (F0 m pc ls st0) := by
  subst hst
  exact zr_cVi (As := []) (rest := rest) (n := 0) (C := "StonePost") (T := zt_Post) (N := 8) B hP hS (zC_Post_wipe l  hq) (K := 1) rfl (by decide) (by decide) rfl rfl m1 zq_618 zq_619 zq_1 zq_620 (by decide +kernel) ⟨hR1, hR2⟩ rfl rfl rfl hsz rfl hw hdg h00 kk
abbrev zR_Tape_isLetterByte : Room := { frames := 0, cells := 0, slots := 0, locals := 0 }
theorem zd_Tape_isLetterByte_0 : decode zb_Tape_isLetterByte 0 = .ok (.iload_n 0, 1) := by decide +kernel
theorem zd_Tape_isLetterByte_1 : decode zb_Tape_isLetterByte 1 = .ok (.bipush 97, 2) := by decide +kernel
theorem zd_Tape_isLetterByte_3 : decode zb_Tape_isLetterByte 3 = .ok (.if_icmp .lt 13, 3) := by decide +kernel
theorem zd_Tape_isLetterByte_6 : decode zb_Tape_isLetterByte 6 = .ok (.iload_n 0, 1) := by decide +kernel
theorem zd_Tape_isLetterByte_7 : decode zb_Tape_isLetterByte 7 = .ok (.bipush 122, 2) := by decide +kernel
theorem zd_Tape_isLetterByte_9 : decode zb_Tape_isLetterByte 9 = .ok (.if_icmp .gt 7, 3) := by decide +kernel
theorem zd_Tape_isLetterByte_12 : decode zb_Tape_isLetterByte 12 = .ok (.iconst 1, 1) := by decide +kernel
theorem zd_Tape_isLetterByte_13 : decode zb_Tape_isLetterByte 13 = .ok (.goto 4, 3) := by decide +kernel
theorem zd_Tape_isLetterByte_16 : decode zb_Tape_isLetterByte 16 = .ok (.iconst 0, 1) := by decide +kernel
theorem zd_Tape_isLetterByte_17 : decode zb_Tape_isLetterByte 17 = .ok (.ireturn, 1) := by decide +kernel
set_option maxHeartbeats 4000000 in
theorem zl_Tape_isLetterByte_L17 {p : Program} {l : Launch} {e : Env} {s : State} {m : MethodId} {args : Array Value} {below : List Frame} {meth : Method} {c : Code} {D : va_G} {cA : Nat → ClassId} {ad : Nat → Nat} {A : Nat → Prop} (B : zu_B p s m args c zb_Tape_isLetterByte 1 "StonePost$Tape" D cA ad A) (hret : meth.sig.returnType = (some .boolean)) (hlk : meth.locks = false) {X : IX} {Y : LX} {res : Int32} (y0 : Int32) (H : Heap) (locs : List Loc) (ls : Array Slot) (hP : va_P D zu_cl (zu_pic cA ad X Y) H) (hS : va_S A s.heap H locs) (hl : lv_has ls 1 []) (hf : fn_Tape_isLetterByte_L17 y0 = some res) : W p l e zR_Tape_isLetterByte s m args below meth c H locs 0 0 (MQ below (zu_Qi D cA ad A res X Y) args s 0 0 A) (F0 m 17 ls [.int y0]) := by
  obtain ⟨hx, hb, hml, hown, hts, hST⟩ := id B
  unfold fn_Tape_isLetterByte_L17 at hf
  obtain ⟨hg3, hf⟩ := zu_gd_e hf
  obtain rfl := Option.some.inj hf
  exact zr_zret hx hb hret hlk hP hS hg3 zd_Tape_isLetterByte_17
set_option maxHeartbeats 4000000 in
theorem zl_Tape_isLetterByte_L16 {p : Program} {l : Launch} {e : Env} {s : State} {m : MethodId} {args : Array Value} {below : List Frame} {meth : Method} {c : Code} {D : va_G} {cA : Nat → ClassId} {ad : Nat → Nat} {A : Nat → Prop} (B : zu_B p s m args c zb_Tape_isLetterByte 1 "StonePost$Tape" D cA ad A) (hret : meth.sig.returnType = (some .boolean)) (hlk : meth.locks = false) {X : IX} {Y : LX} {res : Int32} (H : Heap) (locs : List Loc) (ls : Array Slot) (hP : va_P D zu_cl (zu_pic cA ad X Y) H) (hS : va_S A s.heap H locs) (hl : lv_has ls 1 []) (hf : fn_Tape_isLetterByte_L16 = some res) : W p l e zR_Tape_isLetterByte s m args below meth c H locs 0 0 (MQ below (zu_Qi D cA ad A res X Y) args s 0 0 A) (F0 m 16 ls []) := by
  obtain ⟨hx, hb, hml, hown, hts, hST⟩ := id B
  unfold fn_Tape_isLetterByte_L16 at hf
  refine lv_iconst (v := 0) hx hb zd_Tape_isLetterByte_16 (by decide) ?_
  exact zl_Tape_isLetterByte_L17 B hret hlk (0 : Int32) _ _ _ hP hS (lv_sub hl [] rfl) hf
set_option maxHeartbeats 4000000 in
theorem zl_Tape_isLetterByte {p : Program} {l : Launch} {e : Env} {s : State} {m : MethodId} {args : Array Value} {below : List Frame} {meth : Method} {c : Code} {D : va_G} {cA : Nat → ClassId} {ad : Nat → Nat} {A : Nat → Prop} (B : zu_B p s m args c zb_Tape_isLetterByte 1 "StonePost$Tape" D cA ad A) (hret : meth.sig.returnType = (some .boolean)) (hlk : meth.locks = false) {X : IX} {Y : LX} {res : Int32} {a0 : Int32} (H : Heap) (locs : List Loc) (ls : Array Slot) (hP : va_P D zu_cl (zu_pic cA ad X Y) H) (hS : va_S A s.heap H locs) (hl : lv_has ls 1 [(0, .int a0)]) (hf : fn_Tape_isLetterByte a0 = some res) : W p l e zR_Tape_isLetterByte s m args below meth c H locs 0 0 (MQ below (zu_Qi D cA ad A res X Y) args s 0 0 A) (F0 m 0 ls []) := by
  obtain ⟨hx, hb, hml, hown, hts, hST⟩ := id B
  unfold fn_Tape_isLetterByte at hf
  refine lv_iload_n hx hb zd_Tape_isLetterByte_0 rfl (lv_at hl 0 rfl) ?_
  refine lv_bipush (v := 97) hx hb zd_Tape_isLetterByte_1 (by decide) ?_
  refine lv_icmp_lt (tgt := 16) hx hb zd_Tape_isLetterByte_3 (by decide) (fun c1 => ?_) (fun c1 => ?_)
  · have hf := zu_t c1 hf
    exact zl_Tape_isLetterByte_L16 B hret hlk _ _ _ hP hS (lv_sub hl [] rfl) hf
  · have hf := zu_f c1 hf
    refine lv_iload_n hx hb zd_Tape_isLetterByte_6 rfl (lv_at hl 0 rfl) ?_
    refine lv_bipush (v := 122) hx hb zd_Tape_isLetterByte_7 (by decide) ?_
    refine lv_icmp_gt (tgt := 16) hx hb zd_Tape_isLetterByte_9 (by decide) (fun c2 => ?_) (fun c2 => ?_)
    · have hf := zu_t c2 hf
      exact zl_Tape_isLetterByte_L16 B hret hlk _ _ _ hP hS (lv_sub hl [] rfl) hf
    · have hf := zu_f c2 hf
      refine lv_iconst (v := 1) hx hb zd_Tape_isLetterByte_12 (by decide) ?_
      refine lv_goto (tgt := 17) hx hb zd_Tape_isLetterByte_13 (by decide) ?_
      exact zl_Tape_isLetterByte_L17 B hret hlk (1 : Int32) _ _ _ hP hS (lv_sub hl [] rfl) hf
theorem zC_Tape_isLetterByte (l : Launch) {D : va_G} {cA : Nat → ClassId} {ad : Nat → Nat} {A : Nat → Prop} {a0 : Int32} {X : IX} {Y : LX} {res : Int32} (hf : fn_Tape_isLetterByte a0 = some res) : Met l zm_Tape_isLetterByte (zu_ws zm_Tape_isLetterByte zb_Tape_isLetterByte 1 (some .boolean)) zR_Tape_isLetterByte (va_Pc [.int a0] (zu_Pre D cA ad A X Y)) (zu_Qi D cA ad A res X Y) 0 0 A := by
  refine Met.ofW (cc := zb_Tape_isLetterByte) (maxL := 1) (ret := (some .boolean)) (by decide +kernel) rfl ?_
  intro p e s m args below meth c s₁ B0 hml hv
  obtain ⟨rfl, hP, hST⟩ := hv
  have B : zu_B p s m _ c zb_Tape_isLetterByte 1 "StonePost$Tape" D cA ad A := ⟨B0.exec, B0.bytes, hml, findClass_of_methodNamed B0.named, (fun w hw => atoms_spec (ws := zu_ws zm_Tape_isLetterByte zb_Tape_isLetterByte 1 (some .boolean)) B0.pre w (List.mem_cons_of_mem _ hw)), hST⟩
  have hl := lv_entry ([.int a0]) (n := 1) (Nat.le_of_ble_eq_true rfl)
  rw [lg_entry_eq]
  generalize (lg_sl ([.int a0]) ++ List.replicate (1 - (lg_sl ([.int a0])).length) Slot.unset).toArray = ls at hl ⊢
  exact zl_Tape_isLetterByte B B0.returns B0.notSynchronized s.heap [] ls hP va_S.rf hl  hf
theorem zw_Tape_isLetterByte {p : Program} {l : Launch} {e : Env} {R : Room} {s : State} {m : MethodId} {args : Array Value} {below : List Frame} {meth : Method} {c : Code} {H : Heap} {locs : List Loc} {cells slots : Nat} {Q : State → Prop} {cc : ByteArray} {pc nL : Nat} {ls : Array Slot} {rest st0 : List Value} {D : va_G} {cA : Nat → ClassId} {ad : Nat → Nat} {A : Nat → Prop} {X : IX} {Y : LX} {own : String} {index : Nat} {a0 : Int32} {v1 : Int32} (B : zu_B p s m args c cc nL own D cA ad A) (hP : va_P D zu_cl (zu_pic cA ad X Y) H) (hS : va_S A s.heap H locs) (hq : fn_Tape_isLetterByte a0 = some v1) (m1 : Cond.methodLink own index zm_Tape_isLetterByte ∈ zu_TB) (hR1 : 0 + 1 ≤ R.frames) (hR2 : 8 + (1 + 11) + 0 ≤ R.locals) (hsz : ls.size = nL) (hst : st0 = .int a0 ::  rest) (hw : (rest.map fun v => v.category).sum ≤ 8) (hdg : decode cc pc = .ok (.invokestatic index, 3)) (h00 : cells ≤ R.cells ∧ slots ≤ R.slots) (kk : ∀ (H1 : Heap) (locs1 : List Loc), va_P D zu_cl (zu_pic cA ad X Y) H1 → va_S A s.heap H1 locs1 → W p l e R s m args below meth c H1 locs1 cells slots Q (F0 m (pc + 3) ls (.int v1 :: rest))) : W p l e R s m args below meth c H locs cells slots Q (F0 m pc ls st0) := by
  subst hst
  exact zr_cSi (As := [.int a0]) (rest := rest) (n := 1) B hP hS (zC_Tape_isLetterByte l  hq) m1 zq_637 zq_6 zq_638 (by decide +kernel) ⟨hR1, hR2⟩ rfl rfl rfl hsz rfl hw hdg h00 kk
abbrev zR_Tape_isDigit : Room := { frames := 0, cells := 0, slots := 0, locals := 0 }
theorem zd_Tape_isDigit_0 : decode zb_Tape_isDigit 0 = .ok (.iload_n 0, 1) := by decide +kernel
theorem zd_Tape_isDigit_1 : decode zb_Tape_isDigit 1 = .ok (.bipush 48, 2) := by decide +kernel
theorem zd_Tape_isDigit_3 : decode zb_Tape_isDigit 3 = .ok (.if_icmp .lt 13, 3) := by decide +kernel
theorem zd_Tape_isDigit_6 : decode zb_Tape_isDigit 6 = .ok (.iload_n 0, 1) := by decide +kernel
theorem zd_Tape_isDigit_7 : decode zb_Tape_isDigit 7 = .ok (.bipush 57, 2) := by decide +kernel
theorem zd_Tape_isDigit_9 : decode zb_Tape_isDigit 9 = .ok (.if_icmp .gt 7, 3) := by decide +kernel
theorem zd_Tape_isDigit_12 : decode zb_Tape_isDigit 12 = .ok (.iconst 1, 1) := by decide +kernel
theorem zd_Tape_isDigit_13 : decode zb_Tape_isDigit 13 = .ok (.goto 4, 3) := by decide +kernel
theorem zd_Tape_isDigit_16 : decode zb_Tape_isDigit 16 = .ok (.iconst 0, 1) := by decide +kernel
theorem zd_Tape_isDigit_17 : decode zb_Tape_isDigit 17 = .ok (.ireturn, 1) := by decide +kernel
set_option maxHeartbeats 4000000 in
theorem zl_Tape_isDigit_L17 {p : Program} {l : Launch} {e : Env} {s : State} {m : MethodId} {args : Array Value} {below : List Frame} {meth : Method} {c : Code} {D : va_G} {cA : Nat → ClassId} {ad : Nat → Nat} {A : Nat → Prop} (B : zu_B p s m args c zb_Tape_isDigit 1 "StonePost$Tape" D cA ad A) (hret : meth.sig.returnType = (some .boolean)) (hlk : meth.locks = false) {X : IX} {Y : LX} {res : Int32} (y0 : Int32) (H : Heap) (locs : List Loc) (ls : Array Slot) (hP : va_P D zu_cl (zu_pic cA ad X Y) H) (hS : va_S A s.heap H locs) (hl : lv_has ls 1 []) (hf : fn_Tape_isDigit_L17 y0 = some res) : W p l e zR_Tape_isDigit s m args below meth c H locs 0 0 (MQ below (zu_Qi D cA ad A res X Y) args s 0 0 A) (F0 m 17 ls [.int y0]) := by
  obtain ⟨hx, hb, hml, hown, hts, hST⟩ := id B
  unfold fn_Tape_isDigit_L17 at hf
  obtain ⟨hg3, hf⟩ := zu_gd_e hf
  obtain rfl := Option.some.inj hf
  exact zr_zret hx hb hret hlk hP hS hg3 zd_Tape_isDigit_17
set_option maxHeartbeats 4000000 in
theorem zl_Tape_isDigit_L16 {p : Program} {l : Launch} {e : Env} {s : State} {m : MethodId} {args : Array Value} {below : List Frame} {meth : Method} {c : Code} {D : va_G} {cA : Nat → ClassId} {ad : Nat → Nat} {A : Nat → Prop} (B : zu_B p s m args c zb_Tape_isDigit 1 "StonePost$Tape" D cA ad A) (hret : meth.sig.returnType = (some .boolean)) (hlk : meth.locks = false) {X : IX} {Y : LX} {res : Int32} (H : Heap) (locs : List Loc) (ls : Array Slot) (hP : va_P D zu_cl (zu_pic cA ad X Y) H) (hS : va_S A s.heap H locs) (hl : lv_has ls 1 []) (hf : fn_Tape_isDigit_L16 = some res) : W p l e zR_Tape_isDigit s m args below meth c H locs 0 0 (MQ below (zu_Qi D cA ad A res X Y) args s 0 0 A) (F0 m 16 ls []) := by
  obtain ⟨hx, hb, hml, hown, hts, hST⟩ := id B
  unfold fn_Tape_isDigit_L16 at hf
  refine lv_iconst (v := 0) hx hb zd_Tape_isDigit_16 (by decide) ?_
  exact zl_Tape_isDigit_L17 B hret hlk (0 : Int32) _ _ _ hP hS (lv_sub hl [] rfl) hf
set_option maxHeartbeats 4000000 in
theorem zl_Tape_isDigit {p : Program} {l : Launch} {e : Env} {s : State} {m : MethodId} {args : Array Value} {below : List Frame} {meth : Method} {c : Code} {D : va_G} {cA : Nat → ClassId} {ad : Nat → Nat} {A : Nat → Prop} (B : zu_B p s m args c zb_Tape_isDigit 1 "StonePost$Tape" D cA ad A) (hret : meth.sig.returnType = (some .boolean)) (hlk : meth.locks = false) {X : IX} {Y : LX} {res : Int32} {a0 : Int32} (H : Heap) (locs : List Loc) (ls : Array Slot) (hP : va_P D zu_cl (zu_pic cA ad X Y) H) (hS : va_S A s.heap H locs) (hl : lv_has ls 1 [(0, .int a0)]) (hf : fn_Tape_isDigit a0 = some res) : W p l e zR_Tape_isDigit s m args below meth c H locs 0 0 (MQ below (zu_Qi D cA ad A res X Y) args s 0 0 A) (F0 m 0 ls []) := by
  obtain ⟨hx, hb, hml, hown, hts, hST⟩ := id B
  unfold fn_Tape_isDigit at hf
  refine lv_iload_n hx hb zd_Tape_isDigit_0 rfl (lv_at hl 0 rfl) ?_
  refine lv_bipush (v := 48) hx hb zd_Tape_isDigit_1 (by decide) ?_
  refine lv_icmp_lt (tgt := 16) hx hb zd_Tape_isDigit_3 (by decide) (fun c1 => ?_) (fun c1 => ?_)
  · have hf := zu_t c1 hf
    exact zl_Tape_isDigit_L16 B hret hlk _ _ _ hP hS (lv_sub hl [] rfl) hf
  · have hf := zu_f c1 hf
    refine lv_iload_n hx hb zd_Tape_isDigit_6 rfl (lv_at hl 0 rfl) ?_
    refine lv_bipush (v := 57) hx hb zd_Tape_isDigit_7 (by decide) ?_
    refine lv_icmp_gt (tgt := 16) hx hb zd_Tape_isDigit_9 (by decide) (fun c2 => ?_) (fun c2 => ?_)
    · have hf := zu_t c2 hf
      exact zl_Tape_isDigit_L16 B hret hlk _ _ _ hP hS (lv_sub hl [] rfl) hf
    · have hf := zu_f c2 hf
      refine lv_iconst (v := 1) hx hb zd_Tape_isDigit_12 (by decide) ?_
      refine lv_goto (tgt := 17) hx hb zd_Tape_isDigit_13 (by decide) ?_
      exact zl_Tape_isDigit_L17 B hret hlk (1 : Int32) _ _ _ hP hS (lv_sub hl [] rfl) hf
theorem zC_Tape_isDigit (l : Launch) {D : va_G} {cA : Nat → ClassId} {ad : Nat → Nat} {A : Nat → Prop} {a0 : Int32} {X : IX} {Y : LX} {res : Int32} (hf : fn_Tape_isDigit a0 = some res) : Met l zm_Tape_isDigit (zu_ws zm_Tape_isDigit zb_Tape_isDigit 1 (some .boolean)) zR_Tape_isDigit (va_Pc [.int a0] (zu_Pre D cA ad A X Y)) (zu_Qi D cA ad A res X Y) 0 0 A := by
  refine Met.ofW (cc := zb_Tape_isDigit) (maxL := 1) (ret := (some .boolean)) (by decide +kernel) rfl ?_
  intro p e s m args below meth c s₁ B0 hml hv
  obtain ⟨rfl, hP, hST⟩ := hv
  have B : zu_B p s m _ c zb_Tape_isDigit 1 "StonePost$Tape" D cA ad A := ⟨B0.exec, B0.bytes, hml, findClass_of_methodNamed B0.named, (fun w hw => atoms_spec (ws := zu_ws zm_Tape_isDigit zb_Tape_isDigit 1 (some .boolean)) B0.pre w (List.mem_cons_of_mem _ hw)), hST⟩
  have hl := lv_entry ([.int a0]) (n := 1) (Nat.le_of_ble_eq_true rfl)
  rw [lg_entry_eq]
  generalize (lg_sl ([.int a0]) ++ List.replicate (1 - (lg_sl ([.int a0])).length) Slot.unset).toArray = ls at hl ⊢
  exact zl_Tape_isDigit B B0.returns B0.notSynchronized s.heap [] ls hP va_S.rf hl  hf
theorem zw_Tape_isDigit {p : Program} {l : Launch} {e : Env} {R : Room} {s : State} {m : MethodId} {args : Array Value} {below : List Frame} {meth : Method} {c : Code} {H : Heap} {locs : List Loc} {cells slots : Nat} {Q : State → Prop} {cc : ByteArray} {pc nL : Nat} {ls : Array Slot} {rest st0 : List Value} {D : va_G} {cA : Nat → ClassId} {ad : Nat → Nat} {A : Nat → Prop} {X : IX} {Y : LX} {own : String} {index : Nat} {a0 : Int32} {v1 : Int32} (B : zu_B p s m args c cc nL own D cA ad A) (hP : va_P D zu_cl (zu_pic cA ad X Y) H) (hS : va_S A s.heap H locs) (hq : fn_Tape_isDigit a0 = some v1) (m1 : Cond.methodLink own index zm_Tape_isDigit ∈ zu_TB) (hR1 : 0 + 1 ≤ R.frames) (hR2 : 8 + (1 + 11) + 0 ≤ R.locals) (hsz : ls.size = nL) (hst : st0 = .int a0 ::  rest) (hw : (rest.map fun v => v.category).sum ≤ 8) (hdg : decode cc pc = .ok (.invokestatic index, 3)) (h00 : cells ≤ R.cells ∧ slots ≤ R.slots) (kk : ∀ (H1 : Heap) (locs1 : List Loc), va_P D zu_cl (zu_pic cA ad X Y) H1 → va_S A s.heap H1 locs1 → W p l e R s m args below meth c H1 locs1 cells slots Q (F0 m (pc + 3) ls (.int v1 :: rest))) : W p l e R s m args below meth c H locs cells slots Q (F0 m pc ls st0) := by
  subst hst
  exact zr_cSi (As := [.int a0]) (rest := rest) (n := 1) B hP hS (zC_Tape_isDigit l  hq) m1 zq_644 zq_6 zq_645 (by decide +kernel) ⟨hR1, hR2⟩ rfl rfl rfl hsz rfl hw hdg h00 kk
abbrev zR_Tape_readNumber : Room := { frames := 1, cells := 0, slots := 0, locals := 21 }
theorem zd_Tape_readNumber_0 : decode zb_Tape_readNumber 0 = .ok (.aload_n 0, 1) := by decide +kernel
theorem zd_Tape_readNumber_1 : decode zb_Tape_readNumber 1 = .ok (.iconst 1, 1) := by decide +kernel
theorem zd_Tape_readNumber_2 : decode zb_Tape_readNumber 2 = .ok (.putfield 28, 3) := by decide +kernel
theorem zd_Tape_readNumber_5 : decode zb_Tape_readNumber 5 = .ok (.aload_n 0, 1) := by decide +kernel
theorem zd_Tape_readNumber_6 : decode zb_Tape_readNumber 6 = .ok (.iconst 0, 1) := by decide +kernel
theorem zd_Tape_readNumber_7 : decode zb_Tape_readNumber 7 = .ok (.putfield 44, 3) := by decide +kernel
theorem zd_Tape_readNumber_10 : decode zb_Tape_readNumber 10 = .ok (.aload_n 0, 1) := by decide +kernel
theorem zd_Tape_readNumber_11 : decode zb_Tape_readNumber 11 = .ok (.getfield 15, 3) := by decide +kernel
theorem zd_Tape_readNumber_14 : decode zb_Tape_readNumber 14 = .ok (.aload_n 0, 1) := by decide +kernel
theorem zd_Tape_readNumber_15 : decode zb_Tape_readNumber 15 = .ok (.getfield 25, 3) := by decide +kernel
theorem zd_Tape_readNumber_18 : decode zb_Tape_readNumber 18 = .ok (.if_icmp .ge 61, 3) := by decide +kernel
theorem zd_Tape_readNumber_21 : decode zb_Tape_readNumber 21 = .ok (.aload_n 0, 1) := by decide +kernel
theorem zd_Tape_readNumber_22 : decode zb_Tape_readNumber 22 = .ok (.getfield 9, 3) := by decide +kernel
theorem zd_Tape_readNumber_25 : decode zb_Tape_readNumber 25 = .ok (.aload_n 0, 1) := by decide +kernel
theorem zd_Tape_readNumber_26 : decode zb_Tape_readNumber 26 = .ok (.getfield 15, 3) := by decide +kernel
theorem zd_Tape_readNumber_29 : decode zb_Tape_readNumber 29 = .ok (.iaload, 1) := by decide +kernel
theorem zd_Tape_readNumber_30 : decode zb_Tape_readNumber 30 = .ok (.invokestatic 38, 3) := by decide +kernel
theorem zd_Tape_readNumber_33 : decode zb_Tape_readNumber 33 = .ok (.ifCond .eq 46, 3) := by decide +kernel
theorem zd_Tape_readNumber_36 : decode zb_Tape_readNumber 36 = .ok (.aload_n 0, 1) := by decide +kernel
theorem zd_Tape_readNumber_37 : decode zb_Tape_readNumber 37 = .ok (.sipush 1000, 3) := by decide +kernel
theorem zd_Tape_readNumber_40 : decode zb_Tape_readNumber 40 = .ok (.aload_n 0, 1) := by decide +kernel
theorem zd_Tape_readNumber_41 : decode zb_Tape_readNumber 41 = .ok (.getfield 44, 3) := by decide +kernel
theorem zd_Tape_readNumber_44 : decode zb_Tape_readNumber 44 = .ok (.bipush 10, 2) := by decide +kernel
theorem zd_Tape_readNumber_46 : decode zb_Tape_readNumber 46 = .ok (.imul, 1) := by decide +kernel
theorem zd_Tape_readNumber_47 : decode zb_Tape_readNumber 47 = .ok (.aload_n 0, 1) := by decide +kernel
theorem zd_Tape_readNumber_48 : decode zb_Tape_readNumber 48 = .ok (.getfield 9, 3) := by decide +kernel
theorem zd_Tape_readNumber_51 : decode zb_Tape_readNumber 51 = .ok (.aload_n 0, 1) := by decide +kernel
theorem zd_Tape_readNumber_52 : decode zb_Tape_readNumber 52 = .ok (.getfield 15, 3) := by decide +kernel
theorem zd_Tape_readNumber_55 : decode zb_Tape_readNumber 55 = .ok (.iaload, 1) := by decide +kernel
theorem zd_Tape_readNumber_56 : decode zb_Tape_readNumber 56 = .ok (.iadd, 1) := by decide +kernel
theorem zd_Tape_readNumber_57 : decode zb_Tape_readNumber 57 = .ok (.bipush 48, 2) := by decide +kernel
theorem zd_Tape_readNumber_59 : decode zb_Tape_readNumber 59 = .ok (.isub, 1) := by decide +kernel
theorem zd_Tape_readNumber_60 : decode zb_Tape_readNumber 60 = .ok (.invokestatic 47, 3) := by decide +kernel
theorem zd_Tape_readNumber_63 : decode zb_Tape_readNumber 63 = .ok (.putfield 44, 3) := by decide +kernel
theorem zd_Tape_readNumber_66 : decode zb_Tape_readNumber 66 = .ok (.aload_n 0, 1) := by decide +kernel
theorem zd_Tape_readNumber_67 : decode zb_Tape_readNumber 67 = .ok (.dup, 1) := by decide +kernel
theorem zd_Tape_readNumber_68 : decode zb_Tape_readNumber 68 = .ok (.getfield 15, 3) := by decide +kernel
theorem zd_Tape_readNumber_71 : decode zb_Tape_readNumber 71 = .ok (.iconst 1, 1) := by decide +kernel
theorem zd_Tape_readNumber_72 : decode zb_Tape_readNumber 72 = .ok (.iadd, 1) := by decide +kernel
theorem zd_Tape_readNumber_73 : decode zb_Tape_readNumber 73 = .ok (.putfield 15, 3) := by decide +kernel
theorem zd_Tape_readNumber_76 : decode zb_Tape_readNumber 76 = .ok (.goto (-66), 3) := by decide +kernel
theorem zd_Tape_readNumber_79 : decode zb_Tape_readNumber 79 = .ok (.return_, 1) := by decide +kernel
set_option maxHeartbeats 4000000 in
theorem zl_Tape_readNumber_L79 {p : Program} {l : Launch} {e : Env} {s : State} {m : MethodId} {args : Array Value} {below : List Frame} {meth : Method} {c : Code} {D : va_G} {cA : Nat → ClassId} {ad : Nat → Nat} {A : Nat → Prop} (B : zu_B p s m args c zb_Tape_readNumber 1 "StonePost$Tape" D cA ad A) (hret : meth.sig.returnType = none) (hlk : meth.locks = false) {Y : LX} {res : IX} (X : IX) (H : Heap) (locs : List Loc) (ls : Array Slot) (hP : va_P D zu_cl (zu_pic cA ad X Y) H) (hS : va_S A s.heap H locs) (hl : lv_has ls 1 []) (hf : fn_Tape_readNumber_L79 X = some res) : W p l e zR_Tape_readNumber s m args below meth c H locs 0 0 (MQ below (zu_Qv D cA ad A res Y) args s 0 0 A) (F0 m 79 ls []) := by
  obtain ⟨hx, hb, hml, hown, hts, hST⟩ := id B
  unfold fn_Tape_readNumber_L79 at hf
  obtain rfl := Option.some.inj hf
  exact zr_vret hx hb hret hlk hP hS zd_Tape_readNumber_79
set_option maxHeartbeats 4000000 in
theorem zl_Tape_readNumber_B10 {p : Program} {l : Launch} {e : Env} {s : State} {m : MethodId} {args : Array Value} {below : List Frame} {meth : Method} {c : Code} {D : va_G} {cA : Nat → ClassId} {ad : Nat → Nat} {A : Nat → Prop} (B : zu_B p s m args c zb_Tape_readNumber 1 "StonePost$Tape" D cA ad A) (hret : meth.sig.returnType = none) (hlk : meth.locks = false) {Y : LX} {res : IX} {k10 : IX → Option IX} (hk10 : ∀ (X : IX) (H : Heap) (locs : List Loc) (ls : Array Slot), va_P D zu_cl (zu_pic cA ad X Y) H → va_S A s.heap H locs → lv_has ls 1 [(0, .ref (ad 8))] → k10 X = some res → W p l e zR_Tape_readNumber s m args below meth c H locs 0 0 (MQ below (zu_Qv D cA ad A res Y) args s 0 0 A) (F0 m 10 ls [])) (X : IX) (H : Heap) (locs : List Loc) (ls : Array Slot) (hP : va_P D zu_cl (zu_pic cA ad X Y) H) (hS : va_S A s.heap H locs) (hl : lv_has ls 1 [(0, .ref (ad 8))]) (hf : fn_Tape_readNumber_B10 k10 X = some res) : W p l e zR_Tape_readNumber s m args below meth c H locs 0 0 (MQ below (zu_Qv D cA ad A res Y) args s 0 0 A) (F0 m 10 ls []) := by
  obtain ⟨hx, hb, hml, hown, hts, hST⟩ := id B
  unfold fn_Tape_readNumber_B10 at hf
  refine lv_aload_n hx hb zd_Tape_readNumber_10 rfl (lv_at hl 0 rfl) ?_
  refine zg_Tape_end B hP rfl zq_157 zd_Tape_readNumber_11 ?_
  refine lv_aload_n hx hb zd_Tape_readNumber_14 rfl (lv_at hl 0 rfl) ?_
  refine zg_Tape_length B hP rfl zq_149 zd_Tape_readNumber_15 ?_
  refine lv_icmp_ge (tgt := 79) hx hb zd_Tape_readNumber_18 (by decide) (fun c3 => ?_) (fun c3 => ?_)
  · have hf := zu_t c3 hf
    exact zl_Tape_readNumber_L79 B hret hlk X _ _ _ hP hS (lv_sub hl [] rfl) hf
  · have hf := zu_f c3 hf
    refine lv_aload_n hx hb zd_Tape_readNumber_21 rfl (lv_at hl 0 rfl) ?_
    refine zg_Tape_bytes B hP rfl zq_147 zd_Tape_readNumber_22 ?_
    refine lv_aload_n hx hb zd_Tape_readNumber_25 rfl (lv_at hl 0 rfl) ?_
    refine zg_Tape_end B hP rfl zq_157 zd_Tape_readNumber_26 ?_
    obtain ⟨hg4, hf⟩ := zu_gd_e hf
    refine zr_iald rfl B hP rfl (by decide) rfl hg4 zd_Tape_readNumber_29 ?_
    obtain ⟨v5, hq6, hf⟩ := zu_b1_e hf
    refine zw_Tape_isDigit (rest := []) B hP hS hq6 zq_643 (Nat.le_of_ble_eq_true rfl) (Nat.le_of_ble_eq_true rfl) hl.1 rfl (Nat.le_of_ble_eq_true rfl) zd_Tape_readNumber_30 (by decide) (fun H locs hP hS => ?_)
    clear hq6
    refine lv_if_eq (tgt := 79) hx hb zd_Tape_readNumber_33 (by decide) (fun c7 => ?_) (fun c7 => ?_)
    · have hf := zu_t c7 hf
      exact zl_Tape_readNumber_L79 B hret hlk X _ _ _ hP hS (lv_sub hl [] rfl) hf
    · have hf := zu_f c7 hf
      refine lv_aload_n hx hb zd_Tape_readNumber_36 rfl (lv_at hl 0 rfl) ?_
      refine lv_sipush (v := 1000) hx hb zd_Tape_readNumber_37 (by decide) ?_
      refine lv_aload_n hx hb zd_Tape_readNumber_40 rfl (lv_at hl 0 rfl) ?_
      refine zg_Tape_value B hP rfl zq_155 zd_Tape_readNumber_41 ?_
      refine lv_bipush (v := 10) hx hb zd_Tape_readNumber_44 (by decide) ?_
      refine lv_imul hx hb zd_Tape_readNumber_46 ?_
      refine lv_aload_n hx hb zd_Tape_readNumber_47 rfl (lv_at hl 0 rfl) ?_
      refine zg_Tape_bytes B hP rfl zq_147 zd_Tape_readNumber_48 ?_
      refine lv_aload_n hx hb zd_Tape_readNumber_51 rfl (lv_at hl 0 rfl) ?_
      refine zg_Tape_end B hP rfl zq_157 zd_Tape_readNumber_52 ?_
      obtain ⟨hg8, hf⟩ := zu_gd_e hf
      refine zr_iald rfl B hP rfl (by decide) rfl hg8 zd_Tape_readNumber_55 ?_
      refine lv_iadd hx hb zd_Tape_readNumber_56 ?_
      refine lv_bipush (v := 48) hx hb zd_Tape_readNumber_57 (by decide) ?_
      refine lv_isub hx hb zd_Tape_readNumber_59 ?_
      refine va_mmin hx hb (hml.trans hl.1.symm) hown (hts _ zq_650) (hts _ zq_320) (hts _ zq_10) (hts _ zq_321) (by decide) (Nat.le_of_ble_eq_true rfl) (by decide) (by decide) zd_Tape_readNumber_60 ?_
      refine zr_nxi hf (fun v9 hf => ?_)
      refine zp_Tape_value B hP hS hf rfl zq_155 zd_Tape_readNumber_63 (fun X10 H locs hf hP hS => ?_)
      refine lv_aload_n hx hb zd_Tape_readNumber_66 rfl (lv_at hl 0 rfl) ?_
      refine lv_dup hx hb zd_Tape_readNumber_67 rfl ?_
      refine zg_Tape_end B hP rfl zq_157 zd_Tape_readNumber_68 ?_
      refine lv_iconst (v := 1) hx hb zd_Tape_readNumber_71 (by decide) ?_
      refine lv_iadd hx hb zd_Tape_readNumber_72 ?_
      refine zp_Tape_end B hP hS hf rfl zq_157 zd_Tape_readNumber_73 (fun X11 H locs hf hP hS => ?_)
      refine lv_goto (tgt := 10) hx hb zd_Tape_readNumber_76 (by decide) ?_
      exact hk10 X11 _ _ _ hP hS (lv_sub hl [0] rfl) hf
theorem zl_Tape_readNumber_L10 {p : Program} {l : Launch} {e : Env} {s : State} {m : MethodId} {args : Array Value} {below : List Frame} {meth : Method} {c : Code} {D : va_G} {cA : Nat → ClassId} {ad : Nat → Nat} {A : Nat → Prop} (B : zu_B p s m args c zb_Tape_readNumber 1 "StonePost$Tape" D cA ad A) (hret : meth.sig.returnType = none) (hlk : meth.locks = false) {Y : LX} {res : IX} : ∀ (n : Nat) (X : IX) (H : Heap) (locs : List Loc) (ls : Array Slot), va_P D zu_cl (zu_pic cA ad X Y) H → va_S A s.heap H locs → lv_has ls 1 [(0, .ref (ad 8))] → fn_Tape_readNumber_L10 n X = some res → W p l e zR_Tape_readNumber s m args below meth c H locs 0 0 (MQ below (zu_Qv D cA ad A res Y) args s 0 0 A) (F0 m 10 ls []) := by
  intro n
  induction n with
  | zero =>
    intro X H locs ls hP hS hl hf
    exact (Option.some_ne_none _ hf.symm).elim
  | succ n ih =>
    intro X H locs ls hP hS hl hf
    exact zl_Tape_readNumber_B10 B hret hlk ih X H locs ls hP hS hl  hf
set_option maxHeartbeats 4000000 in
theorem zl_Tape_readNumber {p : Program} {l : Launch} {e : Env} {s : State} {m : MethodId} {args : Array Value} {below : List Frame} {meth : Method} {c : Code} {D : va_G} {cA : Nat → ClassId} {ad : Nat → Nat} {A : Nat → Prop} (B : zu_B p s m args c zb_Tape_readNumber 1 "StonePost$Tape" D cA ad A) (hret : meth.sig.returnType = none) (hlk : meth.locks = false) {Y : LX} {res : IX} {X : IX} (H : Heap) (locs : List Loc) (ls : Array Slot) (hP : va_P D zu_cl (zu_pic cA ad X Y) H) (hS : va_S A s.heap H locs) (hl : lv_has ls 1 [(0, .ref (ad 8))]) (hf : fn_Tape_readNumber X = some res) : W p l e zR_Tape_readNumber s m args below meth c H locs 0 0 (MQ below (zu_Qv D cA ad A res Y) args s 0 0 A) (F0 m 0 ls []) := by
  obtain ⟨hx, hb, hml, hown, hts, hST⟩ := id B
  unfold fn_Tape_readNumber at hf
  refine lv_aload_n hx hb zd_Tape_readNumber_0 rfl (lv_at hl 0 rfl) ?_
  refine lv_iconst (v := 1) hx hb zd_Tape_readNumber_1 (by decide) ?_
  refine zp_Tape_token B hP hS hf rfl zq_152 zd_Tape_readNumber_2 (fun X1 H locs hf hP hS => ?_)
  refine lv_aload_n hx hb zd_Tape_readNumber_5 rfl (lv_at hl 0 rfl) ?_
  refine lv_iconst (v := 0) hx hb zd_Tape_readNumber_6 (by decide) ?_
  refine zp_Tape_value B hP hS hf rfl zq_155 zd_Tape_readNumber_7 (fun X2 H locs hf hP hS => ?_)
  exact zl_Tape_readNumber_L10 B hret hlk 400 X2 _ _ _ hP hS (lv_sub hl [0] rfl) hf
theorem zC_Tape_readNumber (l : Launch) {D : va_G} {cA : Nat → ClassId} {ad : Nat → Nat} {A : Nat → Prop} {X : IX} {Y : LX} {res : IX} (hf : fn_Tape_readNumber X = some res) : Met l zm_Tape_readNumber (zu_ws zm_Tape_readNumber zb_Tape_readNumber 1 none) zR_Tape_readNumber (va_Pc [.ref (ad 8)] (zu_Pre D cA ad A X Y)) (zu_Qv D cA ad A res Y) 0 0 A := by
  refine Met.ofW (cc := zb_Tape_readNumber) (maxL := 1) (ret := none) (by decide +kernel) rfl ?_
  intro p e s m args below meth c s₁ B0 hml hv
  obtain ⟨rfl, hP, hST⟩ := hv
  have B : zu_B p s m _ c zb_Tape_readNumber 1 "StonePost$Tape" D cA ad A := ⟨B0.exec, B0.bytes, hml, findClass_of_methodNamed B0.named, (fun w hw => atoms_spec (ws := zu_ws zm_Tape_readNumber zb_Tape_readNumber 1 none) B0.pre w (List.mem_cons_of_mem _ hw)), hST⟩
  have hl := lv_entry ([.ref (ad 8)]) (n := 1) (Nat.le_of_ble_eq_true rfl)
  rw [lg_entry_eq]
  generalize (lg_sl ([.ref (ad 8)]) ++ List.replicate (1 - (lg_sl ([.ref (ad 8)])).length) Slot.unset).toArray = ls at hl ⊢
  exact zl_Tape_readNumber B B0.returns B0.notSynchronized s.heap [] ls hP va_S.rf hl  hf
theorem zw_Tape_readNumber {p : Program} {l : Launch} {e : Env} {R : Room} {s : State} {m : MethodId} {args : Array Value} {below : List Frame} {meth : Method} {c : Code} {H : Heap} {locs : List Loc} {cells slots : Nat} {Q : State → Prop} {cc : ByteArray} {pc nL : Nat} {ls : Array Slot} {rest st0 : List Value} {D : va_G} {cA : Nat → ClassId} {ad : Nat → Nat} {A : Nat → Prop} {X : IX} {Y : LX} {own : String} {index : Nat} {X1 : IX} (B : zu_B p s m args c cc nL own D cA ad A) (hP : va_P D zu_cl (zu_pic cA ad X Y) H) (hS : va_S A s.heap H locs) (hq : fn_Tape_readNumber X = some X1) (m1 : Cond.methodLink own index zm_Tape_readNumber ∈ zu_TB) (hR1 : 1 + 1 ≤ R.frames) (hR2 : 8 + (1 + 11) + 21 ≤ R.locals) (hsz : ls.size = nL) (hst : st0 = .ref (ad 8) :: rest) (hw : (rest.map fun v => v.category).sum ≤ 8) (hdg : decode cc pc = .ok (.invokevirtual index, 3)) (h00 : cells ≤ R.cells ∧ slots ≤ R.slots) (kk : ∀ (H1 : Heap) (locs1 : List Loc), va_P D zu_cl (zu_pic cA ad X1 Y) H1 → va_S A s.heap H1 locs1 → W p l e R s m args below meth c H1 locs1 cells slots Q (F0 m (pc + 3) ls (rest))) : W p l e R s m args below meth c H locs cells slots Q (F0 m pc ls st0) := by
  subst hst
  exact zr_cVv (As := []) (rest := rest) (n := 0) (C := "StonePost$Tape") (T := zt_Tape) (N := 6) B hP hS (zC_Tape_readNumber l  hq) (K := 3) rfl (by decide) (by decide) rfl rfl m1 zq_648 zqP_18 zq_6 zq_649 (by decide +kernel) ⟨hR1, hR2⟩ rfl rfl rfl hsz rfl hw hdg h00 kk
abbrev zR_Tape_readWord : Room := { frames := 1, cells := 0, slots := 0, locals := 20 }
theorem zd_Tape_readWord_0 : decode zb_Tape_readWord 0 = .ok (.aload_n 0, 1) := by decide +kernel
theorem zd_Tape_readWord_1 : decode zb_Tape_readWord 1 = .ok (.iconst 0, 1) := by decide +kernel
theorem zd_Tape_readWord_2 : decode zb_Tape_readWord 2 = .ok (.putfield 28, 3) := by decide +kernel
theorem zd_Tape_readWord_5 : decode zb_Tape_readWord 5 = .ok (.aload_n 0, 1) := by decide +kernel
theorem zd_Tape_readWord_6 : decode zb_Tape_readWord 6 = .ok (.getfield 15, 3) := by decide +kernel
theorem zd_Tape_readWord_9 : decode zb_Tape_readWord 9 = .ok (.aload_n 0, 1) := by decide +kernel
theorem zd_Tape_readWord_10 : decode zb_Tape_readWord 10 = .ok (.getfield 25, 3) := by decide +kernel
theorem zd_Tape_readWord_13 : decode zb_Tape_readWord 13 = .ok (.if_icmp .ge 31, 3) := by decide +kernel
theorem zd_Tape_readWord_16 : decode zb_Tape_readWord 16 = .ok (.aload_n 0, 1) := by decide +kernel
theorem zd_Tape_readWord_17 : decode zb_Tape_readWord 17 = .ok (.getfield 9, 3) := by decide +kernel
theorem zd_Tape_readWord_20 : decode zb_Tape_readWord 20 = .ok (.aload_n 0, 1) := by decide +kernel
theorem zd_Tape_readWord_21 : decode zb_Tape_readWord 21 = .ok (.getfield 15, 3) := by decide +kernel
theorem zd_Tape_readWord_24 : decode zb_Tape_readWord 24 = .ok (.iaload, 1) := by decide +kernel
theorem zd_Tape_readWord_25 : decode zb_Tape_readWord 25 = .ok (.invokestatic 31, 3) := by decide +kernel
theorem zd_Tape_readWord_28 : decode zb_Tape_readWord 28 = .ok (.ifCond .eq 16, 3) := by decide +kernel
theorem zd_Tape_readWord_31 : decode zb_Tape_readWord 31 = .ok (.aload_n 0, 1) := by decide +kernel
theorem zd_Tape_readWord_32 : decode zb_Tape_readWord 32 = .ok (.dup, 1) := by decide +kernel
theorem zd_Tape_readWord_33 : decode zb_Tape_readWord 33 = .ok (.getfield 15, 3) := by decide +kernel
theorem zd_Tape_readWord_36 : decode zb_Tape_readWord 36 = .ok (.iconst 1, 1) := by decide +kernel
theorem zd_Tape_readWord_37 : decode zb_Tape_readWord 37 = .ok (.iadd, 1) := by decide +kernel
theorem zd_Tape_readWord_38 : decode zb_Tape_readWord 38 = .ok (.putfield 15, 3) := by decide +kernel
theorem zd_Tape_readWord_41 : decode zb_Tape_readWord 41 = .ok (.goto (-36), 3) := by decide +kernel
theorem zd_Tape_readWord_44 : decode zb_Tape_readWord 44 = .ok (.return_, 1) := by decide +kernel
set_option maxHeartbeats 4000000 in
theorem zl_Tape_readWord_L44 {p : Program} {l : Launch} {e : Env} {s : State} {m : MethodId} {args : Array Value} {below : List Frame} {meth : Method} {c : Code} {D : va_G} {cA : Nat → ClassId} {ad : Nat → Nat} {A : Nat → Prop} (B : zu_B p s m args c zb_Tape_readWord 1 "StonePost$Tape" D cA ad A) (hret : meth.sig.returnType = none) (hlk : meth.locks = false) {Y : LX} {res : IX} (X : IX) (H : Heap) (locs : List Loc) (ls : Array Slot) (hP : va_P D zu_cl (zu_pic cA ad X Y) H) (hS : va_S A s.heap H locs) (hl : lv_has ls 1 []) (hf : fn_Tape_readWord_L44 X = some res) : W p l e zR_Tape_readWord s m args below meth c H locs 0 0 (MQ below (zu_Qv D cA ad A res Y) args s 0 0 A) (F0 m 44 ls []) := by
  obtain ⟨hx, hb, hml, hown, hts, hST⟩ := id B
  unfold fn_Tape_readWord_L44 at hf
  obtain rfl := Option.some.inj hf
  exact zr_vret hx hb hret hlk hP hS zd_Tape_readWord_44
set_option maxHeartbeats 4000000 in
theorem zl_Tape_readWord_B5 {p : Program} {l : Launch} {e : Env} {s : State} {m : MethodId} {args : Array Value} {below : List Frame} {meth : Method} {c : Code} {D : va_G} {cA : Nat → ClassId} {ad : Nat → Nat} {A : Nat → Prop} (B : zu_B p s m args c zb_Tape_readWord 1 "StonePost$Tape" D cA ad A) (hret : meth.sig.returnType = none) (hlk : meth.locks = false) {Y : LX} {res : IX} {k5 : IX → Option IX} (hk5 : ∀ (X : IX) (H : Heap) (locs : List Loc) (ls : Array Slot), va_P D zu_cl (zu_pic cA ad X Y) H → va_S A s.heap H locs → lv_has ls 1 [(0, .ref (ad 8))] → k5 X = some res → W p l e zR_Tape_readWord s m args below meth c H locs 0 0 (MQ below (zu_Qv D cA ad A res Y) args s 0 0 A) (F0 m 5 ls [])) (X : IX) (H : Heap) (locs : List Loc) (ls : Array Slot) (hP : va_P D zu_cl (zu_pic cA ad X Y) H) (hS : va_S A s.heap H locs) (hl : lv_has ls 1 [(0, .ref (ad 8))]) (hf : fn_Tape_readWord_B5 k5 X = some res) : W p l e zR_Tape_readWord s m args below meth c H locs 0 0 (MQ below (zu_Qv D cA ad A res Y) args s 0 0 A) (F0 m 5 ls []) := by
  obtain ⟨hx, hb, hml, hown, hts, hST⟩ := id B
  unfold fn_Tape_readWord_B5 at hf
  refine lv_aload_n hx hb zd_Tape_readWord_5 rfl (lv_at hl 0 rfl) ?_
  refine zg_Tape_end B hP rfl zq_157 zd_Tape_readWord_6 ?_
  refine lv_aload_n hx hb zd_Tape_readWord_9 rfl (lv_at hl 0 rfl) ?_
  refine zg_Tape_length B hP rfl zq_149 zd_Tape_readWord_10 ?_
  refine lv_icmp_ge (tgt := 44) hx hb zd_Tape_readWord_13 (by decide) (fun c2 => ?_) (fun c2 => ?_)
  · have hf := zu_t c2 hf
    exact zl_Tape_readWord_L44 B hret hlk X _ _ _ hP hS (lv_sub hl [] rfl) hf
  · have hf := zu_f c2 hf
    refine lv_aload_n hx hb zd_Tape_readWord_16 rfl (lv_at hl 0 rfl) ?_
    refine zg_Tape_bytes B hP rfl zq_147 zd_Tape_readWord_17 ?_
    refine lv_aload_n hx hb zd_Tape_readWord_20 rfl (lv_at hl 0 rfl) ?_
    refine zg_Tape_end B hP rfl zq_157 zd_Tape_readWord_21 ?_
    obtain ⟨hg3, hf⟩ := zu_gd_e hf
    refine zr_iald rfl B hP rfl (by decide) rfl hg3 zd_Tape_readWord_24 ?_
    obtain ⟨v4, hq5, hf⟩ := zu_b1_e hf
    refine zw_Tape_isLetterByte (rest := []) B hP hS hq5 zq_636 (Nat.le_of_ble_eq_true rfl) (Nat.le_of_ble_eq_true rfl) hl.1 rfl (Nat.le_of_ble_eq_true rfl) zd_Tape_readWord_25 (by decide) (fun H locs hP hS => ?_)
    clear hq5
    refine lv_if_eq (tgt := 44) hx hb zd_Tape_readWord_28 (by decide) (fun c6 => ?_) (fun c6 => ?_)
    · have hf := zu_t c6 hf
      exact zl_Tape_readWord_L44 B hret hlk X _ _ _ hP hS (lv_sub hl [] rfl) hf
    · have hf := zu_f c6 hf
      refine lv_aload_n hx hb zd_Tape_readWord_31 rfl (lv_at hl 0 rfl) ?_
      refine lv_dup hx hb zd_Tape_readWord_32 rfl ?_
      refine zg_Tape_end B hP rfl zq_157 zd_Tape_readWord_33 ?_
      refine lv_iconst (v := 1) hx hb zd_Tape_readWord_36 (by decide) ?_
      refine lv_iadd hx hb zd_Tape_readWord_37 ?_
      refine zp_Tape_end B hP hS hf rfl zq_157 zd_Tape_readWord_38 (fun X7 H locs hf hP hS => ?_)
      refine lv_goto (tgt := 5) hx hb zd_Tape_readWord_41 (by decide) ?_
      exact hk5 X7 _ _ _ hP hS (lv_sub hl [0] rfl) hf
theorem zl_Tape_readWord_L5 {p : Program} {l : Launch} {e : Env} {s : State} {m : MethodId} {args : Array Value} {below : List Frame} {meth : Method} {c : Code} {D : va_G} {cA : Nat → ClassId} {ad : Nat → Nat} {A : Nat → Prop} (B : zu_B p s m args c zb_Tape_readWord 1 "StonePost$Tape" D cA ad A) (hret : meth.sig.returnType = none) (hlk : meth.locks = false) {Y : LX} {res : IX} : ∀ (n : Nat) (X : IX) (H : Heap) (locs : List Loc) (ls : Array Slot), va_P D zu_cl (zu_pic cA ad X Y) H → va_S A s.heap H locs → lv_has ls 1 [(0, .ref (ad 8))] → fn_Tape_readWord_L5 n X = some res → W p l e zR_Tape_readWord s m args below meth c H locs 0 0 (MQ below (zu_Qv D cA ad A res Y) args s 0 0 A) (F0 m 5 ls []) := by
  intro n
  induction n with
  | zero =>
    intro X H locs ls hP hS hl hf
    exact (Option.some_ne_none _ hf.symm).elim
  | succ n ih =>
    intro X H locs ls hP hS hl hf
    exact zl_Tape_readWord_B5 B hret hlk ih X H locs ls hP hS hl  hf
set_option maxHeartbeats 4000000 in
theorem zl_Tape_readWord {p : Program} {l : Launch} {e : Env} {s : State} {m : MethodId} {args : Array Value} {below : List Frame} {meth : Method} {c : Code} {D : va_G} {cA : Nat → ClassId} {ad : Nat → Nat} {A : Nat → Prop} (B : zu_B p s m args c zb_Tape_readWord 1 "StonePost$Tape" D cA ad A) (hret : meth.sig.returnType = none) (hlk : meth.locks = false) {Y : LX} {res : IX} {X : IX} (H : Heap) (locs : List Loc) (ls : Array Slot) (hP : va_P D zu_cl (zu_pic cA ad X Y) H) (hS : va_S A s.heap H locs) (hl : lv_has ls 1 [(0, .ref (ad 8))]) (hf : fn_Tape_readWord X = some res) : W p l e zR_Tape_readWord s m args below meth c H locs 0 0 (MQ below (zu_Qv D cA ad A res Y) args s 0 0 A) (F0 m 0 ls []) := by
  obtain ⟨hx, hb, hml, hown, hts, hST⟩ := id B
  unfold fn_Tape_readWord at hf
  refine lv_aload_n hx hb zd_Tape_readWord_0 rfl (lv_at hl 0 rfl) ?_
  refine lv_iconst (v := 0) hx hb zd_Tape_readWord_1 (by decide) ?_
  refine zp_Tape_token B hP hS hf rfl zq_152 zd_Tape_readWord_2 (fun X1 H locs hf hP hS => ?_)
  exact zl_Tape_readWord_L5 B hret hlk 400 X1 _ _ _ hP hS (lv_sub hl [0] rfl) hf
theorem zC_Tape_readWord (l : Launch) {D : va_G} {cA : Nat → ClassId} {ad : Nat → Nat} {A : Nat → Prop} {X : IX} {Y : LX} {res : IX} (hf : fn_Tape_readWord X = some res) : Met l zm_Tape_readWord (zu_ws zm_Tape_readWord zb_Tape_readWord 1 none) zR_Tape_readWord (va_Pc [.ref (ad 8)] (zu_Pre D cA ad A X Y)) (zu_Qv D cA ad A res Y) 0 0 A := by
  refine Met.ofW (cc := zb_Tape_readWord) (maxL := 1) (ret := none) (by decide +kernel) rfl ?_
  intro p e s m args below meth c s₁ B0 hml hv
  obtain ⟨rfl, hP, hST⟩ := hv
  have B : zu_B p s m _ c zb_Tape_readWord 1 "StonePost$Tape" D cA ad A := ⟨B0.exec, B0.bytes, hml, findClass_of_methodNamed B0.named, (fun w hw => atoms_spec (ws := zu_ws zm_Tape_readWord zb_Tape_readWord 1 none) B0.pre w (List.mem_cons_of_mem _ hw)), hST⟩
  have hl := lv_entry ([.ref (ad 8)]) (n := 1) (Nat.le_of_ble_eq_true rfl)
  rw [lg_entry_eq]
  generalize (lg_sl ([.ref (ad 8)]) ++ List.replicate (1 - (lg_sl ([.ref (ad 8)])).length) Slot.unset).toArray = ls at hl ⊢
  exact zl_Tape_readWord B B0.returns B0.notSynchronized s.heap [] ls hP va_S.rf hl  hf
theorem zw_Tape_readWord {p : Program} {l : Launch} {e : Env} {R : Room} {s : State} {m : MethodId} {args : Array Value} {below : List Frame} {meth : Method} {c : Code} {H : Heap} {locs : List Loc} {cells slots : Nat} {Q : State → Prop} {cc : ByteArray} {pc nL : Nat} {ls : Array Slot} {rest st0 : List Value} {D : va_G} {cA : Nat → ClassId} {ad : Nat → Nat} {A : Nat → Prop} {X : IX} {Y : LX} {own : String} {index : Nat} {X1 : IX} (B : zu_B p s m args c cc nL own D cA ad A) (hP : va_P D zu_cl (zu_pic cA ad X Y) H) (hS : va_S A s.heap H locs) (hq : fn_Tape_readWord X = some X1) (m1 : Cond.methodLink own index zm_Tape_readWord ∈ zu_TB) (hR1 : 1 + 1 ≤ R.frames) (hR2 : 8 + (1 + 11) + 20 ≤ R.locals) (hsz : ls.size = nL) (hst : st0 = .ref (ad 8) :: rest) (hw : (rest.map fun v => v.category).sum ≤ 8) (hdg : decode cc pc = .ok (.invokevirtual index, 3)) (h00 : cells ≤ R.cells ∧ slots ≤ R.slots) (kk : ∀ (H1 : Heap) (locs1 : List Loc), va_P D zu_cl (zu_pic cA ad X1 Y) H1 → va_S A s.heap H1 locs1 → W p l e R s m args below meth c H1 locs1 cells slots Q (F0 m (pc + 3) ls (rest))) : W p l e R s m args below meth c H locs cells slots Q (F0 m pc ls st0) := by
  subst hst
  exact zr_cVv (As := []) (rest := rest) (n := 0) (C := "StonePost$Tape") (T := zt_Tape) (N := 6) B hP hS (zC_Tape_readWord l  hq) (K := 3) rfl (by decide) (by decide) rfl rfl m1 zq_641 zqP_17 zq_6 zq_642 (by decide +kernel) ⟨hR1, hR2⟩ rfl rfl rfl hsz rfl hw hdg h00 kk
abbrev zR_Tape_readOn : Room := { frames := 2, cells := 0, slots := 0, locals := 41 }
theorem zd_Tape_readOn_0 : decode zb_Tape_readOn 0 = .ok (.aload_n 0, 1) := by decide +kernel
theorem zd_Tape_readOn_1 : decode zb_Tape_readOn 1 = .ok (.aload_n 0, 1) := by decide +kernel
theorem zd_Tape_readOn_2 : decode zb_Tape_readOn 2 = .ok (.getfield 15, 3) := by decide +kernel
theorem zd_Tape_readOn_5 : decode zb_Tape_readOn 5 = .ok (.putfield 22, 3) := by decide +kernel
theorem zd_Tape_readOn_8 : decode zb_Tape_readOn 8 = .ok (.aload_n 0, 1) := by decide +kernel
theorem zd_Tape_readOn_9 : decode zb_Tape_readOn 9 = .ok (.getfield 22, 3) := by decide +kernel
theorem zd_Tape_readOn_12 : decode zb_Tape_readOn 12 = .ok (.aload_n 0, 1) := by decide +kernel
theorem zd_Tape_readOn_13 : decode zb_Tape_readOn 13 = .ok (.getfield 25, 3) := by decide +kernel
theorem zd_Tape_readOn_16 : decode zb_Tape_readOn 16 = .ok (.if_icmp .ge 30, 3) := by decide +kernel
theorem zd_Tape_readOn_19 : decode zb_Tape_readOn 19 = .ok (.aload_n 0, 1) := by decide +kernel
theorem zd_Tape_readOn_20 : decode zb_Tape_readOn 20 = .ok (.getfield 9, 3) := by decide +kernel
theorem zd_Tape_readOn_23 : decode zb_Tape_readOn 23 = .ok (.aload_n 0, 1) := by decide +kernel
theorem zd_Tape_readOn_24 : decode zb_Tape_readOn 24 = .ok (.getfield 22, 3) := by decide +kernel
theorem zd_Tape_readOn_27 : decode zb_Tape_readOn 27 = .ok (.iaload, 1) := by decide +kernel
theorem zd_Tape_readOn_28 : decode zb_Tape_readOn 28 = .ok (.bipush 32, 2) := by decide +kernel
theorem zd_Tape_readOn_30 : decode zb_Tape_readOn 30 = .ok (.if_icmp .ne 16, 3) := by decide +kernel
theorem zd_Tape_readOn_33 : decode zb_Tape_readOn 33 = .ok (.aload_n 0, 1) := by decide +kernel
theorem zd_Tape_readOn_34 : decode zb_Tape_readOn 34 = .ok (.dup, 1) := by decide +kernel
theorem zd_Tape_readOn_35 : decode zb_Tape_readOn 35 = .ok (.getfield 22, 3) := by decide +kernel
theorem zd_Tape_readOn_38 : decode zb_Tape_readOn 38 = .ok (.iconst 1, 1) := by decide +kernel
theorem zd_Tape_readOn_39 : decode zb_Tape_readOn 39 = .ok (.iadd, 1) := by decide +kernel
theorem zd_Tape_readOn_40 : decode zb_Tape_readOn 40 = .ok (.putfield 22, 3) := by decide +kernel
theorem zd_Tape_readOn_43 : decode zb_Tape_readOn 43 = .ok (.goto (-35), 3) := by decide +kernel
theorem zd_Tape_readOn_46 : decode zb_Tape_readOn 46 = .ok (.aload_n 0, 1) := by decide +kernel
theorem zd_Tape_readOn_47 : decode zb_Tape_readOn 47 = .ok (.aload_n 0, 1) := by decide +kernel
theorem zd_Tape_readOn_48 : decode zb_Tape_readOn 48 = .ok (.getfield 22, 3) := by decide +kernel
theorem zd_Tape_readOn_51 : decode zb_Tape_readOn 51 = .ok (.putfield 15, 3) := by decide +kernel
theorem zd_Tape_readOn_54 : decode zb_Tape_readOn 54 = .ok (.aload_n 0, 1) := by decide +kernel
theorem zd_Tape_readOn_55 : decode zb_Tape_readOn 55 = .ok (.getfield 22, 3) := by decide +kernel
theorem zd_Tape_readOn_58 : decode zb_Tape_readOn 58 = .ok (.aload_n 0, 1) := by decide +kernel
theorem zd_Tape_readOn_59 : decode zb_Tape_readOn 59 = .ok (.getfield 25, 3) := by decide +kernel
theorem zd_Tape_readOn_62 : decode zb_Tape_readOn 62 = .ok (.if_icmp .lt 11, 3) := by decide +kernel
theorem zd_Tape_readOn_65 : decode zb_Tape_readOn 65 = .ok (.aload_n 0, 1) := by decide +kernel
theorem zd_Tape_readOn_66 : decode zb_Tape_readOn 66 = .ok (.iconst 3, 1) := by decide +kernel
theorem zd_Tape_readOn_67 : decode zb_Tape_readOn 67 = .ok (.putfield 28, 3) := by decide +kernel
theorem zd_Tape_readOn_70 : decode zb_Tape_readOn 70 = .ok (.goto 80, 3) := by decide +kernel
theorem zd_Tape_readOn_73 : decode zb_Tape_readOn 73 = .ok (.aload_n 0, 1) := by decide +kernel
theorem zd_Tape_readOn_74 : decode zb_Tape_readOn 74 = .ok (.getfield 9, 3) := by decide +kernel
theorem zd_Tape_readOn_77 : decode zb_Tape_readOn 77 = .ok (.aload_n 0, 1) := by decide +kernel
theorem zd_Tape_readOn_78 : decode zb_Tape_readOn 78 = .ok (.getfield 22, 3) := by decide +kernel
theorem zd_Tape_readOn_81 : decode zb_Tape_readOn 81 = .ok (.iaload, 1) := by decide +kernel
theorem zd_Tape_readOn_82 : decode zb_Tape_readOn 82 = .ok (.invokestatic 31, 3) := by decide +kernel
theorem zd_Tape_readOn_85 : decode zb_Tape_readOn 85 = .ok (.ifCond .eq 10, 3) := by decide +kernel
theorem zd_Tape_readOn_88 : decode zb_Tape_readOn 88 = .ok (.aload_n 0, 1) := by decide +kernel
theorem zd_Tape_readOn_89 : decode zb_Tape_readOn 89 = .ok (.invokevirtual 35, 3) := by decide +kernel
theorem zd_Tape_readOn_92 : decode zb_Tape_readOn 92 = .ok (.goto 58, 3) := by decide +kernel
theorem zd_Tape_readOn_95 : decode zb_Tape_readOn 95 = .ok (.aload_n 0, 1) := by decide +kernel
theorem zd_Tape_readOn_96 : decode zb_Tape_readOn 96 = .ok (.getfield 9, 3) := by decide +kernel
theorem zd_Tape_readOn_99 : decode zb_Tape_readOn 99 = .ok (.aload_n 0, 1) := by decide +kernel
theorem zd_Tape_readOn_100 : decode zb_Tape_readOn 100 = .ok (.getfield 22, 3) := by decide +kernel
theorem zd_Tape_readOn_103 : decode zb_Tape_readOn 103 = .ok (.iaload, 1) := by decide +kernel
theorem zd_Tape_readOn_104 : decode zb_Tape_readOn 104 = .ok (.invokestatic 38, 3) := by decide +kernel
theorem zd_Tape_readOn_107 : decode zb_Tape_readOn 107 = .ok (.ifCond .eq 10, 3) := by decide +kernel
theorem zd_Tape_readOn_110 : decode zb_Tape_readOn 110 = .ok (.aload_n 0, 1) := by decide +kernel
theorem zd_Tape_readOn_111 : decode zb_Tape_readOn 111 = .ok (.invokevirtual 41, 3) := by decide +kernel
theorem zd_Tape_readOn_114 : decode zb_Tape_readOn 114 = .ok (.goto 36, 3) := by decide +kernel
theorem zd_Tape_readOn_117 : decode zb_Tape_readOn 117 = .ok (.aload_n 0, 1) := by decide +kernel
theorem zd_Tape_readOn_118 : decode zb_Tape_readOn 118 = .ok (.aload_n 0, 1) := by decide +kernel
theorem zd_Tape_readOn_119 : decode zb_Tape_readOn 119 = .ok (.getfield 9, 3) := by decide +kernel
theorem zd_Tape_readOn_122 : decode zb_Tape_readOn 122 = .ok (.aload_n 0, 1) := by decide +kernel
theorem zd_Tape_readOn_123 : decode zb_Tape_readOn 123 = .ok (.getfield 22, 3) := by decide +kernel
theorem zd_Tape_readOn_126 : decode zb_Tape_readOn 126 = .ok (.iaload, 1) := by decide +kernel
theorem zd_Tape_readOn_127 : decode zb_Tape_readOn 127 = .ok (.bipush 59, 2) := by decide +kernel
theorem zd_Tape_readOn_129 : decode zb_Tape_readOn 129 = .ok (.if_icmp .ne 7, 3) := by decide +kernel
theorem zd_Tape_readOn_132 : decode zb_Tape_readOn 132 = .ok (.iconst 2, 1) := by decide +kernel
theorem zd_Tape_readOn_133 : decode zb_Tape_readOn 133 = .ok (.goto 4, 3) := by decide +kernel
theorem zd_Tape_readOn_136 : decode zb_Tape_readOn 136 = .ok (.iconst 4, 1) := by decide +kernel
theorem zd_Tape_readOn_137 : decode zb_Tape_readOn 137 = .ok (.putfield 28, 3) := by decide +kernel
theorem zd_Tape_readOn_140 : decode zb_Tape_readOn 140 = .ok (.aload_n 0, 1) := by decide +kernel
theorem zd_Tape_readOn_141 : decode zb_Tape_readOn 141 = .ok (.dup, 1) := by decide +kernel
theorem zd_Tape_readOn_142 : decode zb_Tape_readOn 142 = .ok (.getfield 15, 3) := by decide +kernel
theorem zd_Tape_readOn_145 : decode zb_Tape_readOn 145 = .ok (.iconst 1, 1) := by decide +kernel
theorem zd_Tape_readOn_146 : decode zb_Tape_readOn 146 = .ok (.iadd, 1) := by decide +kernel
theorem zd_Tape_readOn_147 : decode zb_Tape_readOn 147 = .ok (.putfield 15, 3) := by decide +kernel
theorem zd_Tape_readOn_150 : decode zb_Tape_readOn 150 = .ok (.return_, 1) := by decide +kernel
set_option maxHeartbeats 4000000 in
theorem zl_Tape_readOn_L150 {p : Program} {l : Launch} {e : Env} {s : State} {m : MethodId} {args : Array Value} {below : List Frame} {meth : Method} {c : Code} {D : va_G} {cA : Nat → ClassId} {ad : Nat → Nat} {A : Nat → Prop} (B : zu_B p s m args c zb_Tape_readOn 1 "StonePost$Tape" D cA ad A) (hret : meth.sig.returnType = none) (hlk : meth.locks = false) {Y : LX} {res : IX} (X : IX) (H : Heap) (locs : List Loc) (ls : Array Slot) (hP : va_P D zu_cl (zu_pic cA ad X Y) H) (hS : va_S A s.heap H locs) (hl : lv_has ls 1 []) (hf : fn_Tape_readOn_L150 X = some res) : W p l e zR_Tape_readOn s m args below meth c H locs 0 0 (MQ below (zu_Qv D cA ad A res Y) args s 0 0 A) (F0 m 150 ls []) := by
  obtain ⟨hx, hb, hml, hown, hts, hST⟩ := id B
  unfold fn_Tape_readOn_L150 at hf
  obtain rfl := Option.some.inj hf
  exact zr_vret hx hb hret hlk hP hS zd_Tape_readOn_150
set_option maxHeartbeats 4000000 in
theorem zl_Tape_readOn_L137 {p : Program} {l : Launch} {e : Env} {s : State} {m : MethodId} {args : Array Value} {below : List Frame} {meth : Method} {c : Code} {D : va_G} {cA : Nat → ClassId} {ad : Nat → Nat} {A : Nat → Prop} (B : zu_B p s m args c zb_Tape_readOn 1 "StonePost$Tape" D cA ad A) (hret : meth.sig.returnType = none) (hlk : meth.locks = false) {Y : LX} {res : IX} (y0 : Int32) (X : IX) (H : Heap) (locs : List Loc) (ls : Array Slot) (hP : va_P D zu_cl (zu_pic cA ad X Y) H) (hS : va_S A s.heap H locs) (hl : lv_has ls 1 [(0, .ref (ad 8))]) (hf : fn_Tape_readOn_L137 y0 X = some res) : W p l e zR_Tape_readOn s m args below meth c H locs 0 0 (MQ below (zu_Qv D cA ad A res Y) args s 0 0 A) (F0 m 137 ls [.int y0, .ref (ad 8)]) := by
  obtain ⟨hx, hb, hml, hown, hts, hST⟩ := id B
  unfold fn_Tape_readOn_L137 at hf
  refine zp_Tape_token B hP hS hf rfl zq_152 zd_Tape_readOn_137 (fun X23 H locs hf hP hS => ?_)
  refine lv_aload_n hx hb zd_Tape_readOn_140 rfl (lv_at hl 0 rfl) ?_
  refine lv_dup hx hb zd_Tape_readOn_141 rfl ?_
  refine zg_Tape_end B hP rfl zq_157 zd_Tape_readOn_142 ?_
  refine lv_iconst (v := 1) hx hb zd_Tape_readOn_145 (by decide) ?_
  refine lv_iadd hx hb zd_Tape_readOn_146 ?_
  refine zp_Tape_end B hP hS hf rfl zq_157 zd_Tape_readOn_147 (fun X24 H locs hf hP hS => ?_)
  exact zl_Tape_readOn_L150 B hret hlk X24 _ _ _ hP hS (lv_sub hl [] rfl) hf
set_option maxHeartbeats 4000000 in
theorem zl_Tape_readOn_L46 {p : Program} {l : Launch} {e : Env} {s : State} {m : MethodId} {args : Array Value} {below : List Frame} {meth : Method} {c : Code} {D : va_G} {cA : Nat → ClassId} {ad : Nat → Nat} {A : Nat → Prop} (B : zu_B p s m args c zb_Tape_readOn 1 "StonePost$Tape" D cA ad A) (hret : meth.sig.returnType = none) (hlk : meth.locks = false) {Y : LX} {res : IX} (X : IX) (H : Heap) (locs : List Loc) (ls : Array Slot) (hP : va_P D zu_cl (zu_pic cA ad X Y) H) (hS : va_S A s.heap H locs) (hl : lv_has ls 1 [(0, .ref (ad 8))]) (hf : fn_Tape_readOn_L46 X = some res) : W p l e zR_Tape_readOn s m args below meth c H locs 0 0 (MQ below (zu_Qv D cA ad A res Y) args s 0 0 A) (F0 m 46 ls []) := by
  obtain ⟨hx, hb, hml, hown, hts, hST⟩ := id B
  unfold fn_Tape_readOn_L46 at hf
  refine lv_aload_n hx hb zd_Tape_readOn_46 rfl (lv_at hl 0 rfl) ?_
  refine lv_aload_n hx hb zd_Tape_readOn_47 rfl (lv_at hl 0 rfl) ?_
  refine zg_Tape_start B hP rfl zq_154 zd_Tape_readOn_48 ?_
  refine zp_Tape_end B hP hS hf rfl zq_157 zd_Tape_readOn_51 (fun X6 H locs hf hP hS => ?_)
  refine lv_aload_n hx hb zd_Tape_readOn_54 rfl (lv_at hl 0 rfl) ?_
  refine zg_Tape_start B hP rfl zq_154 zd_Tape_readOn_55 ?_
  refine lv_aload_n hx hb zd_Tape_readOn_58 rfl (lv_at hl 0 rfl) ?_
  refine zg_Tape_length B hP rfl zq_149 zd_Tape_readOn_59 ?_
  refine lv_icmp_lt (tgt := 73) hx hb zd_Tape_readOn_62 (by decide) (fun c7 => ?_) (fun c7 => ?_)
  · have hf := zu_t c7 hf
    refine lv_aload_n hx hb zd_Tape_readOn_73 rfl (lv_at hl 0 rfl) ?_
    refine zg_Tape_bytes B hP rfl zq_147 zd_Tape_readOn_74 ?_
    refine lv_aload_n hx hb zd_Tape_readOn_77 rfl (lv_at hl 0 rfl) ?_
    refine zg_Tape_start B hP rfl zq_154 zd_Tape_readOn_78 ?_
    obtain ⟨hg8, hf⟩ := zu_gd_e hf
    refine zr_iald rfl B hP rfl (by decide) rfl hg8 zd_Tape_readOn_81 ?_
    obtain ⟨v9, hq10, hf⟩ := zu_b1_e hf
    refine zw_Tape_isLetterByte (rest := []) B hP hS hq10 zq_636 (Nat.le_of_ble_eq_true rfl) (Nat.le_of_ble_eq_true rfl) hl.1 rfl (Nat.le_of_ble_eq_true rfl) zd_Tape_readOn_82 (by decide) (fun H locs hP hS => ?_)
    clear hq10
    refine lv_if_eq (tgt := 95) hx hb zd_Tape_readOn_85 (by decide) (fun c11 => ?_) (fun c11 => ?_)
    · have hf := zu_t c11 hf
      refine lv_aload_n hx hb zd_Tape_readOn_95 rfl (lv_at hl 0 rfl) ?_
      refine zg_Tape_bytes B hP rfl zq_147 zd_Tape_readOn_96 ?_
      refine lv_aload_n hx hb zd_Tape_readOn_99 rfl (lv_at hl 0 rfl) ?_
      refine zg_Tape_start B hP rfl zq_154 zd_Tape_readOn_100 ?_
      obtain ⟨hg12, hf⟩ := zu_gd_e hf
      refine zr_iald rfl B hP rfl (by decide) rfl hg12 zd_Tape_readOn_103 ?_
      obtain ⟨v13, hq14, hf⟩ := zu_b1_e hf
      refine zw_Tape_isDigit (rest := []) B hP hS hq14 zq_643 (Nat.le_of_ble_eq_true rfl) (Nat.le_of_ble_eq_true rfl) hl.1 rfl (Nat.le_of_ble_eq_true rfl) zd_Tape_readOn_104 (by decide) (fun H locs hP hS => ?_)
      clear hq14
      refine lv_if_eq (tgt := 117) hx hb zd_Tape_readOn_107 (by decide) (fun c15 => ?_) (fun c15 => ?_)
      · have hf := zu_t c15 hf
        refine lv_aload_n hx hb zd_Tape_readOn_117 rfl (lv_at hl 0 rfl) ?_
        refine lv_aload_n hx hb zd_Tape_readOn_118 rfl (lv_at hl 0 rfl) ?_
        refine zg_Tape_bytes B hP rfl zq_147 zd_Tape_readOn_119 ?_
        refine lv_aload_n hx hb zd_Tape_readOn_122 rfl (lv_at hl 0 rfl) ?_
        refine zg_Tape_start B hP rfl zq_154 zd_Tape_readOn_123 ?_
        obtain ⟨hg16, hf⟩ := zu_gd_e hf
        refine zr_iald rfl B hP rfl (by decide) rfl hg16 zd_Tape_readOn_126 ?_
        refine lv_bipush (v := 59) hx hb zd_Tape_readOn_127 (by decide) ?_
        refine lv_icmp_ne (tgt := 136) hx hb zd_Tape_readOn_129 (by decide) (fun c17 => ?_) (fun c17 => ?_)
        · have hf := zu_f c17 hf
          refine lv_iconst (v := 4) hx hb zd_Tape_readOn_136 (by decide) ?_
          exact zl_Tape_readOn_L137 B hret hlk (4 : Int32) X6 _ _ _ hP hS (lv_sub hl [0] rfl) hf
        · have hf := zu_t c17 hf
          refine lv_iconst (v := 2) hx hb zd_Tape_readOn_132 (by decide) ?_
          refine lv_goto (tgt := 137) hx hb zd_Tape_readOn_133 (by decide) ?_
          exact zl_Tape_readOn_L137 B hret hlk (2 : Int32) X6 _ _ _ hP hS (lv_sub hl [0] rfl) hf
      · have hf := zu_f c15 hf
        refine lv_aload_n hx hb zd_Tape_readOn_110 rfl (lv_at hl 0 rfl) ?_
        obtain ⟨X18, hq19, hf⟩ := zu_b1_e hf
        refine zw_Tape_readNumber (rest := []) B hP hS hq19 zq_646 (Nat.le_of_ble_eq_true rfl) (Nat.le_of_ble_eq_true rfl) hl.1 rfl (Nat.le_of_ble_eq_true rfl) zd_Tape_readOn_111 (by decide) (fun H locs hP hS => ?_)
        clear hq19
        refine lv_goto (tgt := 150) hx hb zd_Tape_readOn_114 (by decide) ?_
        exact zl_Tape_readOn_L150 B hret hlk X18 _ _ _ hP hS (lv_sub hl [] rfl) hf
    · have hf := zu_f c11 hf
      refine lv_aload_n hx hb zd_Tape_readOn_88 rfl (lv_at hl 0 rfl) ?_
      obtain ⟨X20, hq21, hf⟩ := zu_b1_e hf
      refine zw_Tape_readWord (rest := []) B hP hS hq21 zq_639 (Nat.le_of_ble_eq_true rfl) (Nat.le_of_ble_eq_true rfl) hl.1 rfl (Nat.le_of_ble_eq_true rfl) zd_Tape_readOn_89 (by decide) (fun H locs hP hS => ?_)
      clear hq21
      refine lv_goto (tgt := 150) hx hb zd_Tape_readOn_92 (by decide) ?_
      exact zl_Tape_readOn_L150 B hret hlk X20 _ _ _ hP hS (lv_sub hl [] rfl) hf
  · have hf := zu_f c7 hf
    refine lv_aload_n hx hb zd_Tape_readOn_65 rfl (lv_at hl 0 rfl) ?_
    refine lv_iconst (v := 3) hx hb zd_Tape_readOn_66 (by decide) ?_
    refine zp_Tape_token B hP hS hf rfl zq_152 zd_Tape_readOn_67 (fun X22 H locs hf hP hS => ?_)
    refine lv_goto (tgt := 150) hx hb zd_Tape_readOn_70 (by decide) ?_
    exact zl_Tape_readOn_L150 B hret hlk X22 _ _ _ hP hS (lv_sub hl [] rfl) hf
set_option maxHeartbeats 4000000 in
theorem zl_Tape_readOn_B8 {p : Program} {l : Launch} {e : Env} {s : State} {m : MethodId} {args : Array Value} {below : List Frame} {meth : Method} {c : Code} {D : va_G} {cA : Nat → ClassId} {ad : Nat → Nat} {A : Nat → Prop} (B : zu_B p s m args c zb_Tape_readOn 1 "StonePost$Tape" D cA ad A) (hret : meth.sig.returnType = none) (hlk : meth.locks = false) {Y : LX} {res : IX} {k8 : IX → Option IX} (hk8 : ∀ (X : IX) (H : Heap) (locs : List Loc) (ls : Array Slot), va_P D zu_cl (zu_pic cA ad X Y) H → va_S A s.heap H locs → lv_has ls 1 [(0, .ref (ad 8))] → k8 X = some res → W p l e zR_Tape_readOn s m args below meth c H locs 0 0 (MQ below (zu_Qv D cA ad A res Y) args s 0 0 A) (F0 m 8 ls [])) (X : IX) (H : Heap) (locs : List Loc) (ls : Array Slot) (hP : va_P D zu_cl (zu_pic cA ad X Y) H) (hS : va_S A s.heap H locs) (hl : lv_has ls 1 [(0, .ref (ad 8))]) (hf : fn_Tape_readOn_B8 k8 X = some res) : W p l e zR_Tape_readOn s m args below meth c H locs 0 0 (MQ below (zu_Qv D cA ad A res Y) args s 0 0 A) (F0 m 8 ls []) := by
  obtain ⟨hx, hb, hml, hown, hts, hST⟩ := id B
  unfold fn_Tape_readOn_B8 at hf
  refine lv_aload_n hx hb zd_Tape_readOn_8 rfl (lv_at hl 0 rfl) ?_
  refine zg_Tape_start B hP rfl zq_154 zd_Tape_readOn_9 ?_
  refine lv_aload_n hx hb zd_Tape_readOn_12 rfl (lv_at hl 0 rfl) ?_
  refine zg_Tape_length B hP rfl zq_149 zd_Tape_readOn_13 ?_
  refine lv_icmp_ge (tgt := 46) hx hb zd_Tape_readOn_16 (by decide) (fun c2 => ?_) (fun c2 => ?_)
  · have hf := zu_t c2 hf
    exact zl_Tape_readOn_L46 B hret hlk X _ _ _ hP hS (lv_sub hl [0] rfl) hf
  · have hf := zu_f c2 hf
    refine lv_aload_n hx hb zd_Tape_readOn_19 rfl (lv_at hl 0 rfl) ?_
    refine zg_Tape_bytes B hP rfl zq_147 zd_Tape_readOn_20 ?_
    refine lv_aload_n hx hb zd_Tape_readOn_23 rfl (lv_at hl 0 rfl) ?_
    refine zg_Tape_start B hP rfl zq_154 zd_Tape_readOn_24 ?_
    obtain ⟨hg3, hf⟩ := zu_gd_e hf
    refine zr_iald rfl B hP rfl (by decide) rfl hg3 zd_Tape_readOn_27 ?_
    refine lv_bipush (v := 32) hx hb zd_Tape_readOn_28 (by decide) ?_
    refine lv_icmp_ne (tgt := 46) hx hb zd_Tape_readOn_30 (by decide) (fun c4 => ?_) (fun c4 => ?_)
    · have hf := zu_f c4 hf
      exact zl_Tape_readOn_L46 B hret hlk X _ _ _ hP hS (lv_sub hl [0] rfl) hf
    · have hf := zu_t c4 hf
      refine lv_aload_n hx hb zd_Tape_readOn_33 rfl (lv_at hl 0 rfl) ?_
      refine lv_dup hx hb zd_Tape_readOn_34 rfl ?_
      refine zg_Tape_start B hP rfl zq_154 zd_Tape_readOn_35 ?_
      refine lv_iconst (v := 1) hx hb zd_Tape_readOn_38 (by decide) ?_
      refine lv_iadd hx hb zd_Tape_readOn_39 ?_
      refine zp_Tape_start B hP hS hf rfl zq_154 zd_Tape_readOn_40 (fun X5 H locs hf hP hS => ?_)
      refine lv_goto (tgt := 8) hx hb zd_Tape_readOn_43 (by decide) ?_
      exact hk8 X5 _ _ _ hP hS (lv_sub hl [0] rfl) hf
theorem zl_Tape_readOn_L8 {p : Program} {l : Launch} {e : Env} {s : State} {m : MethodId} {args : Array Value} {below : List Frame} {meth : Method} {c : Code} {D : va_G} {cA : Nat → ClassId} {ad : Nat → Nat} {A : Nat → Prop} (B : zu_B p s m args c zb_Tape_readOn 1 "StonePost$Tape" D cA ad A) (hret : meth.sig.returnType = none) (hlk : meth.locks = false) {Y : LX} {res : IX} : ∀ (n : Nat) (X : IX) (H : Heap) (locs : List Loc) (ls : Array Slot), va_P D zu_cl (zu_pic cA ad X Y) H → va_S A s.heap H locs → lv_has ls 1 [(0, .ref (ad 8))] → fn_Tape_readOn_L8 n X = some res → W p l e zR_Tape_readOn s m args below meth c H locs 0 0 (MQ below (zu_Qv D cA ad A res Y) args s 0 0 A) (F0 m 8 ls []) := by
  intro n
  induction n with
  | zero =>
    intro X H locs ls hP hS hl hf
    exact (Option.some_ne_none _ hf.symm).elim
  | succ n ih =>
    intro X H locs ls hP hS hl hf
    exact zl_Tape_readOn_B8 B hret hlk ih X H locs ls hP hS hl  hf
set_option maxHeartbeats 4000000 in
theorem zl_Tape_readOn {p : Program} {l : Launch} {e : Env} {s : State} {m : MethodId} {args : Array Value} {below : List Frame} {meth : Method} {c : Code} {D : va_G} {cA : Nat → ClassId} {ad : Nat → Nat} {A : Nat → Prop} (B : zu_B p s m args c zb_Tape_readOn 1 "StonePost$Tape" D cA ad A) (hret : meth.sig.returnType = none) (hlk : meth.locks = false) {Y : LX} {res : IX} {X : IX} (H : Heap) (locs : List Loc) (ls : Array Slot) (hP : va_P D zu_cl (zu_pic cA ad X Y) H) (hS : va_S A s.heap H locs) (hl : lv_has ls 1 [(0, .ref (ad 8))]) (hf : fn_Tape_readOn X = some res) : W p l e zR_Tape_readOn s m args below meth c H locs 0 0 (MQ below (zu_Qv D cA ad A res Y) args s 0 0 A) (F0 m 0 ls []) := by
  obtain ⟨hx, hb, hml, hown, hts, hST⟩ := id B
  unfold fn_Tape_readOn at hf
  refine lv_aload_n hx hb zd_Tape_readOn_0 rfl (lv_at hl 0 rfl) ?_
  refine lv_aload_n hx hb zd_Tape_readOn_1 rfl (lv_at hl 0 rfl) ?_
  refine zg_Tape_end B hP rfl zq_157 zd_Tape_readOn_2 ?_
  refine zp_Tape_start B hP hS hf rfl zq_154 zd_Tape_readOn_5 (fun X1 H locs hf hP hS => ?_)
  exact zl_Tape_readOn_L8 B hret hlk 400 X1 _ _ _ hP hS (lv_sub hl [0] rfl) hf
theorem zC_Tape_readOn (l : Launch) {D : va_G} {cA : Nat → ClassId} {ad : Nat → Nat} {A : Nat → Prop} {X : IX} {Y : LX} {res : IX} (hf : fn_Tape_readOn X = some res) : Met l zm_Tape_readOn (zu_ws zm_Tape_readOn zb_Tape_readOn 1 none) zR_Tape_readOn (va_Pc [.ref (ad 8)] (zu_Pre D cA ad A X Y)) (zu_Qv D cA ad A res Y) 0 0 A := by
  refine Met.ofW (cc := zb_Tape_readOn) (maxL := 1) (ret := none) (by decide +kernel) rfl ?_
  intro p e s m args below meth c s₁ B0 hml hv
  obtain ⟨rfl, hP, hST⟩ := hv
  have B : zu_B p s m _ c zb_Tape_readOn 1 "StonePost$Tape" D cA ad A := ⟨B0.exec, B0.bytes, hml, findClass_of_methodNamed B0.named, (fun w hw => atoms_spec (ws := zu_ws zm_Tape_readOn zb_Tape_readOn 1 none) B0.pre w (List.mem_cons_of_mem _ hw)), hST⟩
  have hl := lv_entry ([.ref (ad 8)]) (n := 1) (Nat.le_of_ble_eq_true rfl)
  rw [lg_entry_eq]
  generalize (lg_sl ([.ref (ad 8)]) ++ List.replicate (1 - (lg_sl ([.ref (ad 8)])).length) Slot.unset).toArray = ls at hl ⊢
  exact zl_Tape_readOn B B0.returns B0.notSynchronized s.heap [] ls hP va_S.rf hl  hf
theorem zw_Tape_readOn {p : Program} {l : Launch} {e : Env} {R : Room} {s : State} {m : MethodId} {args : Array Value} {below : List Frame} {meth : Method} {c : Code} {H : Heap} {locs : List Loc} {cells slots : Nat} {Q : State → Prop} {cc : ByteArray} {pc nL : Nat} {ls : Array Slot} {rest st0 : List Value} {D : va_G} {cA : Nat → ClassId} {ad : Nat → Nat} {A : Nat → Prop} {X : IX} {Y : LX} {own : String} {index : Nat} {X1 : IX} (B : zu_B p s m args c cc nL own D cA ad A) (hP : va_P D zu_cl (zu_pic cA ad X Y) H) (hS : va_S A s.heap H locs) (hq : fn_Tape_readOn X = some X1) (m1 : Cond.methodLink own index zm_Tape_readOn ∈ zu_TB) (hR1 : 2 + 1 ≤ R.frames) (hR2 : 8 + (1 + 11) + 41 ≤ R.locals) (hsz : ls.size = nL) (hst : st0 = .ref (ad 8) :: rest) (hw : (rest.map fun v => v.category).sum ≤ 8) (hdg : decode cc pc = .ok (.invokevirtual index, 3)) (h00 : cells ≤ R.cells ∧ slots ≤ R.slots) (kk : ∀ (H1 : Heap) (locs1 : List Loc), va_P D zu_cl (zu_pic cA ad X1 Y) H1 → va_S A s.heap H1 locs1 → W p l e R s m args below meth c H1 locs1 cells slots Q (F0 m (pc + 3) ls (rest))) : W p l e R s m args below meth c H locs cells slots Q (F0 m pc ls st0) := by
  subst hst
  exact zr_cVv (As := []) (rest := rest) (n := 0) (C := "StonePost$Tape") (T := zt_Tape) (N := 6) B hP hS (zC_Tape_readOn l  hq) (K := 3) rfl (by decide) (by decide) rfl rfl m1 zq_633 zq_634 zq_6 zq_635 (by decide +kernel) ⟨hR1, hR2⟩ rfl rfl rfl hsz rfl hw hdg h00 kk
abbrev zR_Tape_readFirst : Room := { frames := 3, cells := 0, slots := 0, locals := 61 }
theorem zd_Tape_readFirst_0 : decode zb_Tape_readFirst 0 = .ok (.aload_n 0, 1) := by decide +kernel
theorem zd_Tape_readFirst_1 : decode zb_Tape_readFirst 1 = .ok (.iconst 0, 1) := by decide +kernel
theorem zd_Tape_readFirst_2 : decode zb_Tape_readFirst 2 = .ok (.putfield 15, 3) := by decide +kernel
theorem zd_Tape_readFirst_5 : decode zb_Tape_readFirst 5 = .ok (.aload_n 0, 1) := by decide +kernel
theorem zd_Tape_readFirst_6 : decode zb_Tape_readFirst 6 = .ok (.invokevirtual 19, 3) := by decide +kernel
theorem zd_Tape_readFirst_9 : decode zb_Tape_readFirst 9 = .ok (.return_, 1) := by decide +kernel
set_option maxHeartbeats 4000000 in
theorem zl_Tape_readFirst {p : Program} {l : Launch} {e : Env} {s : State} {m : MethodId} {args : Array Value} {below : List Frame} {meth : Method} {c : Code} {D : va_G} {cA : Nat → ClassId} {ad : Nat → Nat} {A : Nat → Prop} (B : zu_B p s m args c zb_Tape_readFirst 1 "StonePost$Tape" D cA ad A) (hret : meth.sig.returnType = none) (hlk : meth.locks = false) {Y : LX} {res : IX} {X : IX} (H : Heap) (locs : List Loc) (ls : Array Slot) (hP : va_P D zu_cl (zu_pic cA ad X Y) H) (hS : va_S A s.heap H locs) (hl : lv_has ls 1 [(0, .ref (ad 8))]) (hf : fn_Tape_readFirst X = some res) : W p l e zR_Tape_readFirst s m args below meth c H locs 0 0 (MQ below (zu_Qv D cA ad A res Y) args s 0 0 A) (F0 m 0 ls []) := by
  obtain ⟨hx, hb, hml, hown, hts, hST⟩ := id B
  unfold fn_Tape_readFirst at hf
  refine lv_aload_n hx hb zd_Tape_readFirst_0 rfl (lv_at hl 0 rfl) ?_
  refine lv_iconst (v := 0) hx hb zd_Tape_readFirst_1 (by decide) ?_
  refine zp_Tape_end B hP hS hf rfl zq_157 zd_Tape_readFirst_2 (fun X1 H locs hf hP hS => ?_)
  refine lv_aload_n hx hb zd_Tape_readFirst_5 rfl (lv_at hl 0 rfl) ?_
  obtain ⟨X2, hq3, hf⟩ := zu_b1_e hf
  refine zw_Tape_readOn (rest := []) B hP hS hq3 zq_632 (Nat.le_of_ble_eq_true rfl) (Nat.le_of_ble_eq_true rfl) hl.1 rfl (Nat.le_of_ble_eq_true rfl) zd_Tape_readFirst_6 (by decide) (fun H locs hP hS => ?_)
  clear hq3
  obtain rfl := Option.some.inj hf
  exact zr_vret hx hb hret hlk hP hS zd_Tape_readFirst_9
theorem zC_Tape_readFirst (l : Launch) {D : va_G} {cA : Nat → ClassId} {ad : Nat → Nat} {A : Nat → Prop} {X : IX} {Y : LX} {res : IX} (hf : fn_Tape_readFirst X = some res) : Met l zm_Tape_readFirst (zu_ws zm_Tape_readFirst zb_Tape_readFirst 1 none) zR_Tape_readFirst (va_Pc [.ref (ad 8)] (zu_Pre D cA ad A X Y)) (zu_Qv D cA ad A res Y) 0 0 A := by
  refine Met.ofW (cc := zb_Tape_readFirst) (maxL := 1) (ret := none) (by decide +kernel) rfl ?_
  intro p e s m args below meth c s₁ B0 hml hv
  obtain ⟨rfl, hP, hST⟩ := hv
  have B : zu_B p s m _ c zb_Tape_readFirst 1 "StonePost$Tape" D cA ad A := ⟨B0.exec, B0.bytes, hml, findClass_of_methodNamed B0.named, (fun w hw => atoms_spec (ws := zu_ws zm_Tape_readFirst zb_Tape_readFirst 1 none) B0.pre w (List.mem_cons_of_mem _ hw)), hST⟩
  have hl := lv_entry ([.ref (ad 8)]) (n := 1) (Nat.le_of_ble_eq_true rfl)
  rw [lg_entry_eq]
  generalize (lg_sl ([.ref (ad 8)]) ++ List.replicate (1 - (lg_sl ([.ref (ad 8)])).length) Slot.unset).toArray = ls at hl ⊢
  exact zl_Tape_readFirst B B0.returns B0.notSynchronized s.heap [] ls hP va_S.rf hl  hf
theorem zw_Tape_readFirst {p : Program} {l : Launch} {e : Env} {R : Room} {s : State} {m : MethodId} {args : Array Value} {below : List Frame} {meth : Method} {c : Code} {H : Heap} {locs : List Loc} {cells slots : Nat} {Q : State → Prop} {cc : ByteArray} {pc nL : Nat} {ls : Array Slot} {rest st0 : List Value} {D : va_G} {cA : Nat → ClassId} {ad : Nat → Nat} {A : Nat → Prop} {X : IX} {Y : LX} {own : String} {index : Nat} {X1 : IX} (B : zu_B p s m args c cc nL own D cA ad A) (hP : va_P D zu_cl (zu_pic cA ad X Y) H) (hS : va_S A s.heap H locs) (hq : fn_Tape_readFirst X = some X1) (m1 : Cond.methodLink own index zm_Tape_readFirst ∈ zu_TB) (hR1 : 3 + 1 ≤ R.frames) (hR2 : 8 + (1 + 11) + 61 ≤ R.locals) (hsz : ls.size = nL) (hst : st0 = .ref (ad 8) :: rest) (hw : (rest.map fun v => v.category).sum ≤ 8) (hdg : decode cc pc = .ok (.invokevirtual index, 3)) (h00 : cells ≤ R.cells ∧ slots ≤ R.slots) (kk : ∀ (H1 : Heap) (locs1 : List Loc), va_P D zu_cl (zu_pic cA ad X1 Y) H1 → va_S A s.heap H1 locs1 → W p l e R s m args below meth c H1 locs1 cells slots Q (F0 m (pc + 3) ls (rest))) : W p l e R s m args below meth c H locs cells slots Q (F0 m pc ls st0) := by
  subst hst
  exact zr_cVv (As := []) (rest := rest) (n := 0) (C := "StonePost$Tape") (T := zt_Tape) (N := 6) B hP hS (zC_Tape_readFirst l  hq) (K := 3) rfl (by decide) (by decide) rfl rfl m1 zq_629 zq_630 zq_6 zq_631 (by decide +kernel) ⟨hR1, hR2⟩ rfl rfl rfl hsz rfl hw hdg h00 kk
abbrev zR_Str_coder : Room := { frames := 0, cells := 0, slots := 0, locals := 0 }
theorem zd_Str_coder_0 : decode zb_Str_coder 0 = .ok (.getstatic 38, 3) := by decide +kernel
theorem zd_Str_coder_3 : decode zb_Str_coder 3 = .ok (.ifCond .eq 10, 3) := by decide +kernel
theorem zd_Str_coder_6 : decode zb_Str_coder 6 = .ok (.aload_n 0, 1) := by decide +kernel
theorem zd_Str_coder_7 : decode zb_Str_coder 7 = .ok (.getfield 15, 3) := by decide +kernel
theorem zd_Str_coder_10 : decode zb_Str_coder 10 = .ok (.goto 4, 3) := by decide +kernel
theorem zd_Str_coder_14 : decode zb_Str_coder 14 = .ok (.ireturn, 1) := by decide +kernel
set_option maxHeartbeats 4000000 in
theorem zl_Str_coder_L14 {p : Program} {l : Launch} {e : Env} {s : State} {m : MethodId} {args : Array Value} {below : List Frame} {meth : Method} {c : Code} {D : va_G} {cA : Nat → ClassId} {ad : Nat → Nat} {A : Nat → Prop} (B : zu_B p s m args c zb_Str_coder 1 "java/lang/String" D cA ad A) (hret : meth.sig.returnType = (some .byte)) (hlk : meth.locks = false) {X : IX} {Y : LX} {res : Int32} (y0 : Int32) (H : Heap) (locs : List Loc) (ls : Array Slot) (hP : va_P D zu_cl (zu_pic cA ad X Y) H) (hS : va_S A s.heap H locs) (hl : lv_has ls 1 []) (hf : fn_Str_coder_L14 y0 = some res) : W p l e zR_Str_coder s m args below meth c H locs 0 0 (MQ below (zu_Qi D cA ad A res X Y) args s 0 0 A) (F0 m 14 ls [.int y0]) := by
  obtain ⟨hx, hb, hml, hown, hts, hST⟩ := id B
  unfold fn_Str_coder_L14 at hf
  obtain ⟨hg2, hf⟩ := zu_gd_e hf
  obtain rfl := Option.some.inj hf
  exact zr_bret hx hb hret hlk hP hS hg2 zd_Str_coder_14
set_option maxHeartbeats 4000000 in
theorem zl_Str_coder {p : Program} {l : Launch} {e : Env} {s : State} {m : MethodId} {args : Array Value} {below : List Frame} {meth : Method} {c : Code} {D : va_G} {cA : Nat → ClassId} {ad : Nat → Nat} {A : Nat → Prop} (B : zu_B p s m args c zb_Str_coder 1 "java/lang/String" D cA ad A) (hret : meth.sig.returnType = (some .byte)) (hlk : meth.locks = false) {X : IX} {Y : LX} {res : Int32} {r0 : Nat} (H : Heap) (locs : List Loc) (ls : Array Slot) (hP : va_P D zu_cl (zu_pic cA ad X Y) H) (hS : va_S A s.heap H locs) (hl : lv_has ls 1 [(0, .ref (ad (200 + r0)))]) (hr0 : r0 < 20) (hf : fn_Str_coder r0 = some res) : W p l e zR_Str_coder s m args below meth c H locs 0 0 (MQ below (zu_Qi D cA ad A res X Y) args s 0 0 A) (F0 m 0 ls []) := by
  obtain ⟨hx, hb, hml, hown, hts, hST⟩ := id B
  unfold fn_Str_coder at hf
  refine va_gets hx hb hST.2.2.2.1.2.1 hS hown (hts _ zq_670) (fun _ h9 => h9) zd_Str_coder_0 ?_
  refine lv_if_eq (tgt := 13) hx hb zd_Str_coder_3 (by decide) (fun c1 => ?_) (fun c1 => ?_)
  · exact absurd c1 (by decide)
  · refine lv_aload_n hx hb zd_Str_coder_6 rfl (lv_at hl 0 rfl) ?_
    refine vk_getf hx hb (hST.2.2.2.1.1.1 r0 hr0).2.1 hS hown (hts _ zq_1396) (fun _ h9 => h9) zd_Str_coder_7 ?_
    refine lv_goto (tgt := 14) hx hb zd_Str_coder_10 (by decide) ?_
    exact zl_Str_coder_L14 B hret hlk (0 : Int32) _ _ _ hP hS (lv_sub hl [] rfl) hf
theorem zC_Str_coder (l : Launch) {D : va_G} {cA : Nat → ClassId} {ad : Nat → Nat} {A : Nat → Prop} {r0 : Nat} {X : IX} {Y : LX} {res : Int32} (hr0 : r0 < 20) (hf : fn_Str_coder r0 = some res) : Met l zm_Str_coder (zu_ws zm_Str_coder zb_Str_coder 1 (some .byte)) zR_Str_coder (va_Pc [.ref (ad (200 + r0))] (zu_Pre D cA ad A X Y)) (zu_Qi D cA ad A res X Y) 0 0 A := by
  refine Met.ofW (cc := zb_Str_coder) (maxL := 1) (ret := (some .byte)) (by decide +kernel) rfl ?_
  intro p e s m args below meth c s₁ B0 hml hv
  obtain ⟨rfl, hP, hST⟩ := hv
  have B : zu_B p s m _ c zb_Str_coder 1 "java/lang/String" D cA ad A := ⟨B0.exec, B0.bytes, hml, findClass_of_methodNamed B0.named, (fun w hw => atoms_spec (ws := zu_ws zm_Str_coder zb_Str_coder 1 (some .byte)) B0.pre w (List.mem_cons_of_mem _ hw)), hST⟩
  have hl := lv_entry ([.ref (ad (200 + r0))]) (n := 1) (Nat.le_of_ble_eq_true rfl)
  rw [lg_entry_eq]
  generalize (lg_sl ([.ref (ad (200 + r0))]) ++ List.replicate (1 - (lg_sl ([.ref (ad (200 + r0))])).length) Slot.unset).toArray = ls at hl ⊢
  exact zl_Str_coder B B0.returns B0.notSynchronized s.heap [] ls hP va_S.rf hl hr0 hf
theorem zw_Str_coder {p : Program} {l : Launch} {e : Env} {R : Room} {s : State} {m : MethodId} {args : Array Value} {below : List Frame} {meth : Method} {c : Code} {H : Heap} {locs : List Loc} {cells slots : Nat} {Q : State → Prop} {cc : ByteArray} {pc nL : Nat} {ls : Array Slot} {rest st0 : List Value} {D : va_G} {cA : Nat → ClassId} {ad : Nat → Nat} {A : Nat → Prop} {X : IX} {Y : LX} {own : String} {index : Nat} {r0 : Nat} {v1 : Int32} (B : zu_B p s m args c cc nL own D cA ad A) (hP : va_P D zu_cl (zu_pic cA ad X Y) H) (hS : va_S A s.heap H locs) (hr0 : r0 < 20) (hq : fn_Str_coder r0 = some v1) (m1 : Cond.methodLink own index zm_Str_coder ∈ zu_TB) (hR1 : 0 + 1 ≤ R.frames) (hR2 : 8 + (1 + 11) + 0 ≤ R.locals) (hsz : ls.size = nL) (hst : st0 = .ref (ad (200 + r0)) :: rest) (hw : (rest.map fun v => v.category).sum ≤ 8) (hdg : decode cc pc = .ok (.invokevirtual index, 3)) (h00 : cells ≤ R.cells ∧ slots ≤ R.slots) (kk : ∀ (H1 : Heap) (locs1 : List Loc), va_P D zu_cl (zu_pic cA ad X Y) H1 → va_S A s.heap H1 locs1 → W p l e R s m args below meth c H1 locs1 cells slots Q (F0 m (pc + 3) ls (.int v1 :: rest))) : W p l e R s m args below meth c H locs cells slots Q (F0 m pc ls st0) := by
  subst hst
  exact zr_cUi (As := []) (rest := rest) (n := 0) B hP hS hr0 (zC_Str_coder l hr0 hq) m1 zq_667 zq_668 zq_13 zq_669 (by decide +kernel) ⟨hR1, hR2⟩ rfl rfl rfl hsz rfl hw hdg h00 kk
abbrev zR_Str_length : Room := { frames := 1, cells := 0, slots := 0, locals := 20 }
theorem zd_Str_length_0 : decode zb_Str_length 0 = .ok (.aload_n 0, 1) := by decide +kernel
theorem zd_Str_length_1 : decode zb_Str_length 1 = .ok (.getfield 9, 3) := by decide +kernel
theorem zd_Str_length_4 : decode zb_Str_length 4 = .ok (.arraylength, 1) := by decide +kernel
theorem zd_Str_length_5 : decode zb_Str_length 5 = .ok (.aload_n 0, 1) := by decide +kernel
theorem zd_Str_length_6 : decode zb_Str_length 6 = .ok (.invokevirtual 335, 3) := by decide +kernel
theorem zd_Str_length_9 : decode zb_Str_length 9 = .ok (.ishr, 1) := by decide +kernel
theorem zd_Str_length_10 : decode zb_Str_length 10 = .ok (.ireturn, 1) := by decide +kernel
set_option maxHeartbeats 4000000 in
theorem zl_Str_length {p : Program} {l : Launch} {e : Env} {s : State} {m : MethodId} {args : Array Value} {below : List Frame} {meth : Method} {c : Code} {D : va_G} {cA : Nat → ClassId} {ad : Nat → Nat} {A : Nat → Prop} (B : zu_B p s m args c zb_Str_length 1 "java/lang/String" D cA ad A) (hret : meth.sig.returnType = (some .int)) (hlk : meth.locks = false) {X : IX} {Y : LX} {res : Int32} {r0 : Nat} (H : Heap) (locs : List Loc) (ls : Array Slot) (hP : va_P D zu_cl (zu_pic cA ad X Y) H) (hS : va_S A s.heap H locs) (hl : lv_has ls 1 [(0, .ref (ad (200 + r0)))]) (hr0 : r0 < 20) (hf : fn_Str_length r0 = some res) : W p l e zR_Str_length s m args below meth c H locs 0 0 (MQ below (zu_Qi D cA ad A res X Y) args s 0 0 A) (F0 m 0 ls []) := by
  obtain ⟨hx, hb, hml, hown, hts, hST⟩ := id B
  unfold fn_Str_length at hf
  refine lv_aload_n hx hb zd_Str_length_0 rfl (lv_at hl 0 rfl) ?_
  refine vk_getf hx hb (hST.2.2.2.1.1.1 r0 hr0).2.2.1 hS hown (hts _ zq_1395) (fun _ h9 => h9) zd_Str_length_1 ?_
  refine va_tlen hx hb (hST.2.2.2.1.1.1 r0 hr0).2.2.2 hS (v := nI (zs_len.getD r0 0)) rfl zd_Str_length_4 ?_
  refine lv_aload_n hx hb zd_Str_length_5 rfl (lv_at hl 0 rfl) ?_
  obtain ⟨v1, hq2, hf⟩ := zu_b1_e hf
  refine zw_Str_coder (rest := [.int (nI (zs_len.getD r0 0))]) B hP hS hr0 hq2 zq_666 (Nat.le_of_ble_eq_true rfl) (Nat.le_of_ble_eq_true rfl) hl.1 rfl (Nat.le_of_ble_eq_true rfl) zd_Str_length_6 (by decide) (fun H locs hP hS => ?_)
  clear hq2
  refine lv_ishr hx hb zd_Str_length_9 ?_
  obtain rfl := Option.some.inj hf
  exact zr_iret hx hb hret hlk hP hS zd_Str_length_10
theorem zC_Str_length (l : Launch) {D : va_G} {cA : Nat → ClassId} {ad : Nat → Nat} {A : Nat → Prop} {r0 : Nat} {X : IX} {Y : LX} {res : Int32} (hr0 : r0 < 20) (hf : fn_Str_length r0 = some res) : Met l zm_Str_length (zu_ws zm_Str_length zb_Str_length 1 (some .int)) zR_Str_length (va_Pc [.ref (ad (200 + r0))] (zu_Pre D cA ad A X Y)) (zu_Qi D cA ad A res X Y) 0 0 A := by
  refine Met.ofW (cc := zb_Str_length) (maxL := 1) (ret := (some .int)) (by decide +kernel) rfl ?_
  intro p e s m args below meth c s₁ B0 hml hv
  obtain ⟨rfl, hP, hST⟩ := hv
  have B : zu_B p s m _ c zb_Str_length 1 "java/lang/String" D cA ad A := ⟨B0.exec, B0.bytes, hml, findClass_of_methodNamed B0.named, (fun w hw => atoms_spec (ws := zu_ws zm_Str_length zb_Str_length 1 (some .int)) B0.pre w (List.mem_cons_of_mem _ hw)), hST⟩
  have hl := lv_entry ([.ref (ad (200 + r0))]) (n := 1) (Nat.le_of_ble_eq_true rfl)
  rw [lg_entry_eq]
  generalize (lg_sl ([.ref (ad (200 + r0))]) ++ List.replicate (1 - (lg_sl ([.ref (ad (200 + r0))])).length) Slot.unset).toArray = ls at hl ⊢
  exact zl_Str_length B B0.returns B0.notSynchronized s.heap [] ls hP va_S.rf hl hr0 hf
theorem zw_Str_length {p : Program} {l : Launch} {e : Env} {R : Room} {s : State} {m : MethodId} {args : Array Value} {below : List Frame} {meth : Method} {c : Code} {H : Heap} {locs : List Loc} {cells slots : Nat} {Q : State → Prop} {cc : ByteArray} {pc nL : Nat} {ls : Array Slot} {rest st0 : List Value} {D : va_G} {cA : Nat → ClassId} {ad : Nat → Nat} {A : Nat → Prop} {X : IX} {Y : LX} {own : String} {index : Nat} {r0 : Nat} {v1 : Int32} (B : zu_B p s m args c cc nL own D cA ad A) (hP : va_P D zu_cl (zu_pic cA ad X Y) H) (hS : va_S A s.heap H locs) (hr0 : r0 < 20) (hq : fn_Str_length r0 = some v1) (m1 : Cond.methodLink own index zm_Str_length ∈ zu_TB) (hR1 : 1 + 1 ≤ R.frames) (hR2 : 8 + (1 + 11) + 20 ≤ R.locals) (hsz : ls.size = nL) (hst : st0 = .ref (ad (200 + r0)) :: rest) (hw : (rest.map fun v => v.category).sum ≤ 8) (hdg : decode cc pc = .ok (.invokevirtual index, 3)) (h00 : cells ≤ R.cells ∧ slots ≤ R.slots) (kk : ∀ (H1 : Heap) (locs1 : List Loc), va_P D zu_cl (zu_pic cA ad X Y) H1 → va_S A s.heap H1 locs1 → W p l e R s m args below meth c H1 locs1 cells slots Q (F0 m (pc + 3) ls (.int v1 :: rest))) : W p l e R s m args below meth c H locs cells slots Q (F0 m pc ls st0) := by
  subst hst
  exact zr_cUi (As := []) (rest := rest) (n := 0) B hP hS hr0 (zC_Str_length l hr0 hq) m1 zq_663 zq_664 zq_13 zq_665 (by decide +kernel) ⟨hR1, hR2⟩ rfl rfl rfl hsz rfl hw hdg h00 kk
abbrev zR_Str_isLatin1 : Room := { frames := 0, cells := 0, slots := 0, locals := 0 }
theorem zd_Str_isLatin1_0 : decode zb_Str_isLatin1 0 = .ok (.getstatic 38, 3) := by decide +kernel
theorem zd_Str_isLatin1_3 : decode zb_Str_isLatin1 3 = .ok (.ifCond .eq 14, 3) := by decide +kernel
theorem zd_Str_isLatin1_6 : decode zb_Str_isLatin1 6 = .ok (.aload_n 0, 1) := by decide +kernel
theorem zd_Str_isLatin1_7 : decode zb_Str_isLatin1 7 = .ok (.getfield 15, 3) := by decide +kernel
theorem zd_Str_isLatin1_10 : decode zb_Str_isLatin1 10 = .ok (.ifCond .ne 7, 3) := by decide +kernel
theorem zd_Str_isLatin1_13 : decode zb_Str_isLatin1 13 = .ok (.iconst 1, 1) := by decide +kernel
theorem zd_Str_isLatin1_14 : decode zb_Str_isLatin1 14 = .ok (.goto 4, 3) := by decide +kernel
theorem zd_Str_isLatin1_18 : decode zb_Str_isLatin1 18 = .ok (.ireturn, 1) := by decide +kernel
set_option maxHeartbeats 4000000 in
theorem zl_Str_isLatin1_L18 {p : Program} {l : Launch} {e : Env} {s : State} {m : MethodId} {args : Array Value} {below : List Frame} {meth : Method} {c : Code} {D : va_G} {cA : Nat → ClassId} {ad : Nat → Nat} {A : Nat → Prop} (B : zu_B p s m args c zb_Str_isLatin1 1 "java/lang/String" D cA ad A) (hret : meth.sig.returnType = (some .boolean)) (hlk : meth.locks = false) {X : IX} {Y : LX} {res : Int32} (y0 : Int32) (H : Heap) (locs : List Loc) (ls : Array Slot) (hP : va_P D zu_cl (zu_pic cA ad X Y) H) (hS : va_S A s.heap H locs) (hl : lv_has ls 1 []) (hf : fn_Str_isLatin1_L18 y0 = some res) : W p l e zR_Str_isLatin1 s m args below meth c H locs 0 0 (MQ below (zu_Qi D cA ad A res X Y) args s 0 0 A) (F0 m 18 ls [.int y0]) := by
  obtain ⟨hx, hb, hml, hown, hts, hST⟩ := id B
  unfold fn_Str_isLatin1_L18 at hf
  obtain ⟨hg3, hf⟩ := zu_gd_e hf
  obtain rfl := Option.some.inj hf
  exact zr_zret hx hb hret hlk hP hS hg3 zd_Str_isLatin1_18
set_option maxHeartbeats 4000000 in
theorem zl_Str_isLatin1 {p : Program} {l : Launch} {e : Env} {s : State} {m : MethodId} {args : Array Value} {below : List Frame} {meth : Method} {c : Code} {D : va_G} {cA : Nat → ClassId} {ad : Nat → Nat} {A : Nat → Prop} (B : zu_B p s m args c zb_Str_isLatin1 1 "java/lang/String" D cA ad A) (hret : meth.sig.returnType = (some .boolean)) (hlk : meth.locks = false) {X : IX} {Y : LX} {res : Int32} {r0 : Nat} (H : Heap) (locs : List Loc) (ls : Array Slot) (hP : va_P D zu_cl (zu_pic cA ad X Y) H) (hS : va_S A s.heap H locs) (hl : lv_has ls 1 [(0, .ref (ad (200 + r0)))]) (hr0 : r0 < 20) (hf : fn_Str_isLatin1 r0 = some res) : W p l e zR_Str_isLatin1 s m args below meth c H locs 0 0 (MQ below (zu_Qi D cA ad A res X Y) args s 0 0 A) (F0 m 0 ls []) := by
  obtain ⟨hx, hb, hml, hown, hts, hST⟩ := id B
  unfold fn_Str_isLatin1 at hf
  refine va_gets hx hb hST.2.2.2.1.2.1 hS hown (hts _ zq_670) (fun _ h9 => h9) zd_Str_isLatin1_0 ?_
  refine lv_if_eq (tgt := 17) hx hb zd_Str_isLatin1_3 (by decide) (fun c1 => ?_) (fun c1 => ?_)
  · exact absurd c1 (by decide)
  · refine lv_aload_n hx hb zd_Str_isLatin1_6 rfl (lv_at hl 0 rfl) ?_
    refine vk_getf hx hb (hST.2.2.2.1.1.1 r0 hr0).2.1 hS hown (hts _ zq_1396) (fun _ h9 => h9) zd_Str_isLatin1_7 ?_
    refine lv_if_ne (tgt := 17) hx hb zd_Str_isLatin1_10 (by decide) (fun c2 => ?_) (fun c2 => ?_)
    · exact absurd c2 (by decide)
    · refine lv_iconst (v := 1) hx hb zd_Str_isLatin1_13 (by decide) ?_
      refine lv_goto (tgt := 18) hx hb zd_Str_isLatin1_14 (by decide) ?_
      exact zl_Str_isLatin1_L18 B hret hlk (1 : Int32) _ _ _ hP hS (lv_sub hl [] rfl) hf
theorem zC_Str_isLatin1 (l : Launch) {D : va_G} {cA : Nat → ClassId} {ad : Nat → Nat} {A : Nat → Prop} {r0 : Nat} {X : IX} {Y : LX} {res : Int32} (hr0 : r0 < 20) (hf : fn_Str_isLatin1 r0 = some res) : Met l zm_Str_isLatin1 (zu_ws zm_Str_isLatin1 zb_Str_isLatin1 1 (some .boolean)) zR_Str_isLatin1 (va_Pc [.ref (ad (200 + r0))] (zu_Pre D cA ad A X Y)) (zu_Qi D cA ad A res X Y) 0 0 A := by
  refine Met.ofW (cc := zb_Str_isLatin1) (maxL := 1) (ret := (some .boolean)) (by decide +kernel) rfl ?_
  intro p e s m args below meth c s₁ B0 hml hv
  obtain ⟨rfl, hP, hST⟩ := hv
  have B : zu_B p s m _ c zb_Str_isLatin1 1 "java/lang/String" D cA ad A := ⟨B0.exec, B0.bytes, hml, findClass_of_methodNamed B0.named, (fun w hw => atoms_spec (ws := zu_ws zm_Str_isLatin1 zb_Str_isLatin1 1 (some .boolean)) B0.pre w (List.mem_cons_of_mem _ hw)), hST⟩
  have hl := lv_entry ([.ref (ad (200 + r0))]) (n := 1) (Nat.le_of_ble_eq_true rfl)
  rw [lg_entry_eq]
  generalize (lg_sl ([.ref (ad (200 + r0))]) ++ List.replicate (1 - (lg_sl ([.ref (ad (200 + r0))])).length) Slot.unset).toArray = ls at hl ⊢
  exact zl_Str_isLatin1 B B0.returns B0.notSynchronized s.heap [] ls hP va_S.rf hl hr0 hf
theorem zw_Str_isLatin1 {p : Program} {l : Launch} {e : Env} {R : Room} {s : State} {m : MethodId} {args : Array Value} {below : List Frame} {meth : Method} {c : Code} {H : Heap} {locs : List Loc} {cells slots : Nat} {Q : State → Prop} {cc : ByteArray} {pc nL : Nat} {ls : Array Slot} {rest st0 : List Value} {D : va_G} {cA : Nat → ClassId} {ad : Nat → Nat} {A : Nat → Prop} {X : IX} {Y : LX} {own : String} {index : Nat} {r0 : Nat} {v1 : Int32} (B : zu_B p s m args c cc nL own D cA ad A) (hP : va_P D zu_cl (zu_pic cA ad X Y) H) (hS : va_S A s.heap H locs) (hr0 : r0 < 20) (hq : fn_Str_isLatin1 r0 = some v1) (m1 : Cond.methodLink own index zm_Str_isLatin1 ∈ zu_TB) (hR1 : 0 + 1 ≤ R.frames) (hR2 : 8 + (1 + 11) + 0 ≤ R.locals) (hsz : ls.size = nL) (hst : st0 = .ref (ad (200 + r0)) :: rest) (hw : (rest.map fun v => v.category).sum ≤ 8) (hdg : decode cc pc = .ok (.invokevirtual index, 3)) (h00 : cells ≤ R.cells ∧ slots ≤ R.slots) (kk : ∀ (H1 : Heap) (locs1 : List Loc), va_P D zu_cl (zu_pic cA ad X Y) H1 → va_S A s.heap H1 locs1 → W p l e R s m args below meth c H1 locs1 cells slots Q (F0 m (pc + 3) ls (.int v1 :: rest))) : W p l e R s m args below meth c H locs cells slots Q (F0 m pc ls st0) := by
  subst hst
  exact zr_cUi (As := []) (rest := rest) (n := 0) B hP hS hr0 (zC_Str_isLatin1 l hr0 hq) m1 zq_677 zq_678 zq_13 zq_679 (by decide +kernel) ⟨hR1, hR2⟩ rfl rfl rfl hsz rfl hw hdg h00 kk
abbrev zR_Prc_checkIndex : Room := { frames := 0, cells := 0, slots := 0, locals := 0 }
theorem zd_Prc_checkIndex_0 : decode zb_Prc_checkIndex 0 = .ok (.iload_n 0, 1) := by decide +kernel
theorem zd_Prc_checkIndex_1 : decode zb_Prc_checkIndex 1 = .ok (.ifCond .lt 8, 3) := by decide +kernel
theorem zd_Prc_checkIndex_4 : decode zb_Prc_checkIndex 4 = .ok (.iload_n 0, 1) := by decide +kernel
theorem zd_Prc_checkIndex_5 : decode zb_Prc_checkIndex 5 = .ok (.iload_n 1, 1) := by decide +kernel
theorem zd_Prc_checkIndex_6 : decode zb_Prc_checkIndex 6 = .ok (.if_icmp .lt 10, 3) := by decide +kernel
theorem zd_Prc_checkIndex_16 : decode zb_Prc_checkIndex 16 = .ok (.iload_n 0, 1) := by decide +kernel
theorem zd_Prc_checkIndex_17 : decode zb_Prc_checkIndex 17 = .ok (.ireturn, 1) := by decide +kernel
set_option maxHeartbeats 4000000 in
theorem zl_Prc_checkIndex {p : Program} {l : Launch} {e : Env} {s : State} {m : MethodId} {args : Array Value} {below : List Frame} {meth : Method} {c : Code} {D : va_G} {cA : Nat → ClassId} {ad : Nat → Nat} {A : Nat → Prop} (B : zu_B p s m args c zb_Prc_checkIndex 3 "jdk/internal/util/Preconditions" D cA ad A) (hret : meth.sig.returnType = (some .int)) (hlk : meth.locks = false) {X : IX} {Y : LX} {res : Int32} {a0 : Int32} {a1 : Int32} (H : Heap) (locs : List Loc) (ls : Array Slot) (hP : va_P D zu_cl (zu_pic cA ad X Y) H) (hS : va_S A s.heap H locs) (hl : lv_has ls 3 [(0, .int a0), (1, .int a1)]) (hf : fn_Prc_checkIndex a0 a1 = some res) : W p l e zR_Prc_checkIndex s m args below meth c H locs 0 0 (MQ below (zu_Qi D cA ad A res X Y) args s 0 0 A) (F0 m 0 ls []) := by
  obtain ⟨hx, hb, hml, hown, hts, hST⟩ := id B
  unfold fn_Prc_checkIndex at hf
  refine lv_iload_n hx hb zd_Prc_checkIndex_0 rfl (lv_at hl 0 rfl) ?_
  refine lv_if_lt (tgt := 9) hx hb zd_Prc_checkIndex_1 (by decide) (fun c1 => ?_) (fun c1 => ?_)
  · have hf := zu_t c1 hf
    exact (Option.some_ne_none _ hf.symm).elim
  · have hf := zu_f c1 hf
    refine lv_iload_n hx hb zd_Prc_checkIndex_4 rfl (lv_at hl 0 rfl) ?_
    refine lv_iload_n hx hb zd_Prc_checkIndex_5 rfl (lv_at hl 1 rfl) ?_
    refine lv_icmp_lt (tgt := 16) hx hb zd_Prc_checkIndex_6 (by decide) (fun c2 => ?_) (fun c2 => ?_)
    · have hf := zu_t c2 hf
      refine lv_iload_n hx hb zd_Prc_checkIndex_16 rfl (lv_at hl 0 rfl) ?_
      obtain rfl := Option.some.inj hf
      exact zr_iret hx hb hret hlk hP hS zd_Prc_checkIndex_17
    · have hf := zu_f c2 hf
      exact (Option.some_ne_none _ hf.symm).elim
theorem zC_Prc_checkIndex (l : Launch) {D : va_G} {cA : Nat → ClassId} {ad : Nat → Nat} {A : Nat → Prop} {a0 : Int32} {a1 : Int32} {w2 : Value} {X : IX} {Y : LX} {res : Int32} (hw2 : w2 = .null ∨ ∃ t, w2 = .ref t) (hf : fn_Prc_checkIndex a0 a1 = some res) : Met l zm_Prc_checkIndex (zu_ws zm_Prc_checkIndex zb_Prc_checkIndex 3 (some .int)) zR_Prc_checkIndex (va_Pc [.int a0, .int a1, w2] (zu_Pre D cA ad A X Y)) (zu_Qi D cA ad A res X Y) 0 0 A := by
  rcases hw2 with rfl | ⟨t, rfl⟩
  · refine Met.ofW (cc := zb_Prc_checkIndex) (maxL := 3) (ret := (some .int)) (by decide +kernel) rfl ?_
    intro p e s m args below meth c s₁ B0 hml hv
    obtain ⟨rfl, hP, hST⟩ := hv
    have B : zu_B p s m _ c zb_Prc_checkIndex 3 "jdk/internal/util/Preconditions" D cA ad A := ⟨B0.exec, B0.bytes, hml, findClass_of_methodNamed B0.named, (fun w hw => atoms_spec (ws := zu_ws zm_Prc_checkIndex zb_Prc_checkIndex 3 (some .int)) B0.pre w (List.mem_cons_of_mem _ hw)), hST⟩
    have hl := lv_entry ([.int a0, .int a1, .null]) (n := 3) (Nat.le_of_ble_eq_true rfl)
    rw [lg_entry_eq]
    generalize (lg_sl ([.int a0, .int a1, .null]) ++ List.replicate (3 - (lg_sl ([.int a0, .int a1, .null])).length) Slot.unset).toArray = ls at hl ⊢
    exact zl_Prc_checkIndex B B0.returns B0.notSynchronized s.heap [] ls hP va_S.rf (lv_sub hl [0, 1] rfl)  hf
  · refine Met.ofW (cc := zb_Prc_checkIndex) (maxL := 3) (ret := (some .int)) (by decide +kernel) rfl ?_
    intro p e s m args below meth c s₁ B0 hml hv
    obtain ⟨rfl, hP, hST⟩ := hv
    have B : zu_B p s m _ c zb_Prc_checkIndex 3 "jdk/internal/util/Preconditions" D cA ad A := ⟨B0.exec, B0.bytes, hml, findClass_of_methodNamed B0.named, (fun w hw => atoms_spec (ws := zu_ws zm_Prc_checkIndex zb_Prc_checkIndex 3 (some .int)) B0.pre w (List.mem_cons_of_mem _ hw)), hST⟩
    have hl := lv_entry ([.int a0, .int a1, .ref t]) (n := 3) (Nat.le_of_ble_eq_true rfl)
    rw [lg_entry_eq]
    generalize (lg_sl ([.int a0, .int a1, .ref t]) ++ List.replicate (3 - (lg_sl ([.int a0, .int a1, .ref t])).length) Slot.unset).toArray = ls at hl ⊢
    exact zl_Prc_checkIndex B B0.returns B0.notSynchronized s.heap [] ls hP va_S.rf (lv_sub hl [0, 1] rfl)  hf
theorem zw_Prc_checkIndex {p : Program} {l : Launch} {e : Env} {R : Room} {s : State} {m : MethodId} {args : Array Value} {below : List Frame} {meth : Method} {c : Code} {H : Heap} {locs : List Loc} {cells slots : Nat} {Q : State → Prop} {cc : ByteArray} {pc nL : Nat} {ls : Array Slot} {rest st0 : List Value} {D : va_G} {cA : Nat → ClassId} {ad : Nat → Nat} {A : Nat → Prop} {X : IX} {Y : LX} {own : String} {index : Nat} {a0 : Int32} {a1 : Int32} {w2 : Value} {v1 : Int32} (B : zu_B p s m args c cc nL own D cA ad A) (hP : va_P D zu_cl (zu_pic cA ad X Y) H) (hS : va_S A s.heap H locs) (hw2 : w2 = .null ∨ ∃ t, w2 = .ref t) (hq : fn_Prc_checkIndex a0 a1 = some v1) (m1 : Cond.methodLink own index zm_Prc_checkIndex ∈ zu_TB) (hR1 : 0 + 1 ≤ R.frames) (hR2 : 8 + (3 + 11) + 0 ≤ R.locals) (hsz : ls.size = nL) (hst : st0 = w2 :: .int a1 :: .int a0 ::  rest) (hw : (rest.map fun v => v.category).sum ≤ 8) (hdg : decode cc pc = .ok (.invokestatic index, 3)) (h00 : cells ≤ R.cells ∧ slots ≤ R.slots) (kk : ∀ (H1 : Heap) (locs1 : List Loc), va_P D zu_cl (zu_pic cA ad X Y) H1 → va_S A s.heap H1 locs1 → W p l e R s m args below meth c H1 locs1 cells slots Q (F0 m (pc + 3) ls (.int v1 :: rest))) : W p l e R s m args below meth c H locs cells slots Q (F0 m pc ls st0) := by
  subst hst
  exact zr_cSi (As := [.int a0, .int a1, w2]) (rest := rest) (n := 3) B hP hS (zC_Prc_checkIndex l hw2 hq) m1 zq_689 zq_15 zq_690 (by decide +kernel) ⟨hR1, hR2⟩ rfl rfl rfl hsz rfl hw hdg h00 kk
abbrev zR_Str_checkIndex : Room := { frames := 1, cells := 0, slots := 0, locals := 22 }
theorem zd_Str_checkIndex_0 : decode zb_Str_checkIndex 0 = .ok (.iload_n 0, 1) := by decide +kernel
theorem zd_Str_checkIndex_1 : decode zb_Str_checkIndex 1 = .ok (.iload_n 1, 1) := by decide +kernel
theorem zd_Str_checkIndex_2 : decode zb_Str_checkIndex 2 = .ok (.getstatic 1053, 3) := by decide +kernel
theorem zd_Str_checkIndex_5 : decode zb_Str_checkIndex 5 = .ok (.invokestatic 1059, 3) := by decide +kernel
theorem zd_Str_checkIndex_8 : decode zb_Str_checkIndex 8 = .ok (.pop, 1) := by decide +kernel
theorem zd_Str_checkIndex_9 : decode zb_Str_checkIndex 9 = .ok (.return_, 1) := by decide +kernel
set_option maxHeartbeats 4000000 in
theorem zl_Str_checkIndex {p : Program} {l : Launch} {e : Env} {s : State} {m : MethodId} {args : Array Value} {below : List Frame} {meth : Method} {c : Code} {D : va_G} {cA : Nat → ClassId} {ad : Nat → Nat} {A : Nat → Prop} (B : zu_B p s m args c zb_Str_checkIndex 2 "java/lang/String" D cA ad A) (hret : meth.sig.returnType = none) (hlk : meth.locks = false) {X : IX} {Y : LX} {res : Unit} {a0 : Int32} {a1 : Int32} (H : Heap) (locs : List Loc) (ls : Array Slot) (hP : va_P D zu_cl (zu_pic cA ad X Y) H) (hS : va_S A s.heap H locs) (hl : lv_has ls 2 [(0, .int a0), (1, .int a1)]) (hf : fn_Str_checkIndex a0 a1 = some res) : W p l e zR_Str_checkIndex s m args below meth c H locs 0 0 (MQ below (zu_Qv D cA ad A X Y) args s 0 0 A) (F0 m 0 ls []) := by
  obtain ⟨hx, hb, hml, hown, hts, hST⟩ := id B
  unfold fn_Str_checkIndex at hf
  refine lv_iload_n hx hb zd_Str_checkIndex_0 rfl (lv_at hl 0 rfl) ?_
  refine lv_iload_n hx hb zd_Str_checkIndex_1 rfl (lv_at hl 1 rfl) ?_
  rcases hST.2.2.2.1.2.2 with hz | ⟨t, hz⟩
  · refine va_gets hx hb hz hS hown (hts _ zq_686) (fun _ h9 => h9) zd_Str_checkIndex_2 ?_
    obtain ⟨v1, hq2, hf⟩ := zu_b1_e hf
    refine zw_Prc_checkIndex (rest := []) B hP hS (Or.inl rfl) hq2 zq_688 (Nat.le_of_ble_eq_true rfl) (Nat.le_of_ble_eq_true rfl) hl.1 rfl (Nat.le_of_ble_eq_true rfl) zd_Str_checkIndex_5 (by decide) (fun H locs hP hS => ?_)
    clear hq2
    refine lv_pop hx hb zd_Str_checkIndex_8 rfl ?_
    obtain rfl := Option.some.inj hf
    exact zr_vret hx hb hret hlk hP hS zd_Str_checkIndex_9
  · refine va_gets hx hb hz hS hown (hts _ zq_686) (fun _ h9 => h9) zd_Str_checkIndex_2 ?_
    obtain ⟨v3, hq4, hf⟩ := zu_b1_e hf
    refine zw_Prc_checkIndex (rest := []) B hP hS (Or.inr ⟨_, rfl⟩) hq4 zq_688 (Nat.le_of_ble_eq_true rfl) (Nat.le_of_ble_eq_true rfl) hl.1 rfl (Nat.le_of_ble_eq_true rfl) zd_Str_checkIndex_5 (by decide) (fun H locs hP hS => ?_)
    clear hq4
    refine lv_pop hx hb zd_Str_checkIndex_8 rfl ?_
    obtain rfl := Option.some.inj hf
    exact zr_vret hx hb hret hlk hP hS zd_Str_checkIndex_9
theorem zC_Str_checkIndex (l : Launch) {D : va_G} {cA : Nat → ClassId} {ad : Nat → Nat} {A : Nat → Prop} {a0 : Int32} {a1 : Int32} {X : IX} {Y : LX} {res : Unit} (hf : fn_Str_checkIndex a0 a1 = some res) : Met l zm_Str_checkIndex (zu_ws zm_Str_checkIndex zb_Str_checkIndex 2 none) zR_Str_checkIndex (va_Pc [.int a0, .int a1] (zu_Pre D cA ad A X Y)) (zu_Qv D cA ad A X Y) 0 0 A := by
  refine Met.ofW (cc := zb_Str_checkIndex) (maxL := 2) (ret := none) (by decide +kernel) rfl ?_
  intro p e s m args below meth c s₁ B0 hml hv
  obtain ⟨rfl, hP, hST⟩ := hv
  have B : zu_B p s m _ c zb_Str_checkIndex 2 "java/lang/String" D cA ad A := ⟨B0.exec, B0.bytes, hml, findClass_of_methodNamed B0.named, (fun w hw => atoms_spec (ws := zu_ws zm_Str_checkIndex zb_Str_checkIndex 2 none) B0.pre w (List.mem_cons_of_mem _ hw)), hST⟩
  have hl := lv_entry ([.int a0, .int a1]) (n := 2) (Nat.le_of_ble_eq_true rfl)
  rw [lg_entry_eq]
  generalize (lg_sl ([.int a0, .int a1]) ++ List.replicate (2 - (lg_sl ([.int a0, .int a1])).length) Slot.unset).toArray = ls at hl ⊢
  exact zl_Str_checkIndex B B0.returns B0.notSynchronized s.heap [] ls hP va_S.rf hl  hf
theorem zw_Str_checkIndex {p : Program} {l : Launch} {e : Env} {R : Room} {s : State} {m : MethodId} {args : Array Value} {below : List Frame} {meth : Method} {c : Code} {H : Heap} {locs : List Loc} {cells slots : Nat} {Q : State → Prop} {cc : ByteArray} {pc nL : Nat} {ls : Array Slot} {rest st0 : List Value} {D : va_G} {cA : Nat → ClassId} {ad : Nat → Nat} {A : Nat → Prop} {X : IX} {Y : LX} {own : String} {index : Nat} {a0 : Int32} {a1 : Int32} (B : zu_B p s m args c cc nL own D cA ad A) (hP : va_P D zu_cl (zu_pic cA ad X Y) H) (hS : va_S A s.heap H locs) (hq : fn_Str_checkIndex a0 a1 = some ()) (m1 : Cond.methodLink own index zm_Str_checkIndex ∈ zu_TB) (hR1 : 1 + 1 ≤ R.frames) (hR2 : 8 + (2 + 11) + 22 ≤ R.locals) (hsz : ls.size = nL) (hst : st0 = .int a1 :: .int a0 ::  rest) (hw : (rest.map fun v => v.category).sum ≤ 8) (hdg : decode cc pc = .ok (.invokestatic index, 3)) (h00 : cells ≤ R.cells ∧ slots ≤ R.slots) (kk : ∀ (H1 : Heap) (locs1 : List Loc), va_P D zu_cl (zu_pic cA ad X Y) H1 → va_S A s.heap H1 locs1 → W p l e R s m args below meth c H1 locs1 cells slots Q (F0 m (pc + 3) ls (rest))) : W p l e R s m args below meth c H locs cells slots Q (F0 m pc ls st0) := by
  subst hst
  exact zr_cSv (As := [.int a0, .int a1]) (rest := rest) (n := 2) B hP hS (zC_Str_checkIndex l  hq) m1 zq_684 zq_13 zq_685 (by decide +kernel) ⟨hR1, hR2⟩ rfl rfl rfl hsz rfl hw hdg h00 kk
abbrev zR_Lat_charAt : Room := { frames := 2, cells := 0, slots := 0, locals := 43 }
theorem zd_Lat_charAt_0 : decode zb_Lat_charAt 0 = .ok (.iload_n 1, 1) := by decide +kernel
theorem zd_Lat_charAt_1 : decode zb_Lat_charAt 1 = .ok (.aload_n 0, 1) := by decide +kernel
theorem zd_Lat_charAt_2 : decode zb_Lat_charAt 2 = .ok (.arraylength, 1) := by decide +kernel
theorem zd_Lat_charAt_3 : decode zb_Lat_charAt 3 = .ok (.invokestatic 9, 3) := by decide +kernel
theorem zd_Lat_charAt_6 : decode zb_Lat_charAt 6 = .ok (.aload_n 0, 1) := by decide +kernel
theorem zd_Lat_charAt_7 : decode zb_Lat_charAt 7 = .ok (.iload_n 1, 1) := by decide +kernel
theorem zd_Lat_charAt_8 : decode zb_Lat_charAt 8 = .ok (.baload, 1) := by decide +kernel
theorem zd_Lat_charAt_9 : decode zb_Lat_charAt 9 = .ok (.sipush 255, 3) := by decide +kernel
theorem zd_Lat_charAt_12 : decode zb_Lat_charAt 12 = .ok (.iand, 1) := by decide +kernel
theorem zd_Lat_charAt_13 : decode zb_Lat_charAt 13 = .ok (.i2c, 1) := by decide +kernel
theorem zd_Lat_charAt_14 : decode zb_Lat_charAt 14 = .ok (.ireturn, 1) := by decide +kernel
set_option maxHeartbeats 4000000 in
theorem zl_Lat_charAt {p : Program} {l : Launch} {e : Env} {s : State} {m : MethodId} {args : Array Value} {below : List Frame} {meth : Method} {c : Code} {D : va_G} {cA : Nat → ClassId} {ad : Nat → Nat} {A : Nat → Prop} (B : zu_B p s m args c zb_Lat_charAt 2 "java/lang/StringLatin1" D cA ad A) (hret : meth.sig.returnType = (some .char)) (hlk : meth.locks = false) {X : IX} {Y : LX} {res : Int32} {r0 : Nat} {a1 : Int32} (H : Heap) (locs : List Loc) (ls : Array Slot) (hP : va_P D zu_cl (zu_pic cA ad X Y) H) (hS : va_S A s.heap H locs) (hl : lv_has ls 2 [(0, .ref (ad (300 + r0))), (1, .int a1)]) (hr0 : r0 < 20) (hf : fn_Lat_charAt r0 a1 = some res) : W p l e zR_Lat_charAt s m args below meth c H locs 0 0 (MQ below (zu_Qi D cA ad A res X Y) args s 0 0 A) (F0 m 0 ls []) := by
  obtain ⟨hx, hb, hml, hown, hts, hST⟩ := id B
  unfold fn_Lat_charAt at hf
  refine lv_iload_n hx hb zd_Lat_charAt_0 rfl (lv_at hl 1 rfl) ?_
  refine lv_aload_n hx hb zd_Lat_charAt_1 rfl (lv_at hl 0 rfl) ?_
  refine va_tlen hx hb (hST.2.2.2.1.1.1 r0 hr0).2.2.2 hS (v := nI (zs_len.getD r0 0)) rfl zd_Lat_charAt_2 ?_
  obtain ⟨_, hq1, hf⟩ := zu_b1_e hf
  refine zw_Str_checkIndex (rest := []) B hP hS hq1 zq_683 (Nat.le_of_ble_eq_true rfl) (Nat.le_of_ble_eq_true rfl) hl.1 rfl (Nat.le_of_ble_eq_true rfl) zd_Lat_charAt_3 (by decide) (fun H locs hP hS => ?_)
  clear hq1
  refine lv_aload_n hx hb zd_Lat_charAt_6 rfl (lv_at hl 0 rfl) ?_
  refine lv_iload_n hx hb zd_Lat_charAt_7 rfl (lv_at hl 1 rfl) ?_
  obtain ⟨hg2, hf⟩ := zu_gd_e hf
  refine va_tb hx hb (hST.2.2.2.1.1.1 r0 hr0).2.2.2 hS (zu_ib_in hg2) rfl zd_Lat_charAt_8 ?_
  refine lv_sipush (v := 255) hx hb zd_Lat_charAt_9 (by decide) ?_
  refine lv_iand hx hb zd_Lat_charAt_12 ?_
  refine lv_i2c hx hb zd_Lat_charAt_13 rfl ?_
  obtain ⟨hg3, hf⟩ := zu_gd_e hf
  obtain rfl := Option.some.inj hf
  exact zr_cret hx hb hret hlk hP hS hg3 zd_Lat_charAt_14
theorem zC_Lat_charAt (l : Launch) {D : va_G} {cA : Nat → ClassId} {ad : Nat → Nat} {A : Nat → Prop} {r0 : Nat} {a1 : Int32} {X : IX} {Y : LX} {res : Int32} (hr0 : r0 < 20) (hf : fn_Lat_charAt r0 a1 = some res) : Met l zm_Lat_charAt (zu_ws zm_Lat_charAt zb_Lat_charAt 2 (some .char)) zR_Lat_charAt (va_Pc [.ref (ad (300 + r0)), .int a1] (zu_Pre D cA ad A X Y)) (zu_Qi D cA ad A res X Y) 0 0 A := by
  refine Met.ofW (cc := zb_Lat_charAt) (maxL := 2) (ret := (some .char)) (by decide +kernel) rfl ?_
  intro p e s m args below meth c s₁ B0 hml hv
  obtain ⟨rfl, hP, hST⟩ := hv
  have B : zu_B p s m _ c zb_Lat_charAt 2 "java/lang/StringLatin1" D cA ad A := ⟨B0.exec, B0.bytes, hml, findClass_of_methodNamed B0.named, (fun w hw => atoms_spec (ws := zu_ws zm_Lat_charAt zb_Lat_charAt 2 (some .char)) B0.pre w (List.mem_cons_of_mem _ hw)), hST⟩
  have hl := lv_entry ([.ref (ad (300 + r0)), .int a1]) (n := 2) (Nat.le_of_ble_eq_true rfl)
  rw [lg_entry_eq]
  generalize (lg_sl ([.ref (ad (300 + r0)), .int a1]) ++ List.replicate (2 - (lg_sl ([.ref (ad (300 + r0)), .int a1])).length) Slot.unset).toArray = ls at hl ⊢
  exact zl_Lat_charAt B B0.returns B0.notSynchronized s.heap [] ls hP va_S.rf hl hr0 hf
theorem zw_Lat_charAt {p : Program} {l : Launch} {e : Env} {R : Room} {s : State} {m : MethodId} {args : Array Value} {below : List Frame} {meth : Method} {c : Code} {H : Heap} {locs : List Loc} {cells slots : Nat} {Q : State → Prop} {cc : ByteArray} {pc nL : Nat} {ls : Array Slot} {rest st0 : List Value} {D : va_G} {cA : Nat → ClassId} {ad : Nat → Nat} {A : Nat → Prop} {X : IX} {Y : LX} {own : String} {index : Nat} {r0 : Nat} {a1 : Int32} {v1 : Int32} (B : zu_B p s m args c cc nL own D cA ad A) (hP : va_P D zu_cl (zu_pic cA ad X Y) H) (hS : va_S A s.heap H locs) (hr0 : r0 < 20) (hq : fn_Lat_charAt r0 a1 = some v1) (m1 : Cond.methodLink own index zm_Lat_charAt ∈ zu_TB) (hR1 : 2 + 1 ≤ R.frames) (hR2 : 8 + (2 + 11) + 43 ≤ R.locals) (hsz : ls.size = nL) (hst : st0 = .int a1 :: .ref (ad (300 + r0)) ::  rest) (hw : (rest.map fun v => v.category).sum ≤ 8) (hdg : decode cc pc = .ok (.invokestatic index, 3)) (h00 : cells ≤ R.cells ∧ slots ≤ R.slots) (kk : ∀ (H1 : Heap) (locs1 : List Loc), va_P D zu_cl (zu_pic cA ad X Y) H1 → va_S A s.heap H1 locs1 → W p l e R s m args below meth c H1 locs1 cells slots Q (F0 m (pc + 3) ls (.int v1 :: rest))) : W p l e R s m args below meth c H locs cells slots Q (F0 m pc ls st0) := by
  subst hst
  exact zr_cSi (As := [.ref (ad (300 + r0)), .int a1]) (rest := rest) (n := 2) B hP hS (zC_Lat_charAt l hr0 hq) m1 zq_681 zq_14 zq_682 (by decide +kernel) ⟨hR1, hR2⟩ rfl rfl rfl hsz rfl hw hdg h00 kk
abbrev zR_Str_charAt : Room := { frames := 3, cells := 0, slots := 0, locals := 64 }
theorem zd_Str_charAt_0 : decode zb_Str_charAt 0 = .ok (.aload_n 0, 1) := by decide +kernel
theorem zd_Str_charAt_1 : decode zb_Str_charAt 1 = .ok (.invokevirtual 492, 3) := by decide +kernel
theorem zd_Str_charAt_4 : decode zb_Str_charAt 4 = .ok (.ifCond .eq 12, 3) := by decide +kernel
theorem zd_Str_charAt_7 : decode zb_Str_charAt 7 = .ok (.aload_n 0, 1) := by decide +kernel
theorem zd_Str_charAt_8 : decode zb_Str_charAt 8 = .ok (.getfield 9, 3) := by decide +kernel
theorem zd_Str_charAt_11 : decode zb_Str_charAt 11 = .ok (.iload_n 1, 1) := by decide +kernel
theorem zd_Str_charAt_12 : decode zb_Str_charAt 12 = .ok (.invokestatic 495, 3) := by decide +kernel
theorem zd_Str_charAt_15 : decode zb_Str_charAt 15 = .ok (.ireturn, 1) := by decide +kernel
set_option maxHeartbeats 4000000 in
theorem zl_Str_charAt {p : Program} {l : Launch} {e : Env} {s : State} {m : MethodId} {args : Array Value} {below : List Frame} {meth : Method} {c : Code} {D : va_G} {cA : Nat → ClassId} {ad : Nat → Nat} {A : Nat → Prop} (B : zu_B p s m args c zb_Str_charAt 2 "java/lang/String" D cA ad A) (hret : meth.sig.returnType = (some .char)) (hlk : meth.locks = false) {X : IX} {Y : LX} {res : Int32} {r0 : Nat} {a1 : Int32} (H : Heap) (locs : List Loc) (ls : Array Slot) (hP : va_P D zu_cl (zu_pic cA ad X Y) H) (hS : va_S A s.heap H locs) (hl : lv_has ls 2 [(0, .ref (ad (200 + r0))), (1, .int a1)]) (hr0 : r0 < 20) (hf : fn_Str_charAt r0 a1 = some res) : W p l e zR_Str_charAt s m args below meth c H locs 0 0 (MQ below (zu_Qi D cA ad A res X Y) args s 0 0 A) (F0 m 0 ls []) := by
  obtain ⟨hx, hb, hml, hown, hts, hST⟩ := id B
  unfold fn_Str_charAt at hf
  refine lv_aload_n hx hb zd_Str_charAt_0 rfl (lv_at hl 0 rfl) ?_
  obtain ⟨v1, hq2, hf⟩ := zu_b1_e hf
  refine zw_Str_isLatin1 (rest := []) B hP hS hr0 hq2 zq_676 (Nat.le_of_ble_eq_true rfl) (Nat.le_of_ble_eq_true rfl) hl.1 rfl (Nat.le_of_ble_eq_true rfl) zd_Str_charAt_1 (by decide) (fun H locs hP hS => ?_)
  clear hq2
  refine lv_if_eq (tgt := 16) hx hb zd_Str_charAt_4 (by decide) (fun c3 => ?_) (fun c3 => ?_)
  · have hf := zu_t c3 hf
    exact (Option.some_ne_none _ hf.symm).elim
  · have hf := zu_f c3 hf
    refine lv_aload_n hx hb zd_Str_charAt_7 rfl (lv_at hl 0 rfl) ?_
    refine vk_getf hx hb (hST.2.2.2.1.1.1 r0 hr0).2.2.1 hS hown (hts _ zq_1395) (fun _ h9 => h9) zd_Str_charAt_8 ?_
    refine lv_iload_n hx hb zd_Str_charAt_11 rfl (lv_at hl 1 rfl) ?_
    obtain ⟨v4, hq5, hf⟩ := zu_b1_e hf
    refine zw_Lat_charAt (rest := []) B hP hS hr0 hq5 zq_680 (Nat.le_of_ble_eq_true rfl) (Nat.le_of_ble_eq_true rfl) hl.1 rfl (Nat.le_of_ble_eq_true rfl) zd_Str_charAt_12 (by decide) (fun H locs hP hS => ?_)
    clear hq5
    obtain ⟨hg6, hf⟩ := zu_gd_e hf
    obtain rfl := Option.some.inj hf
    exact zr_cret hx hb hret hlk hP hS hg6 zd_Str_charAt_15
theorem zC_Str_charAt (l : Launch) {D : va_G} {cA : Nat → ClassId} {ad : Nat → Nat} {A : Nat → Prop} {r0 : Nat} {a1 : Int32} {X : IX} {Y : LX} {res : Int32} (hr0 : r0 < 20) (hf : fn_Str_charAt r0 a1 = some res) : Met l zm_Str_charAt (zu_ws zm_Str_charAt zb_Str_charAt 2 (some .char)) zR_Str_charAt (va_Pc [.ref (ad (200 + r0)), .int a1] (zu_Pre D cA ad A X Y)) (zu_Qi D cA ad A res X Y) 0 0 A := by
  refine Met.ofW (cc := zb_Str_charAt) (maxL := 2) (ret := (some .char)) (by decide +kernel) rfl ?_
  intro p e s m args below meth c s₁ B0 hml hv
  obtain ⟨rfl, hP, hST⟩ := hv
  have B : zu_B p s m _ c zb_Str_charAt 2 "java/lang/String" D cA ad A := ⟨B0.exec, B0.bytes, hml, findClass_of_methodNamed B0.named, (fun w hw => atoms_spec (ws := zu_ws zm_Str_charAt zb_Str_charAt 2 (some .char)) B0.pre w (List.mem_cons_of_mem _ hw)), hST⟩
  have hl := lv_entry ([.ref (ad (200 + r0)), .int a1]) (n := 2) (Nat.le_of_ble_eq_true rfl)
  rw [lg_entry_eq]
  generalize (lg_sl ([.ref (ad (200 + r0)), .int a1]) ++ List.replicate (2 - (lg_sl ([.ref (ad (200 + r0)), .int a1])).length) Slot.unset).toArray = ls at hl ⊢
  exact zl_Str_charAt B B0.returns B0.notSynchronized s.heap [] ls hP va_S.rf hl hr0 hf
theorem zw_Str_charAt {p : Program} {l : Launch} {e : Env} {R : Room} {s : State} {m : MethodId} {args : Array Value} {below : List Frame} {meth : Method} {c : Code} {H : Heap} {locs : List Loc} {cells slots : Nat} {Q : State → Prop} {cc : ByteArray} {pc nL : Nat} {ls : Array Slot} {rest st0 : List Value} {D : va_G} {cA : Nat → ClassId} {ad : Nat → Nat} {A : Nat → Prop} {X : IX} {Y : LX} {own : String} {index : Nat} {r0 : Nat} {a1 : Int32} {v1 : Int32} (B : zu_B p s m args c cc nL own D cA ad A) (hP : va_P D zu_cl (zu_pic cA ad X Y) H) (hS : va_S A s.heap H locs) (hr0 : r0 < 20) (hq : fn_Str_charAt r0 a1 = some v1) (m1 : Cond.methodLink own index zm_Str_charAt ∈ zu_TB) (hR1 : 3 + 1 ≤ R.frames) (hR2 : 8 + (2 + 11) + 64 ≤ R.locals) (hsz : ls.size = nL) (hst : st0 = .int a1 :: .ref (ad (200 + r0)) :: rest) (hw : (rest.map fun v => v.category).sum ≤ 8) (hdg : decode cc pc = .ok (.invokevirtual index, 3)) (h00 : cells ≤ R.cells ∧ slots ≤ R.slots) (kk : ∀ (H1 : Heap) (locs1 : List Loc), va_P D zu_cl (zu_pic cA ad X Y) H1 → va_S A s.heap H1 locs1 → W p l e R s m args below meth c H1 locs1 cells slots Q (F0 m (pc + 3) ls (.int v1 :: rest))) : W p l e R s m args below meth c H locs cells slots Q (F0 m pc ls st0) := by
  subst hst
  exact zr_cUi (As := [.int a1]) (rest := rest) (n := 1) B hP hS hr0 (zC_Str_charAt l hr0 hq) m1 zq_673 zq_674 zq_13 zq_675 (by decide +kernel) ⟨hR1, hR2⟩ rfl rfl rfl hsz rfl hw hdg h00 kk
abbrev zR_Tape_isWord : Room := { frames := 4, cells := 0, slots := 0, locals := 85 }
theorem zd_Tape_isWord_0 : decode zb_Tape_isWord 0 = .ok (.aload_n 0, 1) := by decide +kernel
theorem zd_Tape_isWord_1 : decode zb_Tape_isWord 1 = .ok (.getfield 28, 3) := by decide +kernel
theorem zd_Tape_isWord_4 : decode zb_Tape_isWord 4 = .ok (.ifCond .ne 19, 3) := by decide +kernel
theorem zd_Tape_isWord_7 : decode zb_Tape_isWord 7 = .ok (.aload_n 0, 1) := by decide +kernel
theorem zd_Tape_isWord_8 : decode zb_Tape_isWord 8 = .ok (.getfield 15, 3) := by decide +kernel
theorem zd_Tape_isWord_11 : decode zb_Tape_isWord 11 = .ok (.aload_n 0, 1) := by decide +kernel
theorem zd_Tape_isWord_12 : decode zb_Tape_isWord 12 = .ok (.getfield 22, 3) := by decide +kernel
theorem zd_Tape_isWord_15 : decode zb_Tape_isWord 15 = .ok (.isub, 1) := by decide +kernel
theorem zd_Tape_isWord_16 : decode zb_Tape_isWord 16 = .ok (.aload_n 1, 1) := by decide +kernel
theorem zd_Tape_isWord_17 : decode zb_Tape_isWord 17 = .ok (.invokevirtual 53, 3) := by decide +kernel
theorem zd_Tape_isWord_20 : decode zb_Tape_isWord 20 = .ok (.if_icmp .eq 5, 3) := by decide +kernel
theorem zd_Tape_isWord_23 : decode zb_Tape_isWord 23 = .ok (.iconst 0, 1) := by decide +kernel
theorem zd_Tape_isWord_24 : decode zb_Tape_isWord 24 = .ok (.ireturn, 1) := by decide +kernel
theorem zd_Tape_isWord_25 : decode zb_Tape_isWord 25 = .ok (.iconst 0, 1) := by decide +kernel
theorem zd_Tape_isWord_26 : decode zb_Tape_isWord 26 = .ok (.istore_n 2, 1) := by decide +kernel
theorem zd_Tape_isWord_27 : decode zb_Tape_isWord 27 = .ok (.iload_n 2, 1) := by decide +kernel
theorem zd_Tape_isWord_28 : decode zb_Tape_isWord 28 = .ok (.aload_n 1, 1) := by decide +kernel
theorem zd_Tape_isWord_29 : decode zb_Tape_isWord 29 = .ok (.invokevirtual 53, 3) := by decide +kernel
theorem zd_Tape_isWord_32 : decode zb_Tape_isWord 32 = .ok (.if_icmp .ge 30, 3) := by decide +kernel
theorem zd_Tape_isWord_35 : decode zb_Tape_isWord 35 = .ok (.aload_n 0, 1) := by decide +kernel
theorem zd_Tape_isWord_36 : decode zb_Tape_isWord 36 = .ok (.getfield 9, 3) := by decide +kernel
theorem zd_Tape_isWord_39 : decode zb_Tape_isWord 39 = .ok (.aload_n 0, 1) := by decide +kernel
theorem zd_Tape_isWord_40 : decode zb_Tape_isWord 40 = .ok (.getfield 22, 3) := by decide +kernel
theorem zd_Tape_isWord_43 : decode zb_Tape_isWord 43 = .ok (.iload_n 2, 1) := by decide +kernel
theorem zd_Tape_isWord_44 : decode zb_Tape_isWord 44 = .ok (.iadd, 1) := by decide +kernel
theorem zd_Tape_isWord_45 : decode zb_Tape_isWord 45 = .ok (.iaload, 1) := by decide +kernel
theorem zd_Tape_isWord_46 : decode zb_Tape_isWord 46 = .ok (.aload_n 1, 1) := by decide +kernel
theorem zd_Tape_isWord_47 : decode zb_Tape_isWord 47 = .ok (.iload_n 2, 1) := by decide +kernel
theorem zd_Tape_isWord_48 : decode zb_Tape_isWord 48 = .ok (.invokevirtual 58, 3) := by decide +kernel
theorem zd_Tape_isWord_51 : decode zb_Tape_isWord 51 = .ok (.if_icmp .eq 5, 3) := by decide +kernel
theorem zd_Tape_isWord_54 : decode zb_Tape_isWord 54 = .ok (.iconst 0, 1) := by decide +kernel
theorem zd_Tape_isWord_55 : decode zb_Tape_isWord 55 = .ok (.ireturn, 1) := by decide +kernel
theorem zd_Tape_isWord_56 : decode zb_Tape_isWord 56 = .ok (.iinc 2 1, 3) := by decide +kernel
theorem zd_Tape_isWord_59 : decode zb_Tape_isWord 59 = .ok (.goto (-32), 3) := by decide +kernel
theorem zd_Tape_isWord_62 : decode zb_Tape_isWord 62 = .ok (.iconst 1, 1) := by decide +kernel
theorem zd_Tape_isWord_63 : decode zb_Tape_isWord 63 = .ok (.ireturn, 1) := by decide +kernel
set_option maxHeartbeats 4000000 in
theorem zl_Tape_isWord_B27 {p : Program} {l : Launch} {e : Env} {s : State} {m : MethodId} {args : Array Value} {below : List Frame} {meth : Method} {c : Code} {D : va_G} {cA : Nat → ClassId} {ad : Nat → Nat} {A : Nat → Prop} (B : zu_B p s m args c zb_Tape_isWord 3 "StonePost$Tape" D cA ad A) (hret : meth.sig.returnType = (some .boolean)) (hlk : meth.locks = false) {X : IX} {Y : LX} {res : Int32} {k27 : Nat → Int32 → Option Int32} (hk27 : ∀ (r1 : Nat) (x2 : Int32) (H : Heap) (locs : List Loc) (ls : Array Slot), va_P D zu_cl (zu_pic cA ad X Y) H → va_S A s.heap H locs → lv_has ls 3 [(0, .ref (ad 8)), (1, .ref (ad (200 + r1))), (2, .int x2)] → r1 < 20 → k27 r1 x2 = some res → W p l e zR_Tape_isWord s m args below meth c H locs 0 0 (MQ below (zu_Qi D cA ad A res X Y) args s 0 0 A) (F0 m 27 ls [])) (r1 : Nat) (x2 : Int32) (H : Heap) (locs : List Loc) (ls : Array Slot) (hP : va_P D zu_cl (zu_pic cA ad X Y) H) (hS : va_S A s.heap H locs) (hl : lv_has ls 3 [(0, .ref (ad 8)), (1, .ref (ad (200 + r1))), (2, .int x2)]) (hr1 : r1 < 20) (hf : fn_Tape_isWord_B27 X k27 r1 x2 = some res) : W p l e zR_Tape_isWord s m args below meth c H locs 0 0 (MQ below (zu_Qi D cA ad A res X Y) args s 0 0 A) (F0 m 27 ls []) := by
  obtain ⟨hx, hb, hml, hown, hts, hST⟩ := id B
  unfold fn_Tape_isWord_B27 at hf
  refine lv_iload_n hx hb zd_Tape_isWord_27 rfl (lv_at hl 2 rfl) ?_
  refine lv_aload_n hx hb zd_Tape_isWord_28 rfl (lv_at hl 1 rfl) ?_
  obtain ⟨v5, hq6, hf⟩ := zu_b1_e hf
  refine zw_Str_length (rest := [.int x2]) B hP hS hr1 hq6 zq_662 (Nat.le_of_ble_eq_true rfl) (Nat.le_of_ble_eq_true rfl) hl.1 rfl (Nat.le_of_ble_eq_true rfl) zd_Tape_isWord_29 (by decide) (fun H locs hP hS => ?_)
  clear hq6
  refine lv_icmp_ge (tgt := 62) hx hb zd_Tape_isWord_32 (by decide) (fun c7 => ?_) (fun c7 => ?_)
  · have hf := zu_t c7 hf
    refine lv_iconst (v := 1) hx hb zd_Tape_isWord_62 (by decide) ?_
    obtain rfl := Option.some.inj hf
    exact zr_zret hx hb hret hlk hP hS rfl zd_Tape_isWord_63
  · have hf := zu_f c7 hf
    refine lv_aload_n hx hb zd_Tape_isWord_35 rfl (lv_at hl 0 rfl) ?_
    refine zg_Tape_bytes B hP rfl zq_147 zd_Tape_isWord_36 ?_
    refine lv_aload_n hx hb zd_Tape_isWord_39 rfl (lv_at hl 0 rfl) ?_
    refine zg_Tape_start B hP rfl zq_154 zd_Tape_isWord_40 ?_
    refine lv_iload_n hx hb zd_Tape_isWord_43 rfl (lv_at hl 2 rfl) ?_
    refine lv_iadd hx hb zd_Tape_isWord_44 ?_
    obtain ⟨hg8, hf⟩ := zu_gd_e hf
    refine zr_iald rfl B hP rfl (by decide) rfl hg8 zd_Tape_isWord_45 ?_
    refine lv_aload_n hx hb zd_Tape_isWord_46 rfl (lv_at hl 1 rfl) ?_
    refine lv_iload_n hx hb zd_Tape_isWord_47 rfl (lv_at hl 2 rfl) ?_
    obtain ⟨v9, hq10, hf⟩ := zu_b1_e hf
    refine zw_Str_charAt (rest := [.int (X 9 (((X 8 3) + x2).toNatClampNeg))]) B hP hS hr1 hq10 zq_672 (Nat.le_of_ble_eq_true rfl) (Nat.le_of_ble_eq_true rfl) hl.1 rfl (Nat.le_of_ble_eq_true rfl) zd_Tape_isWord_48 (by decide) (fun H locs hP hS => ?_)
    clear hq10
    refine lv_icmp_eq (tgt := 56) hx hb zd_Tape_isWord_51 (by decide) (fun c11 => ?_) (fun c11 => ?_)
    · have hf := zu_t c11 hf
      obtain ⟨v12, ev12, hf⟩ := zu_nx_e hf
      refine lv_iinc (v := v12) (lv' := [(2, .int v12), (0, .ref (ad 8)), (1, .ref (ad (200 + r1)))]) hx hb zd_Tape_isWord_56 hl (k := 2) rfl (by rw [ev12]; rfl) (by decide) rfl (fun ls hl => ?_)
      clear ev12
      refine lv_goto (tgt := 27) hx hb zd_Tape_isWord_59 (by decide) ?_
      exact hk27 r1 v12 _ _ _ hP hS (lv_sub hl [1, 2, 0] rfl) hr1 hf
    · have hf := zu_f c11 hf
      refine lv_iconst (v := 0) hx hb zd_Tape_isWord_54 (by decide) ?_
      obtain rfl := Option.some.inj hf
      exact zr_zret hx hb hret hlk hP hS rfl zd_Tape_isWord_55
theorem zl_Tape_isWord_L27 {p : Program} {l : Launch} {e : Env} {s : State} {m : MethodId} {args : Array Value} {below : List Frame} {meth : Method} {c : Code} {D : va_G} {cA : Nat → ClassId} {ad : Nat → Nat} {A : Nat → Prop} (B : zu_B p s m args c zb_Tape_isWord 3 "StonePost$Tape" D cA ad A) (hret : meth.sig.returnType = (some .boolean)) (hlk : meth.locks = false) {X : IX} {Y : LX} {res : Int32} : ∀ (n : Nat) (r1 : Nat) (x2 : Int32) (H : Heap) (locs : List Loc) (ls : Array Slot), va_P D zu_cl (zu_pic cA ad X Y) H → va_S A s.heap H locs → lv_has ls 3 [(0, .ref (ad 8)), (1, .ref (ad (200 + r1))), (2, .int x2)] → r1 < 20 → fn_Tape_isWord_L27 X n r1 x2 = some res → W p l e zR_Tape_isWord s m args below meth c H locs 0 0 (MQ below (zu_Qi D cA ad A res X Y) args s 0 0 A) (F0 m 27 ls []) := by
  intro n
  induction n with
  | zero =>
    intro r1 x2 H locs ls hP hS hl hr1 hf
    exact (Option.some_ne_none _ hf.symm).elim
  | succ n ih =>
    intro r1 x2 H locs ls hP hS hl hr1 hf
    exact zl_Tape_isWord_B27 B hret hlk ih r1 x2 H locs ls hP hS hl hr1 hf
set_option maxHeartbeats 4000000 in
theorem zl_Tape_isWord_L23 {p : Program} {l : Launch} {e : Env} {s : State} {m : MethodId} {args : Array Value} {below : List Frame} {meth : Method} {c : Code} {D : va_G} {cA : Nat → ClassId} {ad : Nat → Nat} {A : Nat → Prop} (B : zu_B p s m args c zb_Tape_isWord 3 "StonePost$Tape" D cA ad A) (hret : meth.sig.returnType = (some .boolean)) (hlk : meth.locks = false) {X : IX} {Y : LX} {res : Int32} (H : Heap) (locs : List Loc) (ls : Array Slot) (hP : va_P D zu_cl (zu_pic cA ad X Y) H) (hS : va_S A s.heap H locs) (hl : lv_has ls 3 []) (hf : fn_Tape_isWord_L23 X = some res) : W p l e zR_Tape_isWord s m args below meth c H locs 0 0 (MQ below (zu_Qi D cA ad A res X Y) args s 0 0 A) (F0 m 23 ls []) := by
  obtain ⟨hx, hb, hml, hown, hts, hST⟩ := id B
  unfold fn_Tape_isWord_L23 at hf
  refine lv_iconst (v := 0) hx hb zd_Tape_isWord_23 (by decide) ?_
  obtain rfl := Option.some.inj hf
  exact zr_zret hx hb hret hlk hP hS rfl zd_Tape_isWord_24
set_option maxHeartbeats 4000000 in
theorem zl_Tape_isWord {p : Program} {l : Launch} {e : Env} {s : State} {m : MethodId} {args : Array Value} {below : List Frame} {meth : Method} {c : Code} {D : va_G} {cA : Nat → ClassId} {ad : Nat → Nat} {A : Nat → Prop} (B : zu_B p s m args c zb_Tape_isWord 3 "StonePost$Tape" D cA ad A) (hret : meth.sig.returnType = (some .boolean)) (hlk : meth.locks = false) {X : IX} {Y : LX} {res : Int32} {r1 : Nat} (H : Heap) (locs : List Loc) (ls : Array Slot) (hP : va_P D zu_cl (zu_pic cA ad X Y) H) (hS : va_S A s.heap H locs) (hl : lv_has ls 3 [(0, .ref (ad 8)), (1, .ref (ad (200 + r1)))]) (hr1 : r1 < 20) (hf : fn_Tape_isWord X r1 = some res) : W p l e zR_Tape_isWord s m args below meth c H locs 0 0 (MQ below (zu_Qi D cA ad A res X Y) args s 0 0 A) (F0 m 0 ls []) := by
  obtain ⟨hx, hb, hml, hown, hts, hST⟩ := id B
  unfold fn_Tape_isWord at hf
  refine lv_aload_n hx hb zd_Tape_isWord_0 rfl (lv_at hl 0 rfl) ?_
  refine zg_Tape_token B hP rfl zq_152 zd_Tape_isWord_1 ?_
  refine lv_if_ne (tgt := 23) hx hb zd_Tape_isWord_4 (by decide) (fun c1 => ?_) (fun c1 => ?_)
  · have hf := zu_f c1 hf
    exact zl_Tape_isWord_L23 B hret hlk _ _ _ hP hS (lv_sub hl [] rfl) hf
  · have hf := zu_t c1 hf
    refine lv_aload_n hx hb zd_Tape_isWord_7 rfl (lv_at hl 0 rfl) ?_
    refine zg_Tape_end B hP rfl zq_157 zd_Tape_isWord_8 ?_
    refine lv_aload_n hx hb zd_Tape_isWord_11 rfl (lv_at hl 0 rfl) ?_
    refine zg_Tape_start B hP rfl zq_154 zd_Tape_isWord_12 ?_
    refine lv_isub hx hb zd_Tape_isWord_15 ?_
    refine lv_aload_n hx hb zd_Tape_isWord_16 rfl (lv_at hl 1 rfl) ?_
    obtain ⟨v2, hq3, hf⟩ := zu_b1_e hf
    refine zw_Str_length (rest := [.int ((X 8 5) - (X 8 3))]) B hP hS hr1 hq3 zq_662 (Nat.le_of_ble_eq_true rfl) (Nat.le_of_ble_eq_true rfl) hl.1 rfl (Nat.le_of_ble_eq_true rfl) zd_Tape_isWord_17 (by decide) (fun H locs hP hS => ?_)
    clear hq3
    refine lv_icmp_eq (tgt := 25) hx hb zd_Tape_isWord_20 (by decide) (fun c4 => ?_) (fun c4 => ?_)
    · have hf := zu_t c4 hf
      refine lv_iconst (v := 0) hx hb zd_Tape_isWord_25 (by decide) ?_
      refine lv_istore_n (lv' := [(2, .int (0 : Int32)), (0, .ref (ad 8)), (1, .ref (ad (200 + r1)))]) hx hb zd_Tape_isWord_26 rfl hl (by decide) rfl (fun ls hl => ?_)
      exact zl_Tape_isWord_L27 B hret hlk 400 r1 (0 : Int32) _ _ _ hP hS (lv_sub hl [1, 2, 0] rfl) hr1 hf
    · have hf := zu_f c4 hf
      exact zl_Tape_isWord_L23 B hret hlk _ _ _ hP hS (lv_sub hl [] rfl) hf
theorem zC_Tape_isWord (l : Launch) {D : va_G} {cA : Nat → ClassId} {ad : Nat → Nat} {A : Nat → Prop} {r1 : Nat} {X : IX} {Y : LX} {res : Int32} (hr1 : r1 < 20) (hf : fn_Tape_isWord X r1 = some res) : Met l zm_Tape_isWord (zu_ws zm_Tape_isWord zb_Tape_isWord 3 (some .boolean)) zR_Tape_isWord (va_Pc [.ref (ad 8), .ref (ad (200 + r1))] (zu_Pre D cA ad A X Y)) (zu_Qi D cA ad A res X Y) 0 0 A := by
  refine Met.ofW (cc := zb_Tape_isWord) (maxL := 3) (ret := (some .boolean)) (by decide +kernel) rfl ?_
  intro p e s m args below meth c s₁ B0 hml hv
  obtain ⟨rfl, hP, hST⟩ := hv
  have B : zu_B p s m _ c zb_Tape_isWord 3 "StonePost$Tape" D cA ad A := ⟨B0.exec, B0.bytes, hml, findClass_of_methodNamed B0.named, (fun w hw => atoms_spec (ws := zu_ws zm_Tape_isWord zb_Tape_isWord 3 (some .boolean)) B0.pre w (List.mem_cons_of_mem _ hw)), hST⟩
  have hl := lv_entry ([.ref (ad 8), .ref (ad (200 + r1))]) (n := 3) (Nat.le_of_ble_eq_true rfl)
  rw [lg_entry_eq]
  generalize (lg_sl ([.ref (ad 8), .ref (ad (200 + r1))]) ++ List.replicate (3 - (lg_sl ([.ref (ad 8), .ref (ad (200 + r1))])).length) Slot.unset).toArray = ls at hl ⊢
  exact zl_Tape_isWord B B0.returns B0.notSynchronized s.heap [] ls hP va_S.rf hl hr1 hf
theorem zw_Tape_isWord {p : Program} {l : Launch} {e : Env} {R : Room} {s : State} {m : MethodId} {args : Array Value} {below : List Frame} {meth : Method} {c : Code} {H : Heap} {locs : List Loc} {cells slots : Nat} {Q : State → Prop} {cc : ByteArray} {pc nL : Nat} {ls : Array Slot} {rest st0 : List Value} {D : va_G} {cA : Nat → ClassId} {ad : Nat → Nat} {A : Nat → Prop} {X : IX} {Y : LX} {own : String} {index : Nat} {r1 : Nat} {v1 : Int32} (B : zu_B p s m args c cc nL own D cA ad A) (hP : va_P D zu_cl (zu_pic cA ad X Y) H) (hS : va_S A s.heap H locs) (hr1 : r1 < 20) (hq : fn_Tape_isWord X r1 = some v1) (m1 : Cond.methodLink own index zm_Tape_isWord ∈ zu_TB) (hR1 : 4 + 1 ≤ R.frames) (hR2 : 8 + (3 + 11) + 85 ≤ R.locals) (hsz : ls.size = nL) (hst : st0 = .ref (ad (200 + r1)) :: .ref (ad 8) :: rest) (hw : (rest.map fun v => v.category).sum ≤ 8) (hdg : decode cc pc = .ok (.invokevirtual index, 3)) (h00 : cells ≤ R.cells ∧ slots ≤ R.slots) (kk : ∀ (H1 : Heap) (locs1 : List Loc), va_P D zu_cl (zu_pic cA ad X Y) H1 → va_S A s.heap H1 locs1 → W p l e R s m args below meth c H1 locs1 cells slots Q (F0 m (pc + 3) ls (.int v1 :: rest))) : W p l e R s m args below meth c H locs cells slots Q (F0 m pc ls st0) := by
  subst hst
  exact zr_cVi (As := [.ref (ad (200 + r1))]) (rest := rest) (n := 1) (C := "StonePost$Tape") (T := zt_Tape) (N := 6) B hP hS (zC_Tape_isWord l hr1 hq) (K := 3) rfl (by decide) (by decide) rfl rfl m1 zq_659 zq_660 zq_6 zq_661 (by decide +kernel) ⟨hR1, hR2⟩ rfl rfl rfl hsz rfl hw hdg h00 kk
abbrev zR_Read_namedStuff : Room := { frames := 5, cells := 0, slots := 0, locals := 107 }
theorem zd_Read_namedStuff_0 : decode zb_Read_namedStuff 0 = .ok (.aload_n 0, 1) := by decide +kernel
theorem zd_Read_namedStuff_1 : decode zb_Read_namedStuff 1 = .ok (.ldc 63, 2) := by decide +kernel
theorem zd_Read_namedStuff_3 : decode zb_Read_namedStuff 3 = .ok (.invokevirtual 46, 3) := by decide +kernel
theorem zd_Read_namedStuff_6 : decode zb_Read_namedStuff 6 = .ok (.ifCond .eq 5, 3) := by decide +kernel
theorem zd_Read_namedStuff_9 : decode zb_Read_namedStuff 9 = .ok (.iconst 0, 1) := by decide +kernel
theorem zd_Read_namedStuff_10 : decode zb_Read_namedStuff 10 = .ok (.ireturn, 1) := by decide +kernel
theorem zd_Read_namedStuff_11 : decode zb_Read_namedStuff 11 = .ok (.aload_n 0, 1) := by decide +kernel
theorem zd_Read_namedStuff_12 : decode zb_Read_namedStuff 12 = .ok (.ldc 65, 2) := by decide +kernel
theorem zd_Read_namedStuff_14 : decode zb_Read_namedStuff 14 = .ok (.invokevirtual 46, 3) := by decide +kernel
theorem zd_Read_namedStuff_17 : decode zb_Read_namedStuff 17 = .ok (.ifCond .eq 5, 3) := by decide +kernel
theorem zd_Read_namedStuff_20 : decode zb_Read_namedStuff 20 = .ok (.iconst 1, 1) := by decide +kernel
theorem zd_Read_namedStuff_21 : decode zb_Read_namedStuff 21 = .ok (.ireturn, 1) := by decide +kernel
theorem zd_Read_namedStuff_22 : decode zb_Read_namedStuff 22 = .ok (.aload_n 0, 1) := by decide +kernel
theorem zd_Read_namedStuff_23 : decode zb_Read_namedStuff 23 = .ok (.ldc 69, 2) := by decide +kernel
theorem zd_Read_namedStuff_25 : decode zb_Read_namedStuff 25 = .ok (.invokevirtual 46, 3) := by decide +kernel
theorem zd_Read_namedStuff_28 : decode zb_Read_namedStuff 28 = .ok (.ifCond .eq 5, 3) := by decide +kernel
theorem zd_Read_namedStuff_31 : decode zb_Read_namedStuff 31 = .ok (.iconst 2, 1) := by decide +kernel
theorem zd_Read_namedStuff_32 : decode zb_Read_namedStuff 32 = .ok (.ireturn, 1) := by decide +kernel
theorem zd_Read_namedStuff_33 : decode zb_Read_namedStuff 33 = .ok (.aload_n 0, 1) := by decide +kernel
theorem zd_Read_namedStuff_34 : decode zb_Read_namedStuff 34 = .ok (.ldc 71, 2) := by decide +kernel
theorem zd_Read_namedStuff_36 : decode zb_Read_namedStuff 36 = .ok (.invokevirtual 46, 3) := by decide +kernel
theorem zd_Read_namedStuff_39 : decode zb_Read_namedStuff 39 = .ok (.ifCond .eq 7, 3) := by decide +kernel
theorem zd_Read_namedStuff_42 : decode zb_Read_namedStuff 42 = .ok (.iconst 3, 1) := by decide +kernel
theorem zd_Read_namedStuff_43 : decode zb_Read_namedStuff 43 = .ok (.goto 4, 3) := by decide +kernel
theorem zd_Read_namedStuff_46 : decode zb_Read_namedStuff 46 = .ok (.iconst (-1), 1) := by decide +kernel
theorem zd_Read_namedStuff_47 : decode zb_Read_namedStuff 47 = .ok (.ireturn, 1) := by decide +kernel
set_option maxHeartbeats 4000000 in
theorem zl_Read_namedStuff_L47 {p : Program} {l : Launch} {e : Env} {s : State} {m : MethodId} {args : Array Value} {below : List Frame} {meth : Method} {c : Code} {D : va_G} {cA : Nat → ClassId} {ad : Nat → Nat} {A : Nat → Prop} (B : zu_B p s m args c zb_Read_namedStuff 1 "StonePost$TextReader" D cA ad A) (hret : meth.sig.returnType = (some .int)) (hlk : meth.locks = false) {X : IX} {Y : LX} {res : Int32} (y0 : Int32) (H : Heap) (locs : List Loc) (ls : Array Slot) (hP : va_P D zu_cl (zu_pic cA ad X Y) H) (hS : va_S A s.heap H locs) (hl : lv_has ls 1 []) (hf : fn_Read_namedStuff_L47 X y0 = some res) : W p l e zR_Read_namedStuff s m args below meth c H locs 0 0 (MQ below (zu_Qi D cA ad A res X Y) args s 0 0 A) (F0 m 47 ls [.int y0]) := by
  obtain ⟨hx, hb, hml, hown, hts, hST⟩ := id B
  unfold fn_Read_namedStuff_L47 at hf
  obtain rfl := Option.some.inj hf
  exact zr_iret hx hb hret hlk hP hS zd_Read_namedStuff_47
set_option maxHeartbeats 4000000 in
theorem zl_Read_namedStuff {p : Program} {l : Launch} {e : Env} {s : State} {m : MethodId} {args : Array Value} {below : List Frame} {meth : Method} {c : Code} {D : va_G} {cA : Nat → ClassId} {ad : Nat → Nat} {A : Nat → Prop} (B : zu_B p s m args c zb_Read_namedStuff 1 "StonePost$TextReader" D cA ad A) (hret : meth.sig.returnType = (some .int)) (hlk : meth.locks = false) {X : IX} {Y : LX} {res : Int32} (H : Heap) (locs : List Loc) (ls : Array Slot) (hP : va_P D zu_cl (zu_pic cA ad X Y) H) (hS : va_S A s.heap H locs) (hl : lv_has ls 1 [(0, .ref (ad 8))]) (hf : fn_Read_namedStuff X = some res) : W p l e zR_Read_namedStuff s m args below meth c H locs 0 0 (MQ below (zu_Qi D cA ad A res X Y) args s 0 0 A) (F0 m 0 ls []) := by
  obtain ⟨hx, hb, hml, hown, hts, hST⟩ := id B
  unfold fn_Read_namedStuff at hf
  refine lv_aload_n hx hb zd_Read_namedStuff_0 rfl (lv_at hl 0 rfl) ?_
  refine va_ldcS hx hb hown (hST.2.2.2.2.1 3 (by decide)) zd_Read_namedStuff_1 ?_
  obtain ⟨v1, hq2, hf⟩ := zu_b1_e hf
  refine zw_Tape_isWord (rest := []) B hP hS (by decide) hq2 zq_658 (Nat.le_of_ble_eq_true rfl) (Nat.le_of_ble_eq_true rfl) hl.1 rfl (Nat.le_of_ble_eq_true rfl) zd_Read_namedStuff_3 (by decide) (fun H locs hP hS => ?_)
  clear hq2
  refine lv_if_eq (tgt := 11) hx hb zd_Read_namedStuff_6 (by decide) (fun c3 => ?_) (fun c3 => ?_)
  · have hf := zu_t c3 hf
    refine lv_aload_n hx hb zd_Read_namedStuff_11 rfl (lv_at hl 0 rfl) ?_
    refine va_ldcS hx hb hown (hST.2.2.2.2.1 4 (by decide)) zd_Read_namedStuff_12 ?_
    obtain ⟨v4, hq5, hf⟩ := zu_b1_e hf
    refine zw_Tape_isWord (rest := []) B hP hS (by decide) hq5 zq_658 (Nat.le_of_ble_eq_true rfl) (Nat.le_of_ble_eq_true rfl) hl.1 rfl (Nat.le_of_ble_eq_true rfl) zd_Read_namedStuff_14 (by decide) (fun H locs hP hS => ?_)
    clear hq5
    refine lv_if_eq (tgt := 22) hx hb zd_Read_namedStuff_17 (by decide) (fun c6 => ?_) (fun c6 => ?_)
    · have hf := zu_t c6 hf
      refine lv_aload_n hx hb zd_Read_namedStuff_22 rfl (lv_at hl 0 rfl) ?_
      refine va_ldcS hx hb hown (hST.2.2.2.2.1 5 (by decide)) zd_Read_namedStuff_23 ?_
      obtain ⟨v7, hq8, hf⟩ := zu_b1_e hf
      refine zw_Tape_isWord (rest := []) B hP hS (by decide) hq8 zq_658 (Nat.le_of_ble_eq_true rfl) (Nat.le_of_ble_eq_true rfl) hl.1 rfl (Nat.le_of_ble_eq_true rfl) zd_Read_namedStuff_25 (by decide) (fun H locs hP hS => ?_)
      clear hq8
      refine lv_if_eq (tgt := 33) hx hb zd_Read_namedStuff_28 (by decide) (fun c9 => ?_) (fun c9 => ?_)
      · have hf := zu_t c9 hf
        refine lv_aload_n hx hb zd_Read_namedStuff_33 rfl (lv_at hl 0 rfl) ?_
        refine va_ldcS hx hb hown (hST.2.2.2.2.1 6 (by decide)) zd_Read_namedStuff_34 ?_
        obtain ⟨v10, hq11, hf⟩ := zu_b1_e hf
        refine zw_Tape_isWord (rest := []) B hP hS (by decide) hq11 zq_658 (Nat.le_of_ble_eq_true rfl) (Nat.le_of_ble_eq_true rfl) hl.1 rfl (Nat.le_of_ble_eq_true rfl) zd_Read_namedStuff_36 (by decide) (fun H locs hP hS => ?_)
        clear hq11
        refine lv_if_eq (tgt := 46) hx hb zd_Read_namedStuff_39 (by decide) (fun c12 => ?_) (fun c12 => ?_)
        · have hf := zu_t c12 hf
          refine lv_iconst (v := -1) hx hb zd_Read_namedStuff_46 (by decide) ?_
          exact zl_Read_namedStuff_L47 B hret hlk (-1 : Int32) _ _ _ hP hS (lv_sub hl [] rfl) hf
        · have hf := zu_f c12 hf
          refine lv_iconst (v := 3) hx hb zd_Read_namedStuff_42 (by decide) ?_
          refine lv_goto (tgt := 47) hx hb zd_Read_namedStuff_43 (by decide) ?_
          exact zl_Read_namedStuff_L47 B hret hlk (3 : Int32) _ _ _ hP hS (lv_sub hl [] rfl) hf
      · have hf := zu_f c9 hf
        refine lv_iconst (v := 2) hx hb zd_Read_namedStuff_31 (by decide) ?_
        obtain rfl := Option.some.inj hf
        exact zr_iret hx hb hret hlk hP hS zd_Read_namedStuff_32
    · have hf := zu_f c6 hf
      refine lv_iconst (v := 1) hx hb zd_Read_namedStuff_20 (by decide) ?_
      obtain rfl := Option.some.inj hf
      exact zr_iret hx hb hret hlk hP hS zd_Read_namedStuff_21
  · have hf := zu_f c3 hf
    refine lv_iconst (v := 0) hx hb zd_Read_namedStuff_9 (by decide) ?_
    obtain rfl := Option.some.inj hf
    exact zr_iret hx hb hret hlk hP hS zd_Read_namedStuff_10
theorem zC_Read_namedStuff (l : Launch) {D : va_G} {cA : Nat → ClassId} {ad : Nat → Nat} {A : Nat → Prop} {X : IX} {Y : LX} {res : Int32} (hf : fn_Read_namedStuff X = some res) : Met l zm_Read_namedStuff (zu_ws zm_Read_namedStuff zb_Read_namedStuff 1 (some .int)) zR_Read_namedStuff (va_Pc [.ref (ad 8)] (zu_Pre D cA ad A X Y)) (zu_Qi D cA ad A res X Y) 0 0 A := by
  refine Met.ofW (cc := zb_Read_namedStuff) (maxL := 1) (ret := (some .int)) (by decide +kernel) rfl ?_
  intro p e s m args below meth c s₁ B0 hml hv
  obtain ⟨rfl, hP, hST⟩ := hv
  have B : zu_B p s m _ c zb_Read_namedStuff 1 "StonePost$TextReader" D cA ad A := ⟨B0.exec, B0.bytes, hml, findClass_of_methodNamed B0.named, (fun w hw => atoms_spec (ws := zu_ws zm_Read_namedStuff zb_Read_namedStuff 1 (some .int)) B0.pre w (List.mem_cons_of_mem _ hw)), hST⟩
  have hl := lv_entry ([.ref (ad 8)]) (n := 1) (Nat.le_of_ble_eq_true rfl)
  rw [lg_entry_eq]
  generalize (lg_sl ([.ref (ad 8)]) ++ List.replicate (1 - (lg_sl ([.ref (ad 8)])).length) Slot.unset).toArray = ls at hl ⊢
  exact zl_Read_namedStuff B B0.returns B0.notSynchronized s.heap [] ls hP va_S.rf hl  hf
theorem zw_Read_namedStuff {p : Program} {l : Launch} {e : Env} {R : Room} {s : State} {m : MethodId} {args : Array Value} {below : List Frame} {meth : Method} {c : Code} {H : Heap} {locs : List Loc} {cells slots : Nat} {Q : State → Prop} {cc : ByteArray} {pc nL : Nat} {ls : Array Slot} {rest st0 : List Value} {D : va_G} {cA : Nat → ClassId} {ad : Nat → Nat} {A : Nat → Prop} {X : IX} {Y : LX} {own : String} {index : Nat} {v1 : Int32} (B : zu_B p s m args c cc nL own D cA ad A) (hP : va_P D zu_cl (zu_pic cA ad X Y) H) (hS : va_S A s.heap H locs) (hq : fn_Read_namedStuff X = some v1) (m1 : Cond.methodLink own index zm_Read_namedStuff ∈ zu_TB) (hR1 : 5 + 1 ≤ R.frames) (hR2 : 8 + (1 + 11) + 107 ≤ R.locals) (hsz : ls.size = nL) (hst : st0 = .ref (ad 8) ::  rest) (hw : (rest.map fun v => v.category).sum ≤ 8) (hdg : decode cc pc = .ok (.invokestatic index, 3)) (h00 : cells ≤ R.cells ∧ slots ≤ R.slots) (kk : ∀ (H1 : Heap) (locs1 : List Loc), va_P D zu_cl (zu_pic cA ad X Y) H1 → va_S A s.heap H1 locs1 → W p l e R s m args below meth c H1 locs1 cells slots Q (F0 m (pc + 3) ls (.int v1 :: rest))) : W p l e R s m args below meth c H locs cells slots Q (F0 m pc ls st0) := by
  subst hst
  exact zr_cSi (As := [.ref (ad 8)]) (rest := rest) (n := 1) B hP hS (zC_Read_namedStuff l  hq) m1 zq_655 zq_12 zq_656 (by decide +kernel) ⟨hR1, hR2⟩ rfl rfl rfl hsz rfl hw hdg h00 kk
abbrev zR_Read_namedKind : Room := { frames := 5, cells := 0, slots := 0, locals := 107 }
theorem zd_Read_namedKind_0 : decode zb_Read_namedKind 0 = .ok (.aload_n 0, 1) := by decide +kernel
theorem zd_Read_namedKind_1 : decode zb_Read_namedKind 1 = .ok (.ldc 73, 2) := by decide +kernel
theorem zd_Read_namedKind_3 : decode zb_Read_namedKind 3 = .ok (.invokevirtual 46, 3) := by decide +kernel
theorem zd_Read_namedKind_6 : decode zb_Read_namedKind 6 = .ok (.ifCond .eq 5, 3) := by decide +kernel
theorem zd_Read_namedKind_9 : decode zb_Read_namedKind 9 = .ok (.iconst 0, 1) := by decide +kernel
theorem zd_Read_namedKind_10 : decode zb_Read_namedKind 10 = .ok (.ireturn, 1) := by decide +kernel
theorem zd_Read_namedKind_11 : decode zb_Read_namedKind 11 = .ok (.aload_n 0, 1) := by decide +kernel
theorem zd_Read_namedKind_12 : decode zb_Read_namedKind 12 = .ok (.ldc 75, 2) := by decide +kernel
theorem zd_Read_namedKind_14 : decode zb_Read_namedKind 14 = .ok (.invokevirtual 46, 3) := by decide +kernel
theorem zd_Read_namedKind_17 : decode zb_Read_namedKind 17 = .ok (.ifCond .eq 5, 3) := by decide +kernel
theorem zd_Read_namedKind_20 : decode zb_Read_namedKind 20 = .ok (.iconst 1, 1) := by decide +kernel
theorem zd_Read_namedKind_21 : decode zb_Read_namedKind 21 = .ok (.ireturn, 1) := by decide +kernel
theorem zd_Read_namedKind_22 : decode zb_Read_namedKind 22 = .ok (.aload_n 0, 1) := by decide +kernel
theorem zd_Read_namedKind_23 : decode zb_Read_namedKind 23 = .ok (.ldc 79, 2) := by decide +kernel
theorem zd_Read_namedKind_25 : decode zb_Read_namedKind 25 = .ok (.invokevirtual 46, 3) := by decide +kernel
theorem zd_Read_namedKind_28 : decode zb_Read_namedKind 28 = .ok (.ifCond .eq 5, 3) := by decide +kernel
theorem zd_Read_namedKind_31 : decode zb_Read_namedKind 31 = .ok (.iconst 2, 1) := by decide +kernel
theorem zd_Read_namedKind_32 : decode zb_Read_namedKind 32 = .ok (.ireturn, 1) := by decide +kernel
theorem zd_Read_namedKind_33 : decode zb_Read_namedKind 33 = .ok (.aload_n 0, 1) := by decide +kernel
theorem zd_Read_namedKind_34 : decode zb_Read_namedKind 34 = .ok (.ldc 81, 2) := by decide +kernel
theorem zd_Read_namedKind_36 : decode zb_Read_namedKind 36 = .ok (.invokevirtual 46, 3) := by decide +kernel
theorem zd_Read_namedKind_39 : decode zb_Read_namedKind 39 = .ok (.ifCond .eq 5, 3) := by decide +kernel
theorem zd_Read_namedKind_42 : decode zb_Read_namedKind 42 = .ok (.iconst 3, 1) := by decide +kernel
theorem zd_Read_namedKind_43 : decode zb_Read_namedKind 43 = .ok (.ireturn, 1) := by decide +kernel
theorem zd_Read_namedKind_44 : decode zb_Read_namedKind 44 = .ok (.aload_n 0, 1) := by decide +kernel
theorem zd_Read_namedKind_45 : decode zb_Read_namedKind 45 = .ok (.ldc 83, 2) := by decide +kernel
theorem zd_Read_namedKind_47 : decode zb_Read_namedKind 47 = .ok (.invokevirtual 46, 3) := by decide +kernel
theorem zd_Read_namedKind_50 : decode zb_Read_namedKind 50 = .ok (.ifCond .eq 5, 3) := by decide +kernel
theorem zd_Read_namedKind_53 : decode zb_Read_namedKind 53 = .ok (.iconst 4, 1) := by decide +kernel
theorem zd_Read_namedKind_54 : decode zb_Read_namedKind 54 = .ok (.ireturn, 1) := by decide +kernel
theorem zd_Read_namedKind_55 : decode zb_Read_namedKind 55 = .ok (.aload_n 0, 1) := by decide +kernel
theorem zd_Read_namedKind_56 : decode zb_Read_namedKind 56 = .ok (.ldc 85, 2) := by decide +kernel
theorem zd_Read_namedKind_58 : decode zb_Read_namedKind 58 = .ok (.invokevirtual 46, 3) := by decide +kernel
theorem zd_Read_namedKind_61 : decode zb_Read_namedKind 61 = .ok (.ifCond .eq 5, 3) := by decide +kernel
theorem zd_Read_namedKind_64 : decode zb_Read_namedKind 64 = .ok (.iconst 5, 1) := by decide +kernel
theorem zd_Read_namedKind_65 : decode zb_Read_namedKind 65 = .ok (.ireturn, 1) := by decide +kernel
theorem zd_Read_namedKind_66 : decode zb_Read_namedKind 66 = .ok (.aload_n 0, 1) := by decide +kernel
theorem zd_Read_namedKind_67 : decode zb_Read_namedKind 67 = .ok (.ldc 87, 2) := by decide +kernel
theorem zd_Read_namedKind_69 : decode zb_Read_namedKind 69 = .ok (.invokevirtual 46, 3) := by decide +kernel
theorem zd_Read_namedKind_72 : decode zb_Read_namedKind 72 = .ok (.ifCond .eq 8, 3) := by decide +kernel
theorem zd_Read_namedKind_75 : decode zb_Read_namedKind 75 = .ok (.bipush 6, 2) := by decide +kernel
theorem zd_Read_namedKind_77 : decode zb_Read_namedKind 77 = .ok (.goto 4, 3) := by decide +kernel
theorem zd_Read_namedKind_80 : decode zb_Read_namedKind 80 = .ok (.iconst (-1), 1) := by decide +kernel
theorem zd_Read_namedKind_81 : decode zb_Read_namedKind 81 = .ok (.ireturn, 1) := by decide +kernel
set_option maxHeartbeats 4000000 in
theorem zl_Read_namedKind_L81 {p : Program} {l : Launch} {e : Env} {s : State} {m : MethodId} {args : Array Value} {below : List Frame} {meth : Method} {c : Code} {D : va_G} {cA : Nat → ClassId} {ad : Nat → Nat} {A : Nat → Prop} (B : zu_B p s m args c zb_Read_namedKind 1 "StonePost$TextReader" D cA ad A) (hret : meth.sig.returnType = (some .int)) (hlk : meth.locks = false) {X : IX} {Y : LX} {res : Int32} (y0 : Int32) (H : Heap) (locs : List Loc) (ls : Array Slot) (hP : va_P D zu_cl (zu_pic cA ad X Y) H) (hS : va_S A s.heap H locs) (hl : lv_has ls 1 []) (hf : fn_Read_namedKind_L81 X y0 = some res) : W p l e zR_Read_namedKind s m args below meth c H locs 0 0 (MQ below (zu_Qi D cA ad A res X Y) args s 0 0 A) (F0 m 81 ls [.int y0]) := by
  obtain ⟨hx, hb, hml, hown, hts, hST⟩ := id B
  unfold fn_Read_namedKind_L81 at hf
  obtain rfl := Option.some.inj hf
  exact zr_iret hx hb hret hlk hP hS zd_Read_namedKind_81
set_option maxHeartbeats 4000000 in
theorem zl_Read_namedKind {p : Program} {l : Launch} {e : Env} {s : State} {m : MethodId} {args : Array Value} {below : List Frame} {meth : Method} {c : Code} {D : va_G} {cA : Nat → ClassId} {ad : Nat → Nat} {A : Nat → Prop} (B : zu_B p s m args c zb_Read_namedKind 1 "StonePost$TextReader" D cA ad A) (hret : meth.sig.returnType = (some .int)) (hlk : meth.locks = false) {X : IX} {Y : LX} {res : Int32} (H : Heap) (locs : List Loc) (ls : Array Slot) (hP : va_P D zu_cl (zu_pic cA ad X Y) H) (hS : va_S A s.heap H locs) (hl : lv_has ls 1 [(0, .ref (ad 8))]) (hf : fn_Read_namedKind X = some res) : W p l e zR_Read_namedKind s m args below meth c H locs 0 0 (MQ below (zu_Qi D cA ad A res X Y) args s 0 0 A) (F0 m 0 ls []) := by
  obtain ⟨hx, hb, hml, hown, hts, hST⟩ := id B
  unfold fn_Read_namedKind at hf
  refine lv_aload_n hx hb zd_Read_namedKind_0 rfl (lv_at hl 0 rfl) ?_
  refine va_ldcS hx hb hown (hST.2.2.2.2.1 7 (by decide)) zd_Read_namedKind_1 ?_
  obtain ⟨v1, hq2, hf⟩ := zu_b1_e hf
  refine zw_Tape_isWord (rest := []) B hP hS (by decide) hq2 zq_658 (Nat.le_of_ble_eq_true rfl) (Nat.le_of_ble_eq_true rfl) hl.1 rfl (Nat.le_of_ble_eq_true rfl) zd_Read_namedKind_3 (by decide) (fun H locs hP hS => ?_)
  clear hq2
  refine lv_if_eq (tgt := 11) hx hb zd_Read_namedKind_6 (by decide) (fun c3 => ?_) (fun c3 => ?_)
  · have hf := zu_t c3 hf
    refine lv_aload_n hx hb zd_Read_namedKind_11 rfl (lv_at hl 0 rfl) ?_
    refine va_ldcS hx hb hown (hST.2.2.2.2.1 8 (by decide)) zd_Read_namedKind_12 ?_
    obtain ⟨v4, hq5, hf⟩ := zu_b1_e hf
    refine zw_Tape_isWord (rest := []) B hP hS (by decide) hq5 zq_658 (Nat.le_of_ble_eq_true rfl) (Nat.le_of_ble_eq_true rfl) hl.1 rfl (Nat.le_of_ble_eq_true rfl) zd_Read_namedKind_14 (by decide) (fun H locs hP hS => ?_)
    clear hq5
    refine lv_if_eq (tgt := 22) hx hb zd_Read_namedKind_17 (by decide) (fun c6 => ?_) (fun c6 => ?_)
    · have hf := zu_t c6 hf
      refine lv_aload_n hx hb zd_Read_namedKind_22 rfl (lv_at hl 0 rfl) ?_
      refine va_ldcS hx hb hown (hST.2.2.2.2.1 9 (by decide)) zd_Read_namedKind_23 ?_
      obtain ⟨v7, hq8, hf⟩ := zu_b1_e hf
      refine zw_Tape_isWord (rest := []) B hP hS (by decide) hq8 zq_658 (Nat.le_of_ble_eq_true rfl) (Nat.le_of_ble_eq_true rfl) hl.1 rfl (Nat.le_of_ble_eq_true rfl) zd_Read_namedKind_25 (by decide) (fun H locs hP hS => ?_)
      clear hq8
      refine lv_if_eq (tgt := 33) hx hb zd_Read_namedKind_28 (by decide) (fun c9 => ?_) (fun c9 => ?_)
      · have hf := zu_t c9 hf
        refine lv_aload_n hx hb zd_Read_namedKind_33 rfl (lv_at hl 0 rfl) ?_
        refine va_ldcS hx hb hown (hST.2.2.2.2.1 10 (by decide)) zd_Read_namedKind_34 ?_
        obtain ⟨v10, hq11, hf⟩ := zu_b1_e hf
        refine zw_Tape_isWord (rest := []) B hP hS (by decide) hq11 zq_658 (Nat.le_of_ble_eq_true rfl) (Nat.le_of_ble_eq_true rfl) hl.1 rfl (Nat.le_of_ble_eq_true rfl) zd_Read_namedKind_36 (by decide) (fun H locs hP hS => ?_)
        clear hq11
        refine lv_if_eq (tgt := 44) hx hb zd_Read_namedKind_39 (by decide) (fun c12 => ?_) (fun c12 => ?_)
        · have hf := zu_t c12 hf
          refine lv_aload_n hx hb zd_Read_namedKind_44 rfl (lv_at hl 0 rfl) ?_
          refine va_ldcS hx hb hown (hST.2.2.2.2.1 11 (by decide)) zd_Read_namedKind_45 ?_
          obtain ⟨v13, hq14, hf⟩ := zu_b1_e hf
          refine zw_Tape_isWord (rest := []) B hP hS (by decide) hq14 zq_658 (Nat.le_of_ble_eq_true rfl) (Nat.le_of_ble_eq_true rfl) hl.1 rfl (Nat.le_of_ble_eq_true rfl) zd_Read_namedKind_47 (by decide) (fun H locs hP hS => ?_)
          clear hq14
          refine lv_if_eq (tgt := 55) hx hb zd_Read_namedKind_50 (by decide) (fun c15 => ?_) (fun c15 => ?_)
          · have hf := zu_t c15 hf
            refine lv_aload_n hx hb zd_Read_namedKind_55 rfl (lv_at hl 0 rfl) ?_
            refine va_ldcS hx hb hown (hST.2.2.2.2.1 12 (by decide)) zd_Read_namedKind_56 ?_
            obtain ⟨v16, hq17, hf⟩ := zu_b1_e hf
            refine zw_Tape_isWord (rest := []) B hP hS (by decide) hq17 zq_658 (Nat.le_of_ble_eq_true rfl) (Nat.le_of_ble_eq_true rfl) hl.1 rfl (Nat.le_of_ble_eq_true rfl) zd_Read_namedKind_58 (by decide) (fun H locs hP hS => ?_)
            clear hq17
            refine lv_if_eq (tgt := 66) hx hb zd_Read_namedKind_61 (by decide) (fun c18 => ?_) (fun c18 => ?_)
            · have hf := zu_t c18 hf
              refine lv_aload_n hx hb zd_Read_namedKind_66 rfl (lv_at hl 0 rfl) ?_
              refine va_ldcS hx hb hown (hST.2.2.2.2.1 13 (by decide)) zd_Read_namedKind_67 ?_
              obtain ⟨v19, hq20, hf⟩ := zu_b1_e hf
              refine zw_Tape_isWord (rest := []) B hP hS (by decide) hq20 zq_658 (Nat.le_of_ble_eq_true rfl) (Nat.le_of_ble_eq_true rfl) hl.1 rfl (Nat.le_of_ble_eq_true rfl) zd_Read_namedKind_69 (by decide) (fun H locs hP hS => ?_)
              clear hq20
              refine lv_if_eq (tgt := 80) hx hb zd_Read_namedKind_72 (by decide) (fun c21 => ?_) (fun c21 => ?_)
              · have hf := zu_t c21 hf
                refine lv_iconst (v := -1) hx hb zd_Read_namedKind_80 (by decide) ?_
                exact zl_Read_namedKind_L81 B hret hlk (-1 : Int32) _ _ _ hP hS (lv_sub hl [] rfl) hf
              · have hf := zu_f c21 hf
                refine lv_bipush (v := 6) hx hb zd_Read_namedKind_75 (by decide) ?_
                refine lv_goto (tgt := 81) hx hb zd_Read_namedKind_77 (by decide) ?_
                exact zl_Read_namedKind_L81 B hret hlk (6 : Int32) _ _ _ hP hS (lv_sub hl [] rfl) hf
            · have hf := zu_f c18 hf
              refine lv_iconst (v := 5) hx hb zd_Read_namedKind_64 (by decide) ?_
              obtain rfl := Option.some.inj hf
              exact zr_iret hx hb hret hlk hP hS zd_Read_namedKind_65
          · have hf := zu_f c15 hf
            refine lv_iconst (v := 4) hx hb zd_Read_namedKind_53 (by decide) ?_
            obtain rfl := Option.some.inj hf
            exact zr_iret hx hb hret hlk hP hS zd_Read_namedKind_54
        · have hf := zu_f c12 hf
          refine lv_iconst (v := 3) hx hb zd_Read_namedKind_42 (by decide) ?_
          obtain rfl := Option.some.inj hf
          exact zr_iret hx hb hret hlk hP hS zd_Read_namedKind_43
      · have hf := zu_f c9 hf
        refine lv_iconst (v := 2) hx hb zd_Read_namedKind_31 (by decide) ?_
        obtain rfl := Option.some.inj hf
        exact zr_iret hx hb hret hlk hP hS zd_Read_namedKind_32
    · have hf := zu_f c6 hf
      refine lv_iconst (v := 1) hx hb zd_Read_namedKind_20 (by decide) ?_
      obtain rfl := Option.some.inj hf
      exact zr_iret hx hb hret hlk hP hS zd_Read_namedKind_21
  · have hf := zu_f c3 hf
    refine lv_iconst (v := 0) hx hb zd_Read_namedKind_9 (by decide) ?_
    obtain rfl := Option.some.inj hf
    exact zr_iret hx hb hret hlk hP hS zd_Read_namedKind_10
theorem zC_Read_namedKind (l : Launch) {D : va_G} {cA : Nat → ClassId} {ad : Nat → Nat} {A : Nat → Prop} {X : IX} {Y : LX} {res : Int32} (hf : fn_Read_namedKind X = some res) : Met l zm_Read_namedKind (zu_ws zm_Read_namedKind zb_Read_namedKind 1 (some .int)) zR_Read_namedKind (va_Pc [.ref (ad 8)] (zu_Pre D cA ad A X Y)) (zu_Qi D cA ad A res X Y) 0 0 A := by
  refine Met.ofW (cc := zb_Read_namedKind) (maxL := 1) (ret := (some .int)) (by decide +kernel) rfl ?_
  intro p e s m args below meth c s₁ B0 hml hv
  obtain ⟨rfl, hP, hST⟩ := hv
  have B : zu_B p s m _ c zb_Read_namedKind 1 "StonePost$TextReader" D cA ad A := ⟨B0.exec, B0.bytes, hml, findClass_of_methodNamed B0.named, (fun w hw => atoms_spec (ws := zu_ws zm_Read_namedKind zb_Read_namedKind 1 (some .int)) B0.pre w (List.mem_cons_of_mem _ hw)), hST⟩
  have hl := lv_entry ([.ref (ad 8)]) (n := 1) (Nat.le_of_ble_eq_true rfl)
  rw [lg_entry_eq]
  generalize (lg_sl ([.ref (ad 8)]) ++ List.replicate (1 - (lg_sl ([.ref (ad 8)])).length) Slot.unset).toArray = ls at hl ⊢
  exact zl_Read_namedKind B B0.returns B0.notSynchronized s.heap [] ls hP va_S.rf hl  hf
theorem zw_Read_namedKind {p : Program} {l : Launch} {e : Env} {R : Room} {s : State} {m : MethodId} {args : Array Value} {below : List Frame} {meth : Method} {c : Code} {H : Heap} {locs : List Loc} {cells slots : Nat} {Q : State → Prop} {cc : ByteArray} {pc nL : Nat} {ls : Array Slot} {rest st0 : List Value} {D : va_G} {cA : Nat → ClassId} {ad : Nat → Nat} {A : Nat → Prop} {X : IX} {Y : LX} {own : String} {index : Nat} {v1 : Int32} (B : zu_B p s m args c cc nL own D cA ad A) (hP : va_P D zu_cl (zu_pic cA ad X Y) H) (hS : va_S A s.heap H locs) (hq : fn_Read_namedKind X = some v1) (m1 : Cond.methodLink own index zm_Read_namedKind ∈ zu_TB) (hR1 : 5 + 1 ≤ R.frames) (hR2 : 8 + (1 + 11) + 107 ≤ R.locals) (hsz : ls.size = nL) (hst : st0 = .ref (ad 8) ::  rest) (hw : (rest.map fun v => v.category).sum ≤ 8) (hdg : decode cc pc = .ok (.invokestatic index, 3)) (h00 : cells ≤ R.cells ∧ slots ≤ R.slots) (kk : ∀ (H1 : Heap) (locs1 : List Loc), va_P D zu_cl (zu_pic cA ad X Y) H1 → va_S A s.heap H1 locs1 → W p l e R s m args below meth c H1 locs1 cells slots Q (F0 m (pc + 3) ls (.int v1 :: rest))) : W p l e R s m args below meth c H locs cells slots Q (F0 m pc ls st0) := by
  subst hst
  exact zr_cSi (As := [.ref (ad 8)]) (rest := rest) (n := 1) B hP hS (zC_Read_namedKind l  hq) m1 zq_724 zq_12 zq_725 (by decide +kernel) ⟨hR1, hR2⟩ rfl rfl rfl hsz rfl hw hdg h00 kk
abbrev zR_Tape_isNumber : Room := { frames := 1, cells := 0, slots := 0, locals := 22 }
theorem zd_Tape_isNumber_0 : decode zb_Tape_isNumber 0 = .ok (.aload_n 0, 1) := by decide +kernel
theorem zd_Tape_isNumber_1 : decode zb_Tape_isNumber 1 = .ok (.getfield 28, 3) := by decide +kernel
theorem zd_Tape_isNumber_4 : decode zb_Tape_isNumber 4 = .ok (.iconst 1, 1) := by decide +kernel
theorem zd_Tape_isNumber_5 : decode zb_Tape_isNumber 5 = .ok (.if_icmp .ne 19, 3) := by decide +kernel
theorem zd_Tape_isNumber_8 : decode zb_Tape_isNumber 8 = .ok (.aload_n 0, 1) := by decide +kernel
theorem zd_Tape_isNumber_9 : decode zb_Tape_isNumber 9 = .ok (.getfield 44, 3) := by decide +kernel
theorem zd_Tape_isNumber_12 : decode zb_Tape_isNumber 12 = .ok (.iload_n 1, 1) := by decide +kernel
theorem zd_Tape_isNumber_13 : decode zb_Tape_isNumber 13 = .ok (.iload_n 2, 1) := by decide +kernel
theorem zd_Tape_isNumber_14 : decode zb_Tape_isNumber 14 = .ok (.invokestatic 62, 3) := by decide +kernel
theorem zd_Tape_isNumber_17 : decode zb_Tape_isNumber 17 = .ok (.ifCond .eq 7, 3) := by decide +kernel
theorem zd_Tape_isNumber_20 : decode zb_Tape_isNumber 20 = .ok (.iconst 1, 1) := by decide +kernel
theorem zd_Tape_isNumber_21 : decode zb_Tape_isNumber 21 = .ok (.goto 4, 3) := by decide +kernel
theorem zd_Tape_isNumber_24 : decode zb_Tape_isNumber 24 = .ok (.iconst 0, 1) := by decide +kernel
theorem zd_Tape_isNumber_25 : decode zb_Tape_isNumber 25 = .ok (.ireturn, 1) := by decide +kernel
set_option maxHeartbeats 4000000 in
theorem zl_Tape_isNumber_L25 {p : Program} {l : Launch} {e : Env} {s : State} {m : MethodId} {args : Array Value} {below : List Frame} {meth : Method} {c : Code} {D : va_G} {cA : Nat → ClassId} {ad : Nat → Nat} {A : Nat → Prop} (B : zu_B p s m args c zb_Tape_isNumber 3 "StonePost$Tape" D cA ad A) (hret : meth.sig.returnType = (some .boolean)) (hlk : meth.locks = false) {X : IX} {Y : LX} {res : Int32} (y0 : Int32) (H : Heap) (locs : List Loc) (ls : Array Slot) (hP : va_P D zu_cl (zu_pic cA ad X Y) H) (hS : va_S A s.heap H locs) (hl : lv_has ls 3 []) (hf : fn_Tape_isNumber_L25 X y0 = some res) : W p l e zR_Tape_isNumber s m args below meth c H locs 0 0 (MQ below (zu_Qi D cA ad A res X Y) args s 0 0 A) (F0 m 25 ls [.int y0]) := by
  obtain ⟨hx, hb, hml, hown, hts, hST⟩ := id B
  unfold fn_Tape_isNumber_L25 at hf
  obtain ⟨hg5, hf⟩ := zu_gd_e hf
  obtain rfl := Option.some.inj hf
  exact zr_zret hx hb hret hlk hP hS hg5 zd_Tape_isNumber_25
set_option maxHeartbeats 4000000 in
theorem zl_Tape_isNumber_L24 {p : Program} {l : Launch} {e : Env} {s : State} {m : MethodId} {args : Array Value} {below : List Frame} {meth : Method} {c : Code} {D : va_G} {cA : Nat → ClassId} {ad : Nat → Nat} {A : Nat → Prop} (B : zu_B p s m args c zb_Tape_isNumber 3 "StonePost$Tape" D cA ad A) (hret : meth.sig.returnType = (some .boolean)) (hlk : meth.locks = false) {X : IX} {Y : LX} {res : Int32} (H : Heap) (locs : List Loc) (ls : Array Slot) (hP : va_P D zu_cl (zu_pic cA ad X Y) H) (hS : va_S A s.heap H locs) (hl : lv_has ls 3 []) (hf : fn_Tape_isNumber_L24 X = some res) : W p l e zR_Tape_isNumber s m args below meth c H locs 0 0 (MQ below (zu_Qi D cA ad A res X Y) args s 0 0 A) (F0 m 24 ls []) := by
  obtain ⟨hx, hb, hml, hown, hts, hST⟩ := id B
  unfold fn_Tape_isNumber_L24 at hf
  refine lv_iconst (v := 0) hx hb zd_Tape_isNumber_24 (by decide) ?_
  exact zl_Tape_isNumber_L25 B hret hlk (0 : Int32) _ _ _ hP hS (lv_sub hl [] rfl) hf
set_option maxHeartbeats 4000000 in
theorem zl_Tape_isNumber {p : Program} {l : Launch} {e : Env} {s : State} {m : MethodId} {args : Array Value} {below : List Frame} {meth : Method} {c : Code} {D : va_G} {cA : Nat → ClassId} {ad : Nat → Nat} {A : Nat → Prop} (B : zu_B p s m args c zb_Tape_isNumber 3 "StonePost$Tape" D cA ad A) (hret : meth.sig.returnType = (some .boolean)) (hlk : meth.locks = false) {X : IX} {Y : LX} {res : Int32} {a1 : Int32} {a2 : Int32} (H : Heap) (locs : List Loc) (ls : Array Slot) (hP : va_P D zu_cl (zu_pic cA ad X Y) H) (hS : va_S A s.heap H locs) (hl : lv_has ls 3 [(0, .ref (ad 8)), (1, .int a1), (2, .int a2)]) (hf : fn_Tape_isNumber X a1 a2 = some res) : W p l e zR_Tape_isNumber s m args below meth c H locs 0 0 (MQ below (zu_Qi D cA ad A res X Y) args s 0 0 A) (F0 m 0 ls []) := by
  obtain ⟨hx, hb, hml, hown, hts, hST⟩ := id B
  unfold fn_Tape_isNumber at hf
  refine lv_aload_n hx hb zd_Tape_isNumber_0 rfl (lv_at hl 0 rfl) ?_
  refine zg_Tape_token B hP rfl zq_152 zd_Tape_isNumber_1 ?_
  refine lv_iconst (v := 1) hx hb zd_Tape_isNumber_4 (by decide) ?_
  refine lv_icmp_ne (tgt := 24) hx hb zd_Tape_isNumber_5 (by decide) (fun c1 => ?_) (fun c1 => ?_)
  · have hf := zu_f c1 hf
    exact zl_Tape_isNumber_L24 B hret hlk _ _ _ hP hS (lv_sub hl [] rfl) hf
  · have hf := zu_t c1 hf
    refine lv_aload_n hx hb zd_Tape_isNumber_8 rfl (lv_at hl 0 rfl) ?_
    refine zg_Tape_value B hP rfl zq_155 zd_Tape_isNumber_9 ?_
    refine lv_iload_n hx hb zd_Tape_isNumber_12 rfl (lv_at hl 1 rfl) ?_
    refine lv_iload_n hx hb zd_Tape_isNumber_13 rfl (lv_at hl 2 rfl) ?_
    obtain ⟨v2, hq3, hf⟩ := zu_b1_e hf
    refine zwN_Post_isWithin (rest := []) B hP hS hq3 (hST.2.2.2.2.2.2.2.2.2.2.2.1) (Nat.le_of_ble_eq_true rfl) (Nat.le_of_ble_eq_true rfl) hl.1 rfl (Nat.le_of_ble_eq_true rfl) zd_Tape_isNumber_14 (by decide) (fun H locs hP hS => ?_)
    clear hq3
    refine lv_if_eq (tgt := 24) hx hb zd_Tape_isNumber_17 (by decide) (fun c4 => ?_) (fun c4 => ?_)
    · have hf := zu_t c4 hf
      exact zl_Tape_isNumber_L24 B hret hlk _ _ _ hP hS (lv_sub hl [] rfl) hf
    · have hf := zu_f c4 hf
      refine lv_iconst (v := 1) hx hb zd_Tape_isNumber_20 (by decide) ?_
      refine lv_goto (tgt := 25) hx hb zd_Tape_isNumber_21 (by decide) ?_
      exact zl_Tape_isNumber_L25 B hret hlk (1 : Int32) _ _ _ hP hS (lv_sub hl [] rfl) hf
theorem zC_Tape_isNumber (l : Launch) {D : va_G} {cA : Nat → ClassId} {ad : Nat → Nat} {A : Nat → Prop} {a1 : Int32} {a2 : Int32} {X : IX} {Y : LX} {res : Int32} (hf : fn_Tape_isNumber X a1 a2 = some res) : Met l zm_Tape_isNumber (zu_ws zm_Tape_isNumber zb_Tape_isNumber 3 (some .boolean)) zR_Tape_isNumber (va_Pc [.ref (ad 8), .int a1, .int a2] (zu_Pre D cA ad A X Y)) (zu_Qi D cA ad A res X Y) 0 0 A := by
  refine Met.ofW (cc := zb_Tape_isNumber) (maxL := 3) (ret := (some .boolean)) (by decide +kernel) rfl ?_
  intro p e s m args below meth c s₁ B0 hml hv
  obtain ⟨rfl, hP, hST⟩ := hv
  have B : zu_B p s m _ c zb_Tape_isNumber 3 "StonePost$Tape" D cA ad A := ⟨B0.exec, B0.bytes, hml, findClass_of_methodNamed B0.named, (fun w hw => atoms_spec (ws := zu_ws zm_Tape_isNumber zb_Tape_isNumber 3 (some .boolean)) B0.pre w (List.mem_cons_of_mem _ hw)), hST⟩
  have hl := lv_entry ([.ref (ad 8), .int a1, .int a2]) (n := 3) (Nat.le_of_ble_eq_true rfl)
  rw [lg_entry_eq]
  generalize (lg_sl ([.ref (ad 8), .int a1, .int a2]) ++ List.replicate (3 - (lg_sl ([.ref (ad 8), .int a1, .int a2])).length) Slot.unset).toArray = ls at hl ⊢
  exact zl_Tape_isNumber B B0.returns B0.notSynchronized s.heap [] ls hP va_S.rf hl  hf
theorem zw_Tape_isNumber {p : Program} {l : Launch} {e : Env} {R : Room} {s : State} {m : MethodId} {args : Array Value} {below : List Frame} {meth : Method} {c : Code} {H : Heap} {locs : List Loc} {cells slots : Nat} {Q : State → Prop} {cc : ByteArray} {pc nL : Nat} {ls : Array Slot} {rest st0 : List Value} {D : va_G} {cA : Nat → ClassId} {ad : Nat → Nat} {A : Nat → Prop} {X : IX} {Y : LX} {own : String} {index : Nat} {a1 : Int32} {a2 : Int32} {v1 : Int32} (B : zu_B p s m args c cc nL own D cA ad A) (hP : va_P D zu_cl (zu_pic cA ad X Y) H) (hS : va_S A s.heap H locs) (hq : fn_Tape_isNumber X a1 a2 = some v1) (m1 : Cond.methodLink own index zm_Tape_isNumber ∈ zu_TB) (hR1 : 1 + 1 ≤ R.frames) (hR2 : 8 + (3 + 11) + 22 ≤ R.locals) (hsz : ls.size = nL) (hst : st0 = .int a2 :: .int a1 :: .ref (ad 8) :: rest) (hw : (rest.map fun v => v.category).sum ≤ 8) (hdg : decode cc pc = .ok (.invokevirtual index, 3)) (h00 : cells ≤ R.cells ∧ slots ≤ R.slots) (kk : ∀ (H1 : Heap) (locs1 : List Loc), va_P D zu_cl (zu_pic cA ad X Y) H1 → va_S A s.heap H1 locs1 → W p l e R s m args below meth c H1 locs1 cells slots Q (F0 m (pc + 3) ls (.int v1 :: rest))) : W p l e R s m args below meth c H locs cells slots Q (F0 m pc ls st0) := by
  subst hst
  exact zr_cVi (As := [.int a1, .int a2]) (rest := rest) (n := 2) (C := "StonePost$Tape") (T := zt_Tape) (N := 6) B hP hS (zC_Tape_isNumber l  hq) (K := 3) rfl (by decide) (by decide) rfl rfl m1 zq_718 zq_719 zq_6 zq_720 (by decide +kernel) ⟨hR1, hR2⟩ rfl rfl rfl hsz rfl hw hdg h00 kk
