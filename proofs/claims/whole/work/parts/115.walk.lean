abbrev zR_Mod_isDigit : Room := { frames := 1, cells := 0, slots := 0, locals := 25 }
theorem zd_Mod_isDigit_0 : decode zb_Mod_isDigit 0 = .ok (.iload_n 0, 1) := by decide +kernel
theorem zd_Mod_isDigit_1 : decode zb_Mod_isDigit 1 = .ok (.i2l, 1) := by decide +kernel
theorem zd_Mod_isDigit_2 : decode zb_Mod_isDigit 2 = .ok (.ldc2_w 158, 3) := by decide +kernel
theorem zd_Mod_isDigit_5 : decode zb_Mod_isDigit 5 = .ok (.ldc2_w 239, 3) := by decide +kernel
theorem zd_Mod_isDigit_8 : decode zb_Mod_isDigit 8 = .ok (.invokestatic 53, 3) := by decide +kernel
theorem zd_Mod_isDigit_11 : decode zb_Mod_isDigit 11 = .ok (.ireturn, 1) := by decide +kernel
set_option maxHeartbeats 4000000 in
theorem zl_Mod_isDigit {p : Program} {l : Launch} {e : Env} {s : State} {m : MethodId} {args : Array Value} {below : List Frame} {meth : Method} {c : Code} {D : va_G} {cA : Nat → ClassId} {ad : Nat → Nat} {A : Nat → Prop} (B : zu_B p s m args c zb_Mod_isDigit 1 "StonePostModel" D cA ad A) (hret : meth.sig.returnType = (some .boolean)) (hlk : meth.locks = false) {X : IX} {Y : LX} {res : Int32} {a0 : Int32} (H : Heap) (locs : List Loc) (ls : Array Slot) (hP : va_P D zu_cl (zu_pic cA ad X Y) H) (hS : va_S A s.heap H locs) (hl : lv_has ls 1 [(0, .int a0)]) (hf : fn_Mod_isDigit a0 = some res) : W p l e zR_Mod_isDigit s m args below meth c H locs 0 0 (MQ below (zu_Qi D cA ad A res X Y) args s 0 0 A) (F0 m 0 ls []) := by
  obtain ⟨hx, hb, hml, hown, hts, hST⟩ := id B
  unfold fn_Mod_isDigit at hf
  refine lv_iload_n hx hb zd_Mod_isDigit_0 rfl (lv_at hl 0 rfl) ?_
  refine lv_i2l hx hb zd_Mod_isDigit_1 rfl ?_
  refine lv_ldc2 (v := 48) hx hb hown (hts _ zq_1062) zd_Mod_isDigit_2 ?_
  refine lv_ldc2 (v := 57) hx hb hown (hts _ zq_1259) zd_Mod_isDigit_5 ?_
  obtain ⟨v1, hq2, hf⟩ := zu_b1_e hf
  refine zw_Mod_in (rest := []) B hP hS hq2 zq_939 (Nat.le_of_ble_eq_true rfl) (Nat.le_of_ble_eq_true rfl) hl.1 rfl (Nat.le_of_ble_eq_true rfl) zd_Mod_isDigit_8 (by decide) (fun H locs hP hS => ?_)
  clear hq2
  obtain ⟨hg3, hf⟩ := zu_gd_e hf
  obtain rfl := Option.some.inj hf
  exact zr_zret hx hb hret hlk hP hS hg3 zd_Mod_isDigit_11
theorem zC_Mod_isDigit (l : Launch) {D : va_G} {cA : Nat → ClassId} {ad : Nat → Nat} {A : Nat → Prop} {a0 : Int32} {X : IX} {Y : LX} {res : Int32} (hf : fn_Mod_isDigit a0 = some res) : Met l zm_Mod_isDigit (zu_ws zm_Mod_isDigit zb_Mod_isDigit 1 (some .boolean)) zR_Mod_isDigit (va_Pc [.int a0] (zu_Pre D cA ad A X Y)) (zu_Qi D cA ad A res X Y) 0 0 A := by
  refine Met.ofW (cc := zb_Mod_isDigit) (maxL := 1) (ret := (some .boolean)) (by decide +kernel) rfl ?_
  intro p e s m args below meth c s₁ B0 hml hv
  obtain ⟨rfl, hP, hST⟩ := hv
  have B : zu_B p s m _ c zb_Mod_isDigit 1 "StonePostModel" D cA ad A := ⟨B0.exec, B0.bytes, hml, findClass_of_methodNamed B0.named, (fun w hw => atoms_spec (ws := zu_ws zm_Mod_isDigit zb_Mod_isDigit 1 (some .boolean)) B0.pre w (List.mem_cons_of_mem _ hw)), hST⟩
  have hl := lv_entry ([.int a0]) (n := 1) (Nat.le_of_ble_eq_true rfl)
  rw [lg_entry_eq]
  generalize (lg_sl ([.int a0]) ++ List.replicate (1 - (lg_sl ([.int a0])).length) Slot.unset).toArray = ls at hl ⊢
  exact zl_Mod_isDigit B B0.returns B0.notSynchronized s.heap [] ls hP va_S.rf hl  hf
theorem zw_Mod_isDigit {p : Program} {l : Launch} {e : Env} {R : Room} {s : State} {m : MethodId} {args : Array Value} {below : List Frame} {meth : Method} {c : Code} {H : Heap} {locs : List Loc} {cells slots : Nat} {Q : State → Prop} {cc : ByteArray} {pc nL : Nat} {ls : Array Slot} {rest st0 : List Value} {D : va_G} {cA : Nat → ClassId} {ad : Nat → Nat} {A : Nat → Prop} {X : IX} {Y : LX} {own : String} {index : Nat} {a0 : Int32} {v1 : Int32} (B : zu_B p s m args c cc nL own D cA ad A) (hP : va_P D zu_cl (zu_pic cA ad X Y) H) (hS : va_S A s.heap H locs) (hq : fn_Mod_isDigit a0 = some v1) (m1 : Cond.methodLink own index zm_Mod_isDigit ∈ zu_TB) (hR1 : 1 + 1 ≤ R.frames) (hR2 : 8 + (1 + 11) + 25 ≤ R.locals) (hsz : ls.size = nL) (hst : st0 = .int a0 ::  rest) (hw : (rest.map fun v => v.category).sum ≤ 8) (hdg : decode cc pc = .ok (.invokestatic index, 3)) (h00 : cells ≤ R.cells ∧ slots ≤ R.slots) (kk : ∀ (H1 : Heap) (locs1 : List Loc), va_P D zu_cl (zu_pic cA ad X Y) H1 → va_S A s.heap H1 locs1 → W p l e R s m args below meth c H1 locs1 cells slots Q (F0 m (pc + 3) ls (.int v1 :: rest))) : W p l e R s m args below meth c H locs cells slots Q (F0 m pc ls st0) := by
  subst hst
  exact zr_cSi (As := [.int a0]) (rest := rest) (n := 1) B hP hS (zC_Mod_isDigit l  hq) m1 zq_1257 zq_8 zq_1258 (by decide +kernel) ⟨hR1, hR2⟩ rfl rfl rfl hsz rfl hw hdg h00 kk
abbrev zR_Mod_token : Room := { frames := 2, cells := 0, slots := 0, locals := 45 }
theorem zd_Mod_token_0 : decode zb_Mod_token 0 = .ok (.aload_n 0, 1) := by decide +kernel
theorem zd_Mod_token_1 : decode zb_Mod_token 1 = .ok (.aload_n 0, 1) := by decide +kernel
theorem zd_Mod_token_2 : decode zb_Mod_token 2 = .ok (.getfield 241, 3) := by decide +kernel
theorem zd_Mod_token_5 : decode zb_Mod_token 5 = .ok (.putfield 244, 3) := by decide +kernel
theorem zd_Mod_token_8 : decode zb_Mod_token 8 = .ok (.aload_n 0, 1) := by decide +kernel
theorem zd_Mod_token_9 : decode zb_Mod_token 9 = .ok (.aload_n 0, 1) := by decide +kernel
theorem zd_Mod_token_10 : decode zb_Mod_token 10 = .ok (.getfield 244, 3) := by decide +kernel
theorem zd_Mod_token_13 : decode zb_Mod_token 13 = .ok (.invokevirtual 247, 3) := by decide +kernel
theorem zd_Mod_token_16 : decode zb_Mod_token 16 = .ok (.bipush 32, 2) := by decide +kernel
theorem zd_Mod_token_18 : decode zb_Mod_token 18 = .ok (.if_icmp .ne 16, 3) := by decide +kernel
theorem zd_Mod_token_21 : decode zb_Mod_token 21 = .ok (.aload_n 0, 1) := by decide +kernel
theorem zd_Mod_token_22 : decode zb_Mod_token 22 = .ok (.dup, 1) := by decide +kernel
theorem zd_Mod_token_23 : decode zb_Mod_token 23 = .ok (.getfield 244, 3) := by decide +kernel
theorem zd_Mod_token_26 : decode zb_Mod_token 26 = .ok (.iconst 1, 1) := by decide +kernel
theorem zd_Mod_token_27 : decode zb_Mod_token 27 = .ok (.iadd, 1) := by decide +kernel
theorem zd_Mod_token_28 : decode zb_Mod_token 28 = .ok (.putfield 244, 3) := by decide +kernel
theorem zd_Mod_token_31 : decode zb_Mod_token 31 = .ok (.goto (-23), 3) := by decide +kernel
theorem zd_Mod_token_34 : decode zb_Mod_token 34 = .ok (.aload_n 0, 1) := by decide +kernel
theorem zd_Mod_token_35 : decode zb_Mod_token 35 = .ok (.aload_n 0, 1) := by decide +kernel
theorem zd_Mod_token_36 : decode zb_Mod_token 36 = .ok (.getfield 244, 3) := by decide +kernel
theorem zd_Mod_token_39 : decode zb_Mod_token 39 = .ok (.invokevirtual 247, 3) := by decide +kernel
theorem zd_Mod_token_42 : decode zb_Mod_token 42 = .ok (.invokestatic 250, 3) := by decide +kernel
theorem zd_Mod_token_45 : decode zb_Mod_token 45 = .ok (.istore_n 1, 1) := by decide +kernel
theorem zd_Mod_token_46 : decode zb_Mod_token 46 = .ok (.aload_n 0, 1) := by decide +kernel
theorem zd_Mod_token_47 : decode zb_Mod_token 47 = .ok (.aload_n 0, 1) := by decide +kernel
theorem zd_Mod_token_48 : decode zb_Mod_token 48 = .ok (.getfield 244, 3) := by decide +kernel
theorem zd_Mod_token_51 : decode zb_Mod_token 51 = .ok (.invokevirtual 247, 3) := by decide +kernel
theorem zd_Mod_token_54 : decode zb_Mod_token 54 = .ok (.invokestatic 253, 3) := by decide +kernel
theorem zd_Mod_token_57 : decode zb_Mod_token 57 = .ok (.istore_n 2, 1) := by decide +kernel
theorem zd_Mod_token_58 : decode zb_Mod_token 58 = .ok (.aload_n 0, 1) := by decide +kernel
theorem zd_Mod_token_59 : decode zb_Mod_token 59 = .ok (.aload_n 0, 1) := by decide +kernel
theorem zd_Mod_token_60 : decode zb_Mod_token 60 = .ok (.getfield 244, 3) := by decide +kernel
theorem zd_Mod_token_63 : decode zb_Mod_token 63 = .ok (.aload_n 0, 1) := by decide +kernel
theorem zd_Mod_token_64 : decode zb_Mod_token 64 = .ok (.getfield 232, 3) := by decide +kernel
theorem zd_Mod_token_67 : decode zb_Mod_token 67 = .ok (.if_icmp .ge 12, 3) := by decide +kernel
theorem zd_Mod_token_70 : decode zb_Mod_token 70 = .ok (.aload_n 0, 1) := by decide +kernel
theorem zd_Mod_token_71 : decode zb_Mod_token 71 = .ok (.getfield 244, 3) := by decide +kernel
theorem zd_Mod_token_74 : decode zb_Mod_token 74 = .ok (.iconst 1, 1) := by decide +kernel
theorem zd_Mod_token_75 : decode zb_Mod_token 75 = .ok (.iadd, 1) := by decide +kernel
theorem zd_Mod_token_76 : decode zb_Mod_token 76 = .ok (.goto 7, 3) := by decide +kernel
theorem zd_Mod_token_79 : decode zb_Mod_token 79 = .ok (.aload_n 0, 1) := by decide +kernel
theorem zd_Mod_token_80 : decode zb_Mod_token 80 = .ok (.getfield 244, 3) := by decide +kernel
theorem zd_Mod_token_83 : decode zb_Mod_token 83 = .ok (.putfield 241, 3) := by decide +kernel
theorem zd_Mod_token_86 : decode zb_Mod_token 86 = .ok (.iload_n 1, 1) := by decide +kernel
theorem zd_Mod_token_87 : decode zb_Mod_token 87 = .ok (.ifCond .eq 17, 3) := by decide +kernel
theorem zd_Mod_token_90 : decode zb_Mod_token 90 = .ok (.aload_n 0, 1) := by decide +kernel
theorem zd_Mod_token_91 : decode zb_Mod_token 91 = .ok (.aload_n 0, 1) := by decide +kernel
theorem zd_Mod_token_92 : decode zb_Mod_token 92 = .ok (.getfield 241, 3) := by decide +kernel
theorem zd_Mod_token_95 : decode zb_Mod_token 95 = .ok (.invokevirtual 247, 3) := by decide +kernel
theorem zd_Mod_token_98 : decode zb_Mod_token 98 = .ok (.invokestatic 250, 3) := by decide +kernel
theorem zd_Mod_token_101 : decode zb_Mod_token 101 = .ok (.ifCond .ne 21, 3) := by decide +kernel
theorem zd_Mod_token_104 : decode zb_Mod_token 104 = .ok (.iload_n 2, 1) := by decide +kernel
theorem zd_Mod_token_105 : decode zb_Mod_token 105 = .ok (.ifCond .eq 30, 3) := by decide +kernel
theorem zd_Mod_token_108 : decode zb_Mod_token 108 = .ok (.aload_n 0, 1) := by decide +kernel
theorem zd_Mod_token_109 : decode zb_Mod_token 109 = .ok (.aload_n 0, 1) := by decide +kernel
theorem zd_Mod_token_110 : decode zb_Mod_token 110 = .ok (.getfield 241, 3) := by decide +kernel
theorem zd_Mod_token_113 : decode zb_Mod_token 113 = .ok (.invokevirtual 247, 3) := by decide +kernel
theorem zd_Mod_token_116 : decode zb_Mod_token 116 = .ok (.invokestatic 253, 3) := by decide +kernel
theorem zd_Mod_token_119 : decode zb_Mod_token 119 = .ok (.ifCond .eq 16, 3) := by decide +kernel
theorem zd_Mod_token_122 : decode zb_Mod_token 122 = .ok (.aload_n 0, 1) := by decide +kernel
theorem zd_Mod_token_123 : decode zb_Mod_token 123 = .ok (.dup, 1) := by decide +kernel
theorem zd_Mod_token_124 : decode zb_Mod_token 124 = .ok (.getfield 241, 3) := by decide +kernel
theorem zd_Mod_token_127 : decode zb_Mod_token 127 = .ok (.iconst 1, 1) := by decide +kernel
theorem zd_Mod_token_128 : decode zb_Mod_token 128 = .ok (.iadd, 1) := by decide +kernel
theorem zd_Mod_token_129 : decode zb_Mod_token 129 = .ok (.putfield 241, 3) := by decide +kernel
theorem zd_Mod_token_132 : decode zb_Mod_token 132 = .ok (.goto (-46), 3) := by decide +kernel
theorem zd_Mod_token_135 : decode zb_Mod_token 135 = .ok (.return_, 1) := by decide +kernel
set_option maxHeartbeats 4000000 in
theorem zl_Mod_token_L135 {p : Program} {l : Launch} {e : Env} {s : State} {m : MethodId} {args : Array Value} {below : List Frame} {meth : Method} {c : Code} {D : va_G} {cA : Nat → ClassId} {ad : Nat → Nat} {A : Nat → Prop} (B : zu_B p s m args c zb_Mod_token 3 "StonePostModel" D cA ad A) (hret : meth.sig.returnType = none) (hlk : meth.locks = false) {Y : LX} {res : IX} (X : IX) (H : Heap) (locs : List Loc) (ls : Array Slot) (hP : va_P D zu_cl (zu_pic cA ad X Y) H) (hS : va_S A s.heap H locs) (hl : lv_has ls 3 []) (hf : fn_Mod_token_L135 X = some res) : W p l e zR_Mod_token s m args below meth c H locs 0 0 (MQ below (zu_Qv D cA ad A res Y) args s 0 0 A) (F0 m 135 ls []) := by
  obtain ⟨hx, hb, hml, hown, hts, hST⟩ := id B
  unfold fn_Mod_token_L135 at hf
  obtain rfl := Option.some.inj hf
  exact zr_vret hx hb hret hlk hP hS zd_Mod_token_135
set_option maxHeartbeats 4000000 in
theorem zl_Mod_token_L122 {p : Program} {l : Launch} {e : Env} {s : State} {m : MethodId} {args : Array Value} {below : List Frame} {meth : Method} {c : Code} {D : va_G} {cA : Nat → ClassId} {ad : Nat → Nat} {A : Nat → Prop} (B : zu_B p s m args c zb_Mod_token 3 "StonePostModel" D cA ad A) (hret : meth.sig.returnType = none) (hlk : meth.locks = false) {Y : LX} {res : IX} {k86 : Int32 → Int32 → IX → Option IX} (hk86 : ∀ (x1 : Int32) (x2 : Int32) (X : IX) (H : Heap) (locs : List Loc) (ls : Array Slot), va_P D zu_cl (zu_pic cA ad X Y) H → va_S A s.heap H locs → lv_has ls 3 [(0, .ref (ad 95)), (1, .int x1), (2, .int x2)] → k86 x1 x2 X = some res → W p l e zR_Mod_token s m args below meth c H locs 0 0 (MQ below (zu_Qv D cA ad A res Y) args s 0 0 A) (F0 m 86 ls [])) (x1 : Int32) (x2 : Int32) (X : IX) (H : Heap) (locs : List Loc) (ls : Array Slot) (hP : va_P D zu_cl (zu_pic cA ad X Y) H) (hS : va_S A s.heap H locs) (hl : lv_has ls 3 [(0, .ref (ad 95)), (1, .int x1), (2, .int x2)]) (hf : fn_Mod_token_L122 k86 x1 x2 X = some res) : W p l e zR_Mod_token s m args below meth c H locs 0 0 (MQ below (zu_Qv D cA ad A res Y) args s 0 0 A) (F0 m 122 ls []) := by
  obtain ⟨hx, hb, hml, hown, hts, hST⟩ := id B
  unfold fn_Mod_token_L122 at hf
  refine lv_aload_n hx hb zd_Mod_token_122 rfl (lv_at hl 0 rfl) ?_
  refine lv_dup hx hb zd_Mod_token_123 rfl ?_
  refine zg_Mod_to B hP rfl zq_877 zd_Mod_token_124 ?_
  refine lv_iconst (v := 1) hx hb zd_Mod_token_127 (by decide) ?_
  refine lv_iadd hx hb zd_Mod_token_128 ?_
  refine zp_Mod_to B hP hS hf rfl zq_877 zd_Mod_token_129 (fun X28 H locs hf hP hS => ?_)
  refine lv_goto (tgt := 86) hx hb zd_Mod_token_132 (by decide) ?_
  exact hk86 x1 x2 X28 _ _ _ hP hS (lv_sub hl [0, 1, 2] rfl) hf
set_option maxHeartbeats 4000000 in
theorem zl_Mod_token_L104 {p : Program} {l : Launch} {e : Env} {s : State} {m : MethodId} {args : Array Value} {below : List Frame} {meth : Method} {c : Code} {D : va_G} {cA : Nat → ClassId} {ad : Nat → Nat} {A : Nat → Prop} (B : zu_B p s m args c zb_Mod_token 3 "StonePostModel" D cA ad A) (hret : meth.sig.returnType = none) (hlk : meth.locks = false) {Y : LX} {res : IX} {k86 : Int32 → Int32 → IX → Option IX} (hk86 : ∀ (x1 : Int32) (x2 : Int32) (X : IX) (H : Heap) (locs : List Loc) (ls : Array Slot), va_P D zu_cl (zu_pic cA ad X Y) H → va_S A s.heap H locs → lv_has ls 3 [(0, .ref (ad 95)), (1, .int x1), (2, .int x2)] → k86 x1 x2 X = some res → W p l e zR_Mod_token s m args below meth c H locs 0 0 (MQ below (zu_Qv D cA ad A res Y) args s 0 0 A) (F0 m 86 ls [])) (x1 : Int32) (x2 : Int32) (X : IX) (H : Heap) (locs : List Loc) (ls : Array Slot) (hP : va_P D zu_cl (zu_pic cA ad X Y) H) (hS : va_S A s.heap H locs) (hl : lv_has ls 3 [(0, .ref (ad 95)), (1, .int x1), (2, .int x2)]) (hf : fn_Mod_token_L104 k86 x1 x2 X = some res) : W p l e zR_Mod_token s m args below meth c H locs 0 0 (MQ below (zu_Qv D cA ad A res Y) args s 0 0 A) (F0 m 104 ls []) := by
  obtain ⟨hx, hb, hml, hown, hts, hST⟩ := id B
  unfold fn_Mod_token_L104 at hf
  refine lv_iload_n hx hb zd_Mod_token_104 rfl (lv_at hl 2 rfl) ?_
  refine lv_if_eq (tgt := 135) hx hb zd_Mod_token_105 (by decide) (fun c22 => ?_) (fun c22 => ?_)
  · have hf := zu_t c22 hf
    exact zl_Mod_token_L135 B hret hlk X _ _ _ hP hS (lv_sub hl [] rfl) hf
  · have hf := zu_f c22 hf
    refine lv_aload_n hx hb zd_Mod_token_108 rfl (lv_at hl 0 rfl) ?_
    refine lv_aload_n hx hb zd_Mod_token_109 rfl (lv_at hl 0 rfl) ?_
    refine zg_Mod_to B hP rfl zq_877 zd_Mod_token_110 ?_
    obtain ⟨v23, hq24, hf⟩ := zu_b1_e hf
    refine zw_Mod_byteAt (rest := []) B hP hS hq24 zq_1247 (Nat.le_of_ble_eq_true rfl) (Nat.le_of_ble_eq_true rfl) hl.1 rfl (Nat.le_of_ble_eq_true rfl) zd_Mod_token_113 (by decide) (fun H locs hP hS => ?_)
    clear hq24
    obtain ⟨v25, hq26, hf⟩ := zu_b1_e hf
    refine zw_Mod_isDigit (rest := []) B hP hS hq26 zq_1256 (Nat.le_of_ble_eq_true rfl) (Nat.le_of_ble_eq_true rfl) hl.1 rfl (Nat.le_of_ble_eq_true rfl) zd_Mod_token_116 (by decide) (fun H locs hP hS => ?_)
    clear hq26
    refine lv_if_eq (tgt := 135) hx hb zd_Mod_token_119 (by decide) (fun c27 => ?_) (fun c27 => ?_)
    · have hf := zu_t c27 hf
      exact zl_Mod_token_L135 B hret hlk X _ _ _ hP hS (lv_sub hl [] rfl) hf
    · have hf := zu_f c27 hf
      exact zl_Mod_token_L122 B hret hlk hk86 x1 x2 X _ _ _ hP hS (lv_sub hl [0, 1, 2] rfl) hf
set_option maxHeartbeats 4000000 in
theorem zl_Mod_token_B86 {p : Program} {l : Launch} {e : Env} {s : State} {m : MethodId} {args : Array Value} {below : List Frame} {meth : Method} {c : Code} {D : va_G} {cA : Nat → ClassId} {ad : Nat → Nat} {A : Nat → Prop} (B : zu_B p s m args c zb_Mod_token 3 "StonePostModel" D cA ad A) (hret : meth.sig.returnType = none) (hlk : meth.locks = false) {Y : LX} {res : IX} {k86 : Int32 → Int32 → IX → Option IX} (hk86 : ∀ (x1 : Int32) (x2 : Int32) (X : IX) (H : Heap) (locs : List Loc) (ls : Array Slot), va_P D zu_cl (zu_pic cA ad X Y) H → va_S A s.heap H locs → lv_has ls 3 [(0, .ref (ad 95)), (1, .int x1), (2, .int x2)] → k86 x1 x2 X = some res → W p l e zR_Mod_token s m args below meth c H locs 0 0 (MQ below (zu_Qv D cA ad A res Y) args s 0 0 A) (F0 m 86 ls [])) (x1 : Int32) (x2 : Int32) (X : IX) (H : Heap) (locs : List Loc) (ls : Array Slot) (hP : va_P D zu_cl (zu_pic cA ad X Y) H) (hS : va_S A s.heap H locs) (hl : lv_has ls 3 [(0, .ref (ad 95)), (1, .int x1), (2, .int x2)]) (hf : fn_Mod_token_B86 k86 x1 x2 X = some res) : W p l e zR_Mod_token s m args below meth c H locs 0 0 (MQ below (zu_Qv D cA ad A res Y) args s 0 0 A) (F0 m 86 ls []) := by
  obtain ⟨hx, hb, hml, hown, hts, hST⟩ := id B
  unfold fn_Mod_token_B86 at hf
  refine lv_iload_n hx hb zd_Mod_token_86 rfl (lv_at hl 1 rfl) ?_
  refine lv_if_eq (tgt := 104) hx hb zd_Mod_token_87 (by decide) (fun c16 => ?_) (fun c16 => ?_)
  · have hf := zu_t c16 hf
    exact zl_Mod_token_L104 B hret hlk hk86 x1 x2 X _ _ _ hP hS (lv_sub hl [0, 1, 2] rfl) hf
  · have hf := zu_f c16 hf
    refine lv_aload_n hx hb zd_Mod_token_90 rfl (lv_at hl 0 rfl) ?_
    refine lv_aload_n hx hb zd_Mod_token_91 rfl (lv_at hl 0 rfl) ?_
    refine zg_Mod_to B hP rfl zq_877 zd_Mod_token_92 ?_
    obtain ⟨v17, hq18, hf⟩ := zu_b1_e hf
    refine zw_Mod_byteAt (rest := []) B hP hS hq18 zq_1247 (Nat.le_of_ble_eq_true rfl) (Nat.le_of_ble_eq_true rfl) hl.1 rfl (Nat.le_of_ble_eq_true rfl) zd_Mod_token_95 (by decide) (fun H locs hP hS => ?_)
    clear hq18
    obtain ⟨v19, hq20, hf⟩ := zu_b1_e hf
    refine zw_Mod_isAlpha (rest := []) B hP hS hq20 zq_1251 (Nat.le_of_ble_eq_true rfl) (Nat.le_of_ble_eq_true rfl) hl.1 rfl (Nat.le_of_ble_eq_true rfl) zd_Mod_token_98 (by decide) (fun H locs hP hS => ?_)
    clear hq20
    refine lv_if_ne (tgt := 122) hx hb zd_Mod_token_101 (by decide) (fun c21 => ?_) (fun c21 => ?_)
    · have hf := zu_f c21 hf
      exact zl_Mod_token_L122 B hret hlk hk86 x1 x2 X _ _ _ hP hS (lv_sub hl [0, 1, 2] rfl) hf
    · have hf := zu_t c21 hf
      exact zl_Mod_token_L104 B hret hlk hk86 x1 x2 X _ _ _ hP hS (lv_sub hl [0, 1, 2] rfl) hf
theorem zl_Mod_token_L86 {p : Program} {l : Launch} {e : Env} {s : State} {m : MethodId} {args : Array Value} {below : List Frame} {meth : Method} {c : Code} {D : va_G} {cA : Nat → ClassId} {ad : Nat → Nat} {A : Nat → Prop} (B : zu_B p s m args c zb_Mod_token 3 "StonePostModel" D cA ad A) (hret : meth.sig.returnType = none) (hlk : meth.locks = false) {Y : LX} {res : IX} : ∀ (n : Nat) (x1 : Int32) (x2 : Int32) (X : IX) (H : Heap) (locs : List Loc) (ls : Array Slot), va_P D zu_cl (zu_pic cA ad X Y) H → va_S A s.heap H locs → lv_has ls 3 [(0, .ref (ad 95)), (1, .int x1), (2, .int x2)] → fn_Mod_token_L86 n x1 x2 X = some res → W p l e zR_Mod_token s m args below meth c H locs 0 0 (MQ below (zu_Qv D cA ad A res Y) args s 0 0 A) (F0 m 86 ls []) := by
  intro n
  induction n with
  | zero =>
    intro x1 x2 X H locs ls hP hS hl hf
    exact (Option.some_ne_none _ hf.symm).elim
  | succ n ih =>
    intro x1 x2 X H locs ls hP hS hl hf
    exact zl_Mod_token_B86 B hret hlk ih x1 x2 X H locs ls hP hS hl  hf
set_option maxHeartbeats 4000000 in
theorem zl_Mod_token_L83 {p : Program} {l : Launch} {e : Env} {s : State} {m : MethodId} {args : Array Value} {below : List Frame} {meth : Method} {c : Code} {D : va_G} {cA : Nat → ClassId} {ad : Nat → Nat} {A : Nat → Prop} (B : zu_B p s m args c zb_Mod_token 3 "StonePostModel" D cA ad A) (hret : meth.sig.returnType = none) (hlk : meth.locks = false) {Y : LX} {res : IX} (x1 : Int32) (x2 : Int32) (y0 : Int32) (X : IX) (H : Heap) (locs : List Loc) (ls : Array Slot) (hP : va_P D zu_cl (zu_pic cA ad X Y) H) (hS : va_S A s.heap H locs) (hl : lv_has ls 3 [(0, .ref (ad 95)), (1, .int x1), (2, .int x2)]) (hf : fn_Mod_token_L83 x1 x2 y0 X = some res) : W p l e zR_Mod_token s m args below meth c H locs 0 0 (MQ below (zu_Qv D cA ad A res Y) args s 0 0 A) (F0 m 83 ls [.int y0, .ref (ad 95)]) := by
  obtain ⟨hx, hb, hml, hown, hts, hST⟩ := id B
  unfold fn_Mod_token_L83 at hf
  refine zp_Mod_to B hP hS hf rfl zq_877 zd_Mod_token_83 (fun X15 H locs hf hP hS => ?_)
  exact zl_Mod_token_L86 B hret hlk 400 x1 x2 X15 _ _ _ hP hS (lv_sub hl [0, 1, 2] rfl) hf
set_option maxHeartbeats 4000000 in
theorem zl_Mod_token_B8 {p : Program} {l : Launch} {e : Env} {s : State} {m : MethodId} {args : Array Value} {below : List Frame} {meth : Method} {c : Code} {D : va_G} {cA : Nat → ClassId} {ad : Nat → Nat} {A : Nat → Prop} (B : zu_B p s m args c zb_Mod_token 3 "StonePostModel" D cA ad A) (hret : meth.sig.returnType = none) (hlk : meth.locks = false) {Y : LX} {res : IX} {k8 : IX → Option IX} (hk8 : ∀ (X : IX) (H : Heap) (locs : List Loc) (ls : Array Slot), va_P D zu_cl (zu_pic cA ad X Y) H → va_S A s.heap H locs → lv_has ls 3 [(0, .ref (ad 95))] → k8 X = some res → W p l e zR_Mod_token s m args below meth c H locs 0 0 (MQ below (zu_Qv D cA ad A res Y) args s 0 0 A) (F0 m 8 ls [])) (X : IX) (H : Heap) (locs : List Loc) (ls : Array Slot) (hP : va_P D zu_cl (zu_pic cA ad X Y) H) (hS : va_S A s.heap H locs) (hl : lv_has ls 3 [(0, .ref (ad 95))]) (hf : fn_Mod_token_B8 k8 X = some res) : W p l e zR_Mod_token s m args below meth c H locs 0 0 (MQ below (zu_Qv D cA ad A res Y) args s 0 0 A) (F0 m 8 ls []) := by
  obtain ⟨hx, hb, hml, hown, hts, hST⟩ := id B
  unfold fn_Mod_token_B8 at hf
  refine lv_aload_n hx hb zd_Mod_token_8 rfl (lv_at hl 0 rfl) ?_
  refine lv_aload_n hx hb zd_Mod_token_9 rfl (lv_at hl 0 rfl) ?_
  refine zg_Mod_begins B hP rfl zq_876 zd_Mod_token_10 ?_
  obtain ⟨v2, hq3, hf⟩ := zu_b1_e hf
  refine zw_Mod_byteAt (rest := []) B hP hS hq3 zq_1247 (Nat.le_of_ble_eq_true rfl) (Nat.le_of_ble_eq_true rfl) hl.1 rfl (Nat.le_of_ble_eq_true rfl) zd_Mod_token_13 (by decide) (fun H locs hP hS => ?_)
  clear hq3
  refine lv_bipush (v := 32) hx hb zd_Mod_token_16 (by decide) ?_
  refine lv_icmp_ne (tgt := 34) hx hb zd_Mod_token_18 (by decide) (fun c4 => ?_) (fun c4 => ?_)
  · have hf := zu_f c4 hf
    refine lv_aload_n hx hb zd_Mod_token_34 rfl (lv_at hl 0 rfl) ?_
    refine lv_aload_n hx hb zd_Mod_token_35 rfl (lv_at hl 0 rfl) ?_
    refine zg_Mod_begins B hP rfl zq_876 zd_Mod_token_36 ?_
    obtain ⟨v5, hq6, hf⟩ := zu_b1_e hf
    refine zw_Mod_byteAt (rest := []) B hP hS hq6 zq_1247 (Nat.le_of_ble_eq_true rfl) (Nat.le_of_ble_eq_true rfl) hl.1 rfl (Nat.le_of_ble_eq_true rfl) zd_Mod_token_39 (by decide) (fun H locs hP hS => ?_)
    clear hq6
    obtain ⟨v7, hq8, hf⟩ := zu_b1_e hf
    refine zw_Mod_isAlpha (rest := []) B hP hS hq8 zq_1251 (Nat.le_of_ble_eq_true rfl) (Nat.le_of_ble_eq_true rfl) hl.1 rfl (Nat.le_of_ble_eq_true rfl) zd_Mod_token_42 (by decide) (fun H locs hP hS => ?_)
    clear hq8
    refine lv_istore_n (lv' := [(1, .int v7), (0, .ref (ad 95))]) hx hb zd_Mod_token_45 rfl hl (by decide) rfl (fun ls hl => ?_)
    refine lv_aload_n hx hb zd_Mod_token_46 rfl (lv_at hl 1 rfl) ?_
    refine lv_aload_n hx hb zd_Mod_token_47 rfl (lv_at hl 1 rfl) ?_
    refine zg_Mod_begins B hP rfl zq_876 zd_Mod_token_48 ?_
    obtain ⟨v9, hq10, hf⟩ := zu_b1_e hf
    refine zw_Mod_byteAt (rest := []) B hP hS hq10 zq_1247 (Nat.le_of_ble_eq_true rfl) (Nat.le_of_ble_eq_true rfl) hl.1 rfl (Nat.le_of_ble_eq_true rfl) zd_Mod_token_51 (by decide) (fun H locs hP hS => ?_)
    clear hq10
    obtain ⟨v11, hq12, hf⟩ := zu_b1_e hf
    refine zw_Mod_isDigit (rest := []) B hP hS hq12 zq_1256 (Nat.le_of_ble_eq_true rfl) (Nat.le_of_ble_eq_true rfl) hl.1 rfl (Nat.le_of_ble_eq_true rfl) zd_Mod_token_54 (by decide) (fun H locs hP hS => ?_)
    clear hq12
    refine lv_istore_n (lv' := [(2, .int v11), (1, .int v7), (0, .ref (ad 95))]) hx hb zd_Mod_token_57 rfl hl (by decide) rfl (fun ls hl => ?_)
    refine lv_aload_n hx hb zd_Mod_token_58 rfl (lv_at hl 2 rfl) ?_
    refine lv_aload_n hx hb zd_Mod_token_59 rfl (lv_at hl 2 rfl) ?_
    refine zg_Mod_begins B hP rfl zq_876 zd_Mod_token_60 ?_
    refine lv_aload_n hx hb zd_Mod_token_63 rfl (lv_at hl 2 rfl) ?_
    refine zg_Mod_taped B hP rfl zq_875 zd_Mod_token_64 ?_
    refine lv_icmp_ge (tgt := 79) hx hb zd_Mod_token_67 (by decide) (fun c13 => ?_) (fun c13 => ?_)
    · have hf := zu_t c13 hf
      refine lv_aload_n hx hb zd_Mod_token_79 rfl (lv_at hl 2 rfl) ?_
      refine zg_Mod_begins B hP rfl zq_876 zd_Mod_token_80 ?_
      exact zl_Mod_token_L83 B hret hlk v7 v11 (X 95 15) X _ _ _ hP hS (lv_sub hl [2, 1, 0] rfl) hf
    · have hf := zu_f c13 hf
      refine lv_aload_n hx hb zd_Mod_token_70 rfl (lv_at hl 2 rfl) ?_
      refine zg_Mod_begins B hP rfl zq_876 zd_Mod_token_71 ?_
      refine lv_iconst (v := 1) hx hb zd_Mod_token_74 (by decide) ?_
      refine lv_iadd hx hb zd_Mod_token_75 ?_
      refine lv_goto (tgt := 83) hx hb zd_Mod_token_76 (by decide) ?_
      exact zl_Mod_token_L83 B hret hlk v7 v11 ((X 95 15) + (1 : Int32)) X _ _ _ hP hS (lv_sub hl [2, 1, 0] rfl) hf
  · have hf := zu_t c4 hf
    refine lv_aload_n hx hb zd_Mod_token_21 rfl (lv_at hl 0 rfl) ?_
    refine lv_dup hx hb zd_Mod_token_22 rfl ?_
    refine zg_Mod_begins B hP rfl zq_876 zd_Mod_token_23 ?_
    refine lv_iconst (v := 1) hx hb zd_Mod_token_26 (by decide) ?_
    refine lv_iadd hx hb zd_Mod_token_27 ?_
    refine zp_Mod_begins B hP hS hf rfl zq_876 zd_Mod_token_28 (fun X14 H locs hf hP hS => ?_)
    refine lv_goto (tgt := 8) hx hb zd_Mod_token_31 (by decide) ?_
    exact hk8 X14 _ _ _ hP hS (lv_sub hl [0] rfl) hf
theorem zl_Mod_token_L8 {p : Program} {l : Launch} {e : Env} {s : State} {m : MethodId} {args : Array Value} {below : List Frame} {meth : Method} {c : Code} {D : va_G} {cA : Nat → ClassId} {ad : Nat → Nat} {A : Nat → Prop} (B : zu_B p s m args c zb_Mod_token 3 "StonePostModel" D cA ad A) (hret : meth.sig.returnType = none) (hlk : meth.locks = false) {Y : LX} {res : IX} : ∀ (n : Nat) (X : IX) (H : Heap) (locs : List Loc) (ls : Array Slot), va_P D zu_cl (zu_pic cA ad X Y) H → va_S A s.heap H locs → lv_has ls 3 [(0, .ref (ad 95))] → fn_Mod_token_L8 n X = some res → W p l e zR_Mod_token s m args below meth c H locs 0 0 (MQ below (zu_Qv D cA ad A res Y) args s 0 0 A) (F0 m 8 ls []) := by
  intro n
  induction n with
  | zero =>
    intro X H locs ls hP hS hl hf
    exact (Option.some_ne_none _ hf.symm).elim
  | succ n ih =>
    intro X H locs ls hP hS hl hf
    exact zl_Mod_token_B8 B hret hlk ih X H locs ls hP hS hl  hf
set_option maxHeartbeats 4000000 in
theorem zl_Mod_token {p : Program} {l : Launch} {e : Env} {s : State} {m : MethodId} {args : Array Value} {below : List Frame} {meth : Method} {c : Code} {D : va_G} {cA : Nat → ClassId} {ad : Nat → Nat} {A : Nat → Prop} (B : zu_B p s m args c zb_Mod_token 3 "StonePostModel" D cA ad A) (hret : meth.sig.returnType = none) (hlk : meth.locks = false) {Y : LX} {res : IX} {X : IX} (H : Heap) (locs : List Loc) (ls : Array Slot) (hP : va_P D zu_cl (zu_pic cA ad X Y) H) (hS : va_S A s.heap H locs) (hl : lv_has ls 3 [(0, .ref (ad 95))]) (hf : fn_Mod_token X = some res) : W p l e zR_Mod_token s m args below meth c H locs 0 0 (MQ below (zu_Qv D cA ad A res Y) args s 0 0 A) (F0 m 0 ls []) := by
  obtain ⟨hx, hb, hml, hown, hts, hST⟩ := id B
  unfold fn_Mod_token at hf
  refine lv_aload_n hx hb zd_Mod_token_0 rfl (lv_at hl 0 rfl) ?_
  refine lv_aload_n hx hb zd_Mod_token_1 rfl (lv_at hl 0 rfl) ?_
  refine zg_Mod_to B hP rfl zq_877 zd_Mod_token_2 ?_
  refine zp_Mod_begins B hP hS hf rfl zq_876 zd_Mod_token_5 (fun X1 H locs hf hP hS => ?_)
  exact zl_Mod_token_L8 B hret hlk 400 X1 _ _ _ hP hS (lv_sub hl [0] rfl) hf
theorem zC_Mod_token (l : Launch) {D : va_G} {cA : Nat → ClassId} {ad : Nat → Nat} {A : Nat → Prop} {X : IX} {Y : LX} {res : IX} (hf : fn_Mod_token X = some res) : Met l zm_Mod_token (zu_ws zm_Mod_token zb_Mod_token 3 none) zR_Mod_token (va_Pc [.ref (ad 95)] (zu_Pre D cA ad A X Y)) (zu_Qv D cA ad A res Y) 0 0 A := by
  refine Met.ofW (cc := zb_Mod_token) (maxL := 3) (ret := none) (by decide +kernel) rfl ?_
  intro p e s m args below meth c s₁ B0 hml hv
  obtain ⟨rfl, hP, hST⟩ := hv
  have B : zu_B p s m _ c zb_Mod_token 3 "StonePostModel" D cA ad A := ⟨B0.exec, B0.bytes, hml, findClass_of_methodNamed B0.named, (fun w hw => atoms_spec (ws := zu_ws zm_Mod_token zb_Mod_token 3 none) B0.pre w (List.mem_cons_of_mem _ hw)), hST⟩
  have hl := lv_entry ([.ref (ad 95)]) (n := 3) (Nat.le_of_ble_eq_true rfl)
  rw [lg_entry_eq]
  generalize (lg_sl ([.ref (ad 95)]) ++ List.replicate (3 - (lg_sl ([.ref (ad 95)])).length) Slot.unset).toArray = ls at hl ⊢
  exact zl_Mod_token B B0.returns B0.notSynchronized s.heap [] ls hP va_S.rf hl  hf
theorem zw_Mod_token {p : Program} {l : Launch} {e : Env} {R : Room} {s : State} {m : MethodId} {args : Array Value} {below : List Frame} {meth : Method} {c : Code} {H : Heap} {locs : List Loc} {cells slots : Nat} {Q : State → Prop} {cc : ByteArray} {pc nL : Nat} {ls : Array Slot} {rest st0 : List Value} {D : va_G} {cA : Nat → ClassId} {ad : Nat → Nat} {A : Nat → Prop} {X : IX} {Y : LX} {own : String} {index : Nat} {X1 : IX} (B : zu_B p s m args c cc nL own D cA ad A) (hP : va_P D zu_cl (zu_pic cA ad X Y) H) (hS : va_S A s.heap H locs) (hq : fn_Mod_token X = some X1) (m1 : Cond.methodLink own index zm_Mod_token ∈ zu_TB) (hR1 : 2 + 1 ≤ R.frames) (hR2 : 8 + (3 + 11) + 45 ≤ R.locals) (hsz : ls.size = nL) (hst : st0 = .ref (ad 95) :: rest) (hw : (rest.map fun v => v.category).sum ≤ 8) (hdg : decode cc pc = .ok (.invokevirtual index, 3)) (h00 : cells ≤ R.cells ∧ slots ≤ R.slots) (kk : ∀ (H1 : Heap) (locs1 : List Loc), va_P D zu_cl (zu_pic cA ad X1 Y) H1 → va_S A s.heap H1 locs1 → W p l e R s m args below meth c H1 locs1 cells slots Q (F0 m (pc + 3) ls (rest))) : W p l e R s m args below meth c H locs cells slots Q (F0 m pc ls st0) := by
  subst hst
  exact zr_cVv (As := []) (rest := rest) (n := 0) (C := "StonePostModel") (T := zt_Mod) (N := 23) B hP hS (zC_Mod_token l  hq) (K := 7) rfl (by decide) (by decide) rfl rfl m1 zq_1245 zqP_49 zq_8 zq_1246 (by decide +kernel) ⟨hR1, hR2⟩ rfl rfl rfl hsz rfl hw hdg h00 kk
abbrev zR_Mod_needs : Room := { frames := 3, cells := 0, slots := 0, locals := 67 }
theorem zd_Mod_needs_0 : decode zb_Mod_needs 0 = .ok (.aload_n 0, 1) := by decide +kernel
theorem zd_Mod_needs_1 : decode zb_Mod_needs 1 = .ok (.aload_n 0, 1) := by decide +kernel
theorem zd_Mod_needs_2 : decode zb_Mod_needs 2 = .ok (.getfield 256, 3) := by decide +kernel
theorem zd_Mod_needs_5 : decode zb_Mod_needs 5 = .ok (.ifCond .ne 7, 3) := by decide +kernel
theorem zd_Mod_needs_8 : decode zb_Mod_needs 8 = .ok (.iload_n 1, 1) := by decide +kernel
theorem zd_Mod_needs_9 : decode zb_Mod_needs 9 = .ok (.ifCond .ne 7, 3) := by decide +kernel
theorem zd_Mod_needs_12 : decode zb_Mod_needs 12 = .ok (.iconst 1, 1) := by decide +kernel
theorem zd_Mod_needs_13 : decode zb_Mod_needs 13 = .ok (.goto 4, 3) := by decide +kernel
theorem zd_Mod_needs_16 : decode zb_Mod_needs 16 = .ok (.iconst 0, 1) := by decide +kernel
theorem zd_Mod_needs_17 : decode zb_Mod_needs 17 = .ok (.putfield 256, 3) := by decide +kernel
theorem zd_Mod_needs_20 : decode zb_Mod_needs 20 = .ok (.aload_n 0, 1) := by decide +kernel
theorem zd_Mod_needs_21 : decode zb_Mod_needs 21 = .ok (.getfield 256, 3) := by decide +kernel
theorem zd_Mod_needs_24 : decode zb_Mod_needs 24 = .ok (.ifCond .ne 7, 3) := by decide +kernel
theorem zd_Mod_needs_27 : decode zb_Mod_needs 27 = .ok (.aload_n 0, 1) := by decide +kernel
theorem zd_Mod_needs_28 : decode zb_Mod_needs 28 = .ok (.invokevirtual 260, 3) := by decide +kernel
theorem zd_Mod_needs_31 : decode zb_Mod_needs 31 = .ok (.return_, 1) := by decide +kernel
set_option maxHeartbeats 4000000 in
theorem zl_Mod_needs_L31 {p : Program} {l : Launch} {e : Env} {s : State} {m : MethodId} {args : Array Value} {below : List Frame} {meth : Method} {c : Code} {D : va_G} {cA : Nat → ClassId} {ad : Nat → Nat} {A : Nat → Prop} (B : zu_B p s m args c zb_Mod_needs 2 "StonePostModel" D cA ad A) (hret : meth.sig.returnType = none) (hlk : meth.locks = false) {Y : LX} {res : IX} (X : IX) (H : Heap) (locs : List Loc) (ls : Array Slot) (hP : va_P D zu_cl (zu_pic cA ad X Y) H) (hS : va_S A s.heap H locs) (hl : lv_has ls 2 []) (hf : fn_Mod_needs_L31 X = some res) : W p l e zR_Mod_needs s m args below meth c H locs 0 0 (MQ below (zu_Qv D cA ad A res Y) args s 0 0 A) (F0 m 31 ls []) := by
  obtain ⟨hx, hb, hml, hown, hts, hST⟩ := id B
  unfold fn_Mod_needs_L31 at hf
  obtain rfl := Option.some.inj hf
  exact zr_vret hx hb hret hlk hP hS zd_Mod_needs_31
set_option maxHeartbeats 4000000 in
theorem zl_Mod_needs_L17 {p : Program} {l : Launch} {e : Env} {s : State} {m : MethodId} {args : Array Value} {below : List Frame} {meth : Method} {c : Code} {D : va_G} {cA : Nat → ClassId} {ad : Nat → Nat} {A : Nat → Prop} (B : zu_B p s m args c zb_Mod_needs 2 "StonePostModel" D cA ad A) (hret : meth.sig.returnType = none) (hlk : meth.locks = false) {Y : LX} {res : IX} (y0 : Int32) (X : IX) (H : Heap) (locs : List Loc) (ls : Array Slot) (hP : va_P D zu_cl (zu_pic cA ad X Y) H) (hS : va_S A s.heap H locs) (hl : lv_has ls 2 [(0, .ref (ad 95))]) (hf : fn_Mod_needs_L17 y0 X = some res) : W p l e zR_Mod_needs s m args below meth c H locs 0 0 (MQ below (zu_Qv D cA ad A res Y) args s 0 0 A) (F0 m 17 ls [.int y0, .ref (ad 95)]) := by
  obtain ⟨hx, hb, hml, hown, hts, hST⟩ := id B
  unfold fn_Mod_needs_L17 at hf
  obtain ⟨hg3, hf⟩ := zu_gd_e hf
  refine zp_Mod_isWrong B hP hS hf rfl hg3 zq_879 zd_Mod_needs_17 (fun X4 H locs hf hP hS => ?_)
  refine lv_aload_n hx hb zd_Mod_needs_20 rfl (lv_at hl 0 rfl) ?_
  refine zg_Mod_isWrong B hP rfl zq_879 zd_Mod_needs_21 ?_
  refine lv_if_ne (tgt := 31) hx hb zd_Mod_needs_24 (by decide) (fun c5 => ?_) (fun c5 => ?_)
  · have hf := zu_f c5 hf
    exact zl_Mod_needs_L31 B hret hlk X4 _ _ _ hP hS (lv_sub hl [] rfl) hf
  · have hf := zu_t c5 hf
    refine lv_aload_n hx hb zd_Mod_needs_27 rfl (lv_at hl 0 rfl) ?_
    obtain ⟨X6, hq7, hf⟩ := zu_b1_e hf
    refine zw_Mod_token (rest := []) B hP hS hq7 zq_1243 (Nat.le_of_ble_eq_true rfl) (Nat.le_of_ble_eq_true rfl) hl.1 rfl (Nat.le_of_ble_eq_true rfl) zd_Mod_needs_28 (by decide) (fun H locs hP hS => ?_)
    clear hq7
    exact zl_Mod_needs_L31 B hret hlk X6 _ _ _ hP hS (lv_sub hl [] rfl) hf
set_option maxHeartbeats 4000000 in
theorem zl_Mod_needs_L12 {p : Program} {l : Launch} {e : Env} {s : State} {m : MethodId} {args : Array Value} {below : List Frame} {meth : Method} {c : Code} {D : va_G} {cA : Nat → ClassId} {ad : Nat → Nat} {A : Nat → Prop} (B : zu_B p s m args c zb_Mod_needs 2 "StonePostModel" D cA ad A) (hret : meth.sig.returnType = none) (hlk : meth.locks = false) {Y : LX} {res : IX} (X : IX) (H : Heap) (locs : List Loc) (ls : Array Slot) (hP : va_P D zu_cl (zu_pic cA ad X Y) H) (hS : va_S A s.heap H locs) (hl : lv_has ls 2 [(0, .ref (ad 95))]) (hf : fn_Mod_needs_L12 X = some res) : W p l e zR_Mod_needs s m args below meth c H locs 0 0 (MQ below (zu_Qv D cA ad A res Y) args s 0 0 A) (F0 m 12 ls [.ref (ad 95)]) := by
  obtain ⟨hx, hb, hml, hown, hts, hST⟩ := id B
  unfold fn_Mod_needs_L12 at hf
  refine lv_iconst (v := 1) hx hb zd_Mod_needs_12 (by decide) ?_
  refine lv_goto (tgt := 17) hx hb zd_Mod_needs_13 (by decide) ?_
  exact zl_Mod_needs_L17 B hret hlk (1 : Int32) X _ _ _ hP hS (lv_sub hl [0] rfl) hf
set_option maxHeartbeats 4000000 in
theorem zl_Mod_needs {p : Program} {l : Launch} {e : Env} {s : State} {m : MethodId} {args : Array Value} {below : List Frame} {meth : Method} {c : Code} {D : va_G} {cA : Nat → ClassId} {ad : Nat → Nat} {A : Nat → Prop} (B : zu_B p s m args c zb_Mod_needs 2 "StonePostModel" D cA ad A) (hret : meth.sig.returnType = none) (hlk : meth.locks = false) {Y : LX} {res : IX} {a1 : Int32} {X : IX} (H : Heap) (locs : List Loc) (ls : Array Slot) (hP : va_P D zu_cl (zu_pic cA ad X Y) H) (hS : va_S A s.heap H locs) (hl : lv_has ls 2 [(0, .ref (ad 95)), (1, .int a1)]) (hf : fn_Mod_needs a1 X = some res) : W p l e zR_Mod_needs s m args below meth c H locs 0 0 (MQ below (zu_Qv D cA ad A res Y) args s 0 0 A) (F0 m 0 ls []) := by
  obtain ⟨hx, hb, hml, hown, hts, hST⟩ := id B
  unfold fn_Mod_needs at hf
  refine lv_aload_n hx hb zd_Mod_needs_0 rfl (lv_at hl 0 rfl) ?_
  refine lv_aload_n hx hb zd_Mod_needs_1 rfl (lv_at hl 0 rfl) ?_
  refine zg_Mod_isWrong B hP rfl zq_879 zd_Mod_needs_2 ?_
  refine lv_if_ne (tgt := 12) hx hb zd_Mod_needs_5 (by decide) (fun c1 => ?_) (fun c1 => ?_)
  · have hf := zu_f c1 hf
    exact zl_Mod_needs_L12 B hret hlk X _ _ _ hP hS (lv_sub hl [0] rfl) hf
  · have hf := zu_t c1 hf
    refine lv_iload_n hx hb zd_Mod_needs_8 rfl (lv_at hl 1 rfl) ?_
    refine lv_if_ne (tgt := 16) hx hb zd_Mod_needs_9 (by decide) (fun c2 => ?_) (fun c2 => ?_)
    · have hf := zu_f c2 hf
      refine lv_iconst (v := 0) hx hb zd_Mod_needs_16 (by decide) ?_
      exact zl_Mod_needs_L17 B hret hlk (0 : Int32) X _ _ _ hP hS (lv_sub hl [0] rfl) hf
    · have hf := zu_t c2 hf
      exact zl_Mod_needs_L12 B hret hlk X _ _ _ hP hS (lv_sub hl [0] rfl) hf
theorem zC_Mod_needs (l : Launch) {D : va_G} {cA : Nat → ClassId} {ad : Nat → Nat} {A : Nat → Prop} {a1 : Int32} {X : IX} {Y : LX} {res : IX} (hf : fn_Mod_needs a1 X = some res) : Met l zm_Mod_needs (zu_ws zm_Mod_needs zb_Mod_needs 2 none) zR_Mod_needs (va_Pc [.ref (ad 95), .int a1] (zu_Pre D cA ad A X Y)) (zu_Qv D cA ad A res Y) 0 0 A := by
  refine Met.ofW (cc := zb_Mod_needs) (maxL := 2) (ret := none) (by decide +kernel) rfl ?_
  intro p e s m args below meth c s₁ B0 hml hv
  obtain ⟨rfl, hP, hST⟩ := hv
  have B : zu_B p s m _ c zb_Mod_needs 2 "StonePostModel" D cA ad A := ⟨B0.exec, B0.bytes, hml, findClass_of_methodNamed B0.named, (fun w hw => atoms_spec (ws := zu_ws zm_Mod_needs zb_Mod_needs 2 none) B0.pre w (List.mem_cons_of_mem _ hw)), hST⟩
  have hl := lv_entry ([.ref (ad 95), .int a1]) (n := 2) (Nat.le_of_ble_eq_true rfl)
  rw [lg_entry_eq]
  generalize (lg_sl ([.ref (ad 95), .int a1]) ++ List.replicate (2 - (lg_sl ([.ref (ad 95), .int a1])).length) Slot.unset).toArray = ls at hl ⊢
  exact zl_Mod_needs B B0.returns B0.notSynchronized s.heap [] ls hP va_S.rf hl  hf
theorem zw_Mod_needs {p : Program} {l : Launch} {e : Env} {R : Room} {s : State} {m : MethodId} {args : Array Value} {below : List Frame} {meth : Method} {c : Code} {H : Heap} {locs : List Loc} {cells slots : Nat} {Q : State → Prop} {cc : ByteArray} {pc nL : Nat} {ls : Array Slot} {rest st0 : List Value} {D : va_G} {cA : Nat → ClassId} {ad : Nat → Nat} {A : Nat → Prop} {X : IX} {Y : LX} {own : String} {index : Nat} {a1 : Int32} {X1 : IX} (B : zu_B p s m args c cc nL own D cA ad A) (hP : va_P D zu_cl (zu_pic cA ad X Y) H) (hS : va_S A s.heap H locs) (hq : fn_Mod_needs a1 X = some X1) (m1 : Cond.methodLink own index zm_Mod_needs ∈ zu_TB) (hR1 : 3 + 1 ≤ R.frames) (hR2 : 8 + (2 + 11) + 67 ≤ R.locals) (hsz : ls.size = nL) (hst : st0 = .int a1 :: .ref (ad 95) :: rest) (hw : (rest.map fun v => v.category).sum ≤ 8) (hdg : decode cc pc = .ok (.invokevirtual index, 3)) (h00 : cells ≤ R.cells ∧ slots ≤ R.slots) (kk : ∀ (H1 : Heap) (locs1 : List Loc), va_P D zu_cl (zu_pic cA ad X1 Y) H1 → va_S A s.heap H1 locs1 → W p l e R s m args below meth c H1 locs1 cells slots Q (F0 m (pc + 3) ls (rest))) : W p l e R s m args below meth c H locs cells slots Q (F0 m pc ls st0) := by
  subst hst
  exact zr_cVv (As := [.int a1]) (rest := rest) (n := 1) (C := "StonePostModel") (T := zt_Mod) (N := 23) B hP hS (zC_Mod_needs l  hq) (K := 7) rfl (by decide) (by decide) rfl rfl m1 zq_1295 zqP_56 zq_8 zq_1296 (by decide +kernel) ⟨hR1, hR2⟩ rfl rfl rfl hsz rfl hw hdg h00 kk
abbrev zR_Mod_word : Room := { frames := 2, cells := 0, slots := 0, locals := 45 }
theorem zd_Mod_word_0 : decode zb_Mod_word 0 = .ok (.lconst 0, 1) := by decide +kernel
theorem zd_Mod_word_1 : decode zb_Mod_word 1 = .ok (.lstore_n 1, 1) := by decide +kernel
theorem zd_Mod_word_2 : decode zb_Mod_word 2 = .ok (.aload_n 0, 1) := by decide +kernel
theorem zd_Mod_word_3 : decode zb_Mod_word 3 = .ok (.getfield 244, 3) := by decide +kernel
theorem zd_Mod_word_6 : decode zb_Mod_word 6 = .ok (.istore_n 3, 1) := by decide +kernel
theorem zd_Mod_word_7 : decode zb_Mod_word 7 = .ok (.iload_n 3, 1) := by decide +kernel
theorem zd_Mod_word_8 : decode zb_Mod_word 8 = .ok (.aload_n 0, 1) := by decide +kernel
theorem zd_Mod_word_9 : decode zb_Mod_word 9 = .ok (.getfield 241, 3) := by decide +kernel
theorem zd_Mod_word_12 : decode zb_Mod_word 12 = .ok (.if_icmp .ge 38, 3) := by decide +kernel
theorem zd_Mod_word_15 : decode zb_Mod_word 15 = .ok (.lload_n 1, 1) := by decide +kernel
theorem zd_Mod_word_16 : decode zb_Mod_word 16 = .ok (.ldc2_w 263, 3) := by decide +kernel
theorem zd_Mod_word_19 : decode zb_Mod_word 19 = .ok (.lcmp, 1) := by decide +kernel
theorem zd_Mod_word_20 : decode zb_Mod_word 20 = .ok (.ifCond .le 7, 3) := by decide +kernel
theorem zd_Mod_word_23 : decode zb_Mod_word 23 = .ok (.lload_n 1, 1) := by decide +kernel
theorem zd_Mod_word_24 : decode zb_Mod_word 24 = .ok (.goto 19, 3) := by decide +kernel
theorem zd_Mod_word_27 : decode zb_Mod_word 27 = .ok (.ldc2_w 265, 3) := by decide +kernel
theorem zd_Mod_word_30 : decode zb_Mod_word 30 = .ok (.lload_n 1, 1) := by decide +kernel
theorem zd_Mod_word_31 : decode zb_Mod_word 31 = .ok (.lmul, 1) := by decide +kernel
theorem zd_Mod_word_32 : decode zb_Mod_word 32 = .ok (.aload_n 0, 1) := by decide +kernel
theorem zd_Mod_word_33 : decode zb_Mod_word 33 = .ok (.getfield 35, 3) := by decide +kernel
theorem zd_Mod_word_36 : decode zb_Mod_word 36 = .ok (.iload_n 3, 1) := by decide +kernel
theorem zd_Mod_word_37 : decode zb_Mod_word 37 = .ok (.iaload, 1) := by decide +kernel
theorem zd_Mod_word_38 : decode zb_Mod_word 38 = .ok (.bipush 96, 2) := by decide +kernel
theorem zd_Mod_word_40 : decode zb_Mod_word 40 = .ok (.isub, 1) := by decide +kernel
theorem zd_Mod_word_41 : decode zb_Mod_word 41 = .ok (.i2l, 1) := by decide +kernel
theorem zd_Mod_word_42 : decode zb_Mod_word 42 = .ok (.ladd, 1) := by decide +kernel
theorem zd_Mod_word_43 : decode zb_Mod_word 43 = .ok (.lstore_n 1, 1) := by decide +kernel
theorem zd_Mod_word_44 : decode zb_Mod_word 44 = .ok (.iinc 3 1, 3) := by decide +kernel
theorem zd_Mod_word_47 : decode zb_Mod_word 47 = .ok (.goto (-40), 3) := by decide +kernel
theorem zd_Mod_word_50 : decode zb_Mod_word 50 = .ok (.aload_n 0, 1) := by decide +kernel
theorem zd_Mod_word_51 : decode zb_Mod_word 51 = .ok (.getfield 256, 3) := by decide +kernel
theorem zd_Mod_word_54 : decode zb_Mod_word 54 = .ok (.ifCond .ne 17, 3) := by decide +kernel
theorem zd_Mod_word_57 : decode zb_Mod_word 57 = .ok (.aload_n 0, 1) := by decide +kernel
theorem zd_Mod_word_58 : decode zb_Mod_word 58 = .ok (.aload_n 0, 1) := by decide +kernel
theorem zd_Mod_word_59 : decode zb_Mod_word 59 = .ok (.getfield 244, 3) := by decide +kernel
theorem zd_Mod_word_62 : decode zb_Mod_word 62 = .ok (.invokevirtual 247, 3) := by decide +kernel
theorem zd_Mod_word_65 : decode zb_Mod_word 65 = .ok (.invokestatic 250, 3) := by decide +kernel
theorem zd_Mod_word_68 : decode zb_Mod_word 68 = .ok (.ifCond .ne 7, 3) := by decide +kernel
theorem zd_Mod_word_71 : decode zb_Mod_word 71 = .ok (.lconst 0, 1) := by decide +kernel
theorem zd_Mod_word_72 : decode zb_Mod_word 72 = .ok (.goto 4, 3) := by decide +kernel
theorem zd_Mod_word_75 : decode zb_Mod_word 75 = .ok (.lload_n 1, 1) := by decide +kernel
theorem zd_Mod_word_76 : decode zb_Mod_word 76 = .ok (.lreturn, 1) := by decide +kernel
set_option maxHeartbeats 4000000 in
theorem zl_Mod_word_L76 {p : Program} {l : Launch} {e : Env} {s : State} {m : MethodId} {args : Array Value} {below : List Frame} {meth : Method} {c : Code} {D : va_G} {cA : Nat → ClassId} {ad : Nat → Nat} {A : Nat → Prop} (B : zu_B p s m args c zb_Mod_word 4 "StonePostModel" D cA ad A) (hret : meth.sig.returnType = (some .long)) (hlk : meth.locks = false) {X : IX} {Y : LX} {res : Int64} (y0 : Int64) (H : Heap) (locs : List Loc) (ls : Array Slot) (hP : va_P D zu_cl (zu_pic cA ad X Y) H) (hS : va_S A s.heap H locs) (hl : lv_has ls 4 []) (hf : fn_Mod_word_L76 X y0 = some res) : W p l e zR_Mod_word s m args below meth c H locs 0 0 (MQ below (zu_Ql D cA ad A res X Y) args s 0 0 A) (F0 m 76 ls [.long y0]) := by
  obtain ⟨hx, hb, hml, hown, hts, hST⟩ := id B
  unfold fn_Mod_word_L76 at hf
  obtain rfl := Option.some.inj hf
  exact zr_lret hx hb hret hlk hP hS zd_Mod_word_76
set_option maxHeartbeats 4000000 in
theorem zl_Mod_word_L71 {p : Program} {l : Launch} {e : Env} {s : State} {m : MethodId} {args : Array Value} {below : List Frame} {meth : Method} {c : Code} {D : va_G} {cA : Nat → ClassId} {ad : Nat → Nat} {A : Nat → Prop} (B : zu_B p s m args c zb_Mod_word 4 "StonePostModel" D cA ad A) (hret : meth.sig.returnType = (some .long)) (hlk : meth.locks = false) {X : IX} {Y : LX} {res : Int64} (H : Heap) (locs : List Loc) (ls : Array Slot) (hP : va_P D zu_cl (zu_pic cA ad X Y) H) (hS : va_S A s.heap H locs) (hl : lv_has ls 4 []) (hf : fn_Mod_word_L71 X = some res) : W p l e zR_Mod_word s m args below meth c H locs 0 0 (MQ below (zu_Ql D cA ad A res X Y) args s 0 0 A) (F0 m 71 ls []) := by
  obtain ⟨hx, hb, hml, hown, hts, hST⟩ := id B
  unfold fn_Mod_word_L71 at hf
  refine lv_lconst (v := 0) hx hb zd_Mod_word_71 (by decide) ?_
  refine lv_goto (tgt := 76) hx hb zd_Mod_word_72 (by decide) ?_
  exact zl_Mod_word_L76 B hret hlk (0 : Int64) _ _ _ hP hS (lv_sub hl [] rfl) hf
set_option maxHeartbeats 4000000 in
theorem zl_Mod_word_L43 {p : Program} {l : Launch} {e : Env} {s : State} {m : MethodId} {args : Array Value} {below : List Frame} {meth : Method} {c : Code} {D : va_G} {cA : Nat → ClassId} {ad : Nat → Nat} {A : Nat → Prop} (B : zu_B p s m args c zb_Mod_word 4 "StonePostModel" D cA ad A) (hret : meth.sig.returnType = (some .long)) (hlk : meth.locks = false) {X : IX} {Y : LX} {res : Int64} {k7 : Int64 → Int32 → Option Int64} (hk7 : ∀ (x1 : Int64) (x3 : Int32) (H : Heap) (locs : List Loc) (ls : Array Slot), va_P D zu_cl (zu_pic cA ad X Y) H → va_S A s.heap H locs → lv_has ls 4 [(0, .ref (ad 95)), (1, .long x1), (3, .int x3)] → k7 x1 x3 = some res → W p l e zR_Mod_word s m args below meth c H locs 0 0 (MQ below (zu_Ql D cA ad A res X Y) args s 0 0 A) (F0 m 7 ls [])) (x3 : Int32) (y0 : Int64) (H : Heap) (locs : List Loc) (ls : Array Slot) (hP : va_P D zu_cl (zu_pic cA ad X Y) H) (hS : va_S A s.heap H locs) (hl : lv_has ls 4 [(0, .ref (ad 95)), (3, .int x3)]) (hf : fn_Mod_word_L43 X k7 x3 y0 = some res) : W p l e zR_Mod_word s m args below meth c H locs 0 0 (MQ below (zu_Ql D cA ad A res X Y) args s 0 0 A) (F0 m 43 ls [.long y0]) := by
  obtain ⟨hx, hb, hml, hown, hts, hST⟩ := id B
  unfold fn_Mod_word_L43 at hf
  refine lv_lstore_n (lv' := [(1, .long y0), (0, .ref (ad 95)), (3, .int x3)]) hx hb zd_Mod_word_43 rfl hl (by decide) rfl (fun ls hl => ?_)
  obtain ⟨v11, ev11, hf⟩ := zu_nx_e hf
  refine lv_iinc (v := v11) (lv' := [(3, .int v11), (1, .long y0), (0, .ref (ad 95))]) hx hb zd_Mod_word_44 hl (k := 2) rfl (by rw [ev11]; rfl) (by decide) rfl (fun ls hl => ?_)
  clear ev11
  refine lv_goto (tgt := 7) hx hb zd_Mod_word_47 (by decide) ?_
  exact hk7 y0 v11 _ _ _ hP hS (lv_sub hl [2, 1, 0] rfl) hf
set_option maxHeartbeats 4000000 in
theorem zl_Mod_word_B7 {p : Program} {l : Launch} {e : Env} {s : State} {m : MethodId} {args : Array Value} {below : List Frame} {meth : Method} {c : Code} {D : va_G} {cA : Nat → ClassId} {ad : Nat → Nat} {A : Nat → Prop} (B : zu_B p s m args c zb_Mod_word 4 "StonePostModel" D cA ad A) (hret : meth.sig.returnType = (some .long)) (hlk : meth.locks = false) {X : IX} {Y : LX} {res : Int64} {k7 : Int64 → Int32 → Option Int64} (hk7 : ∀ (x1 : Int64) (x3 : Int32) (H : Heap) (locs : List Loc) (ls : Array Slot), va_P D zu_cl (zu_pic cA ad X Y) H → va_S A s.heap H locs → lv_has ls 4 [(0, .ref (ad 95)), (1, .long x1), (3, .int x3)] → k7 x1 x3 = some res → W p l e zR_Mod_word s m args below meth c H locs 0 0 (MQ below (zu_Ql D cA ad A res X Y) args s 0 0 A) (F0 m 7 ls [])) (x1 : Int64) (x3 : Int32) (H : Heap) (locs : List Loc) (ls : Array Slot) (hP : va_P D zu_cl (zu_pic cA ad X Y) H) (hS : va_S A s.heap H locs) (hl : lv_has ls 4 [(0, .ref (ad 95)), (1, .long x1), (3, .int x3)]) (hf : fn_Mod_word_B7 X k7 x1 x3 = some res) : W p l e zR_Mod_word s m args below meth c H locs 0 0 (MQ below (zu_Ql D cA ad A res X Y) args s 0 0 A) (F0 m 7 ls []) := by
  obtain ⟨hx, hb, hml, hown, hts, hST⟩ := id B
  unfold fn_Mod_word_B7 at hf
  refine lv_iload_n hx hb zd_Mod_word_7 rfl (lv_at hl 2 rfl) ?_
  refine lv_aload_n hx hb zd_Mod_word_8 rfl (lv_at hl 0 rfl) ?_
  refine zg_Mod_to B hP rfl zq_877 zd_Mod_word_9 ?_
  refine lv_icmp_ge (tgt := 50) hx hb zd_Mod_word_12 (by decide) (fun c2 => ?_) (fun c2 => ?_)
  · have hf := zu_t c2 hf
    refine lv_aload_n hx hb zd_Mod_word_50 rfl (lv_at hl 0 rfl) ?_
    refine zg_Mod_isWrong B hP rfl zq_879 zd_Mod_word_51 ?_
    refine lv_if_ne (tgt := 71) hx hb zd_Mod_word_54 (by decide) (fun c3 => ?_) (fun c3 => ?_)
    · have hf := zu_f c3 hf
      exact zl_Mod_word_L71 B hret hlk _ _ _ hP hS (lv_sub hl [] rfl) hf
    · have hf := zu_t c3 hf
      refine lv_aload_n hx hb zd_Mod_word_57 rfl (lv_at hl 0 rfl) ?_
      refine lv_aload_n hx hb zd_Mod_word_58 rfl (lv_at hl 0 rfl) ?_
      refine zg_Mod_begins B hP rfl zq_876 zd_Mod_word_59 ?_
      obtain ⟨v4, hq5, hf⟩ := zu_b1_e hf
      refine zw_Mod_byteAt (rest := []) B hP hS hq5 zq_1247 (Nat.le_of_ble_eq_true rfl) (Nat.le_of_ble_eq_true rfl) hl.1 rfl (Nat.le_of_ble_eq_true rfl) zd_Mod_word_62 (by decide) (fun H locs hP hS => ?_)
      clear hq5
      obtain ⟨v6, hq7, hf⟩ := zu_b1_e hf
      refine zw_Mod_isAlpha (rest := []) B hP hS hq7 zq_1251 (Nat.le_of_ble_eq_true rfl) (Nat.le_of_ble_eq_true rfl) hl.1 rfl (Nat.le_of_ble_eq_true rfl) zd_Mod_word_65 (by decide) (fun H locs hP hS => ?_)
      clear hq7
      refine lv_if_ne (tgt := 75) hx hb zd_Mod_word_68 (by decide) (fun c8 => ?_) (fun c8 => ?_)
      · have hf := zu_f c8 hf
        refine lv_lload_n hx hb zd_Mod_word_75 rfl (lv_at hl 1 rfl) ?_
        exact zl_Mod_word_L76 B hret hlk x1 _ _ _ hP hS (lv_sub hl [] rfl) hf
      · have hf := zu_t c8 hf
        exact zl_Mod_word_L71 B hret hlk _ _ _ hP hS (lv_sub hl [] rfl) hf
  · have hf := zu_f c2 hf
    refine lv_lload_n hx hb zd_Mod_word_15 rfl (lv_at hl 1 rfl) ?_
    refine lv_ldc2 (v := 36028797018963967) hx hb hown (hts _ zq_1272) zd_Mod_word_16 ?_
    refine W.lcmp hx hb zd_Mod_word_19 ?_
    refine lv_if_le (tgt := 27) hx hb zd_Mod_word_20 (by decide) (fun c9 => ?_) (fun c9 => ?_)
    · have hf := zu_t c9 hf
      refine lv_ldc2 (v := 32) hx hb hown (hts _ zq_1273) zd_Mod_word_27 ?_
      refine lv_lload_n hx hb zd_Mod_word_30 rfl (lv_at hl 1 rfl) ?_
      refine lv_lmul hx hb zd_Mod_word_31 ?_
      refine lv_aload_n hx hb zd_Mod_word_32 rfl (lv_at hl 0 rfl) ?_
      refine zg_Mod_tape B hP rfl zq_874 zd_Mod_word_33 ?_
      refine lv_iload_n hx hb zd_Mod_word_36 rfl (lv_at hl 2 rfl) ?_
      obtain ⟨hg10, hf⟩ := zu_gd_e hf
      refine zr_iald rfl B hP rfl (by decide) rfl hg10 zd_Mod_word_37 ?_
      refine lv_bipush (v := 96) hx hb zd_Mod_word_38 (by decide) ?_
      refine lv_isub hx hb zd_Mod_word_40 ?_
      refine lv_i2l hx hb zd_Mod_word_41 rfl ?_
      refine lv_ladd hx hb zd_Mod_word_42 ?_
      exact zl_Mod_word_L43 B hret hlk hk7 x3 (((32 : Int64) * x1) + (((X 104 (x3.toNatClampNeg)) - (96 : Int32)).toInt64)) _ _ _ hP hS (lv_sub hl [0, 2] rfl) hf
    · have hf := zu_f c9 hf
      refine lv_lload_n hx hb zd_Mod_word_23 rfl (lv_at hl 1 rfl) ?_
      refine lv_goto (tgt := 43) hx hb zd_Mod_word_24 (by decide) ?_
      exact zl_Mod_word_L43 B hret hlk hk7 x3 x1 _ _ _ hP hS (lv_sub hl [0, 2] rfl) hf
theorem zl_Mod_word_L7 {p : Program} {l : Launch} {e : Env} {s : State} {m : MethodId} {args : Array Value} {below : List Frame} {meth : Method} {c : Code} {D : va_G} {cA : Nat → ClassId} {ad : Nat → Nat} {A : Nat → Prop} (B : zu_B p s m args c zb_Mod_word 4 "StonePostModel" D cA ad A) (hret : meth.sig.returnType = (some .long)) (hlk : meth.locks = false) {X : IX} {Y : LX} {res : Int64} : ∀ (n : Nat) (x1 : Int64) (x3 : Int32) (H : Heap) (locs : List Loc) (ls : Array Slot), va_P D zu_cl (zu_pic cA ad X Y) H → va_S A s.heap H locs → lv_has ls 4 [(0, .ref (ad 95)), (1, .long x1), (3, .int x3)] → fn_Mod_word_L7 X n x1 x3 = some res → W p l e zR_Mod_word s m args below meth c H locs 0 0 (MQ below (zu_Ql D cA ad A res X Y) args s 0 0 A) (F0 m 7 ls []) := by
  intro n
  induction n with
  | zero =>
    intro x1 x3 H locs ls hP hS hl hf
    exact (Option.some_ne_none _ hf.symm).elim
  | succ n ih =>
    intro x1 x3 H locs ls hP hS hl hf
    exact zl_Mod_word_B7 B hret hlk ih x1 x3 H locs ls hP hS hl  hf
set_option maxHeartbeats 4000000 in
theorem zl_Mod_word {p : Program} {l : Launch} {e : Env} {s : State} {m : MethodId} {args : Array Value} {below : List Frame} {meth : Method} {c : Code} {D : va_G} {cA : Nat → ClassId} {ad : Nat → Nat} {A : Nat → Prop} (B : zu_B p s m args c zb_Mod_word 4 "StonePostModel" D cA ad A) (hret : meth.sig.returnType = (some .long)) (hlk : meth.locks = false) {X : IX} {Y : LX} {res : Int64} (H : Heap) (locs : List Loc) (ls : Array Slot) (hP : va_P D zu_cl (zu_pic cA ad X Y) H) (hS : va_S A s.heap H locs) (hl : lv_has ls 4 [(0, .ref (ad 95))]) (hf : fn_Mod_word X = some res) : W p l e zR_Mod_word s m args below meth c H locs 0 0 (MQ below (zu_Ql D cA ad A res X Y) args s 0 0 A) (F0 m 0 ls []) := by
  obtain ⟨hx, hb, hml, hown, hts, hST⟩ := id B
  unfold fn_Mod_word at hf
  refine lv_lconst (v := 0) hx hb zd_Mod_word_0 (by decide) ?_
  refine lv_lstore_n (lv' := [(1, .long (0 : Int64)), (0, .ref (ad 95))]) hx hb zd_Mod_word_1 rfl hl (by decide) rfl (fun ls hl => ?_)
  refine lv_aload_n hx hb zd_Mod_word_2 rfl (lv_at hl 1 rfl) ?_
  refine zg_Mod_begins B hP rfl zq_876 zd_Mod_word_3 ?_
  refine zr_nxi hf (fun v1 hf => ?_)
  refine lv_istore_n (lv' := [(3, .int v1), (1, .long (0 : Int64)), (0, .ref (ad 95))]) hx hb zd_Mod_word_6 rfl hl (by decide) rfl (fun ls hl => ?_)
  exact zl_Mod_word_L7 B hret hlk 400 (0 : Int64) v1 _ _ _ hP hS (lv_sub hl [2, 1, 0] rfl) hf
theorem zC_Mod_word (l : Launch) {D : va_G} {cA : Nat → ClassId} {ad : Nat → Nat} {A : Nat → Prop} {X : IX} {Y : LX} {res : Int64} (hf : fn_Mod_word X = some res) : Met l zm_Mod_word (zu_ws zm_Mod_word zb_Mod_word 4 (some .long)) zR_Mod_word (va_Pc [.ref (ad 95)] (zu_Pre D cA ad A X Y)) (zu_Ql D cA ad A res X Y) 0 0 A := by
  refine Met.ofW (cc := zb_Mod_word) (maxL := 4) (ret := (some .long)) (by decide +kernel) rfl ?_
  intro p e s m args below meth c s₁ B0 hml hv
  obtain ⟨rfl, hP, hST⟩ := hv
  have B : zu_B p s m _ c zb_Mod_word 4 "StonePostModel" D cA ad A := ⟨B0.exec, B0.bytes, hml, findClass_of_methodNamed B0.named, (fun w hw => atoms_spec (ws := zu_ws zm_Mod_word zb_Mod_word 4 (some .long)) B0.pre w (List.mem_cons_of_mem _ hw)), hST⟩
  have hl := lv_entry ([.ref (ad 95)]) (n := 4) (Nat.le_of_ble_eq_true rfl)
  rw [lg_entry_eq]
  generalize (lg_sl ([.ref (ad 95)]) ++ List.replicate (4 - (lg_sl ([.ref (ad 95)])).length) Slot.unset).toArray = ls at hl ⊢
  exact zl_Mod_word B B0.returns B0.notSynchronized s.heap [] ls hP va_S.rf hl  hf
theorem zw_Mod_word {p : Program} {l : Launch} {e : Env} {R : Room} {s : State} {m : MethodId} {args : Array Value} {below : List Frame} {meth : Method} {c : Code} {H : Heap} {locs : List Loc} {cells slots : Nat} {Q : State → Prop} {cc : ByteArray} {pc nL : Nat} {ls : Array Slot} {rest st0 : List Value} {D : va_G} {cA : Nat → ClassId} {ad : Nat → Nat} {A : Nat → Prop} {X : IX} {Y : LX} {own : String} {index : Nat} {v1 : Int64} (B : zu_B p s m args c cc nL own D cA ad A) (hP : va_P D zu_cl (zu_pic cA ad X Y) H) (hS : va_S A s.heap H locs) (hq : fn_Mod_word X = some v1) (m1 : Cond.methodLink own index zm_Mod_word ∈ zu_TB) (hR1 : 2 + 1 ≤ R.frames) (hR2 : 8 + (4 + 11) + 45 ≤ R.locals) (hsz : ls.size = nL) (hst : st0 = .ref (ad 95) :: rest) (hw : (rest.map fun v => v.category).sum ≤ 8) (hdg : decode cc pc = .ok (.invokevirtual index, 3)) (h00 : cells ≤ R.cells ∧ slots ≤ R.slots) (kk : ∀ (H1 : Heap) (locs1 : List Loc), va_P D zu_cl (zu_pic cA ad X Y) H1 → va_S A s.heap H1 locs1 → W p l e R s m args below meth c H1 locs1 cells slots Q (F0 m (pc + 3) ls (.long v1 :: rest))) : W p l e R s m args below meth c H locs cells slots Q (F0 m pc ls st0) := by
  subst hst
  exact zr_cVl (As := []) (rest := rest) (n := 0) (C := "StonePostModel") (T := zt_Mod) (N := 23) B hP hS (zC_Mod_word l  hq) (K := 7) rfl (by decide) (by decide) rfl rfl m1 zq_1270 zqP_53 zq_8 zq_1271 (by decide +kernel) ⟨hR1, hR2⟩ rfl rfl rfl hsz rfl hw hdg h00 kk
abbrev zR_Mod_number : Room := { frames := 4, cells := 0, slots := 0, locals := 88 }
theorem zd_Mod_number_0 : decode zb_Mod_number 0 = .ok (.aload_n 0, 1) := by decide +kernel
theorem zd_Mod_number_1 : decode zb_Mod_number 1 = .ok (.getfield 256, 3) := by decide +kernel
theorem zd_Mod_number_4 : decode zb_Mod_number 4 = .ok (.ifCond .eq 4, 3) := by decide +kernel
theorem zd_Mod_number_7 : decode zb_Mod_number 7 = .ok (.return_, 1) := by decide +kernel
theorem zd_Mod_number_8 : decode zb_Mod_number 8 = .ok (.aload_n 0, 1) := by decide +kernel
theorem zd_Mod_number_9 : decode zb_Mod_number 9 = .ok (.aload_n 0, 1) := by decide +kernel
theorem zd_Mod_number_10 : decode zb_Mod_number 10 = .ok (.getfield 244, 3) := by decide +kernel
theorem zd_Mod_number_13 : decode zb_Mod_number 13 = .ok (.invokevirtual 247, 3) := by decide +kernel
theorem zd_Mod_number_16 : decode zb_Mod_number 16 = .ok (.invokestatic 253, 3) := by decide +kernel
theorem zd_Mod_number_19 : decode zb_Mod_number 19 = .ok (.istore_n 3, 1) := by decide +kernel
theorem zd_Mod_number_20 : decode zb_Mod_number 20 = .ok (.iconst 0, 1) := by decide +kernel
theorem zd_Mod_number_21 : decode zb_Mod_number 21 = .ok (.istore 4, 2) := by decide +kernel
theorem zd_Mod_number_23 : decode zb_Mod_number 23 = .ok (.aload_n 0, 1) := by decide +kernel
theorem zd_Mod_number_24 : decode zb_Mod_number 24 = .ok (.getfield 244, 3) := by decide +kernel
theorem zd_Mod_number_27 : decode zb_Mod_number 27 = .ok (.istore 5, 2) := by decide +kernel
theorem zd_Mod_number_29 : decode zb_Mod_number 29 = .ok (.iload 5, 2) := by decide +kernel
theorem zd_Mod_number_31 : decode zb_Mod_number 31 = .ok (.aload_n 0, 1) := by decide +kernel
theorem zd_Mod_number_32 : decode zb_Mod_number 32 = .ok (.getfield 241, 3) := by decide +kernel
theorem zd_Mod_number_35 : decode zb_Mod_number 35 = .ok (.if_icmp .ge 44, 3) := by decide +kernel
theorem zd_Mod_number_38 : decode zb_Mod_number 38 = .ok (.iload_n 3, 1) := by decide +kernel
theorem zd_Mod_number_39 : decode zb_Mod_number 39 = .ok (.ifCond .eq 40, 3) := by decide +kernel
theorem zd_Mod_number_42 : decode zb_Mod_number 42 = .ok (.iload 4, 2) := by decide +kernel
theorem zd_Mod_number_44 : decode zb_Mod_number 44 = .ok (.sipush 999, 3) := by decide +kernel
theorem zd_Mod_number_47 : decode zb_Mod_number 47 = .ok (.if_icmp .le 8, 3) := by decide +kernel
theorem zd_Mod_number_50 : decode zb_Mod_number 50 = .ok (.iload 4, 2) := by decide +kernel
theorem zd_Mod_number_52 : decode zb_Mod_number 52 = .ok (.goto 19, 3) := by decide +kernel
theorem zd_Mod_number_55 : decode zb_Mod_number 55 = .ok (.bipush 10, 2) := by decide +kernel
theorem zd_Mod_number_57 : decode zb_Mod_number 57 = .ok (.iload 4, 2) := by decide +kernel
theorem zd_Mod_number_59 : decode zb_Mod_number 59 = .ok (.imul, 1) := by decide +kernel
theorem zd_Mod_number_60 : decode zb_Mod_number 60 = .ok (.aload_n 0, 1) := by decide +kernel
theorem zd_Mod_number_61 : decode zb_Mod_number 61 = .ok (.getfield 35, 3) := by decide +kernel
theorem zd_Mod_number_64 : decode zb_Mod_number 64 = .ok (.iload 5, 2) := by decide +kernel
theorem zd_Mod_number_66 : decode zb_Mod_number 66 = .ok (.iaload, 1) := by decide +kernel
theorem zd_Mod_number_67 : decode zb_Mod_number 67 = .ok (.iadd, 1) := by decide +kernel
theorem zd_Mod_number_68 : decode zb_Mod_number 68 = .ok (.bipush 48, 2) := by decide +kernel
theorem zd_Mod_number_70 : decode zb_Mod_number 70 = .ok (.isub, 1) := by decide +kernel
theorem zd_Mod_number_71 : decode zb_Mod_number 71 = .ok (.istore 4, 2) := by decide +kernel
theorem zd_Mod_number_73 : decode zb_Mod_number 73 = .ok (.iinc 5 1, 3) := by decide +kernel
theorem zd_Mod_number_76 : decode zb_Mod_number 76 = .ok (.goto (-47), 3) := by decide +kernel
theorem zd_Mod_number_79 : decode zb_Mod_number 79 = .ok (.aload_n 0, 1) := by decide +kernel
theorem zd_Mod_number_80 : decode zb_Mod_number 80 = .ok (.iload 4, 2) := by decide +kernel
theorem zd_Mod_number_82 : decode zb_Mod_number 82 = .ok (.putfield 267, 3) := by decide +kernel
theorem zd_Mod_number_85 : decode zb_Mod_number 85 = .ok (.aload_n 0, 1) := by decide +kernel
theorem zd_Mod_number_86 : decode zb_Mod_number 86 = .ok (.iload_n 3, 1) := by decide +kernel
theorem zd_Mod_number_87 : decode zb_Mod_number 87 = .ok (.ifCond .eq 20, 3) := by decide +kernel
theorem zd_Mod_number_90 : decode zb_Mod_number 90 = .ok (.iload 4, 2) := by decide +kernel
theorem zd_Mod_number_92 : decode zb_Mod_number 92 = .ok (.i2l, 1) := by decide +kernel
theorem zd_Mod_number_93 : decode zb_Mod_number 93 = .ok (.iload_n 1, 1) := by decide +kernel
theorem zd_Mod_number_94 : decode zb_Mod_number 94 = .ok (.i2l, 1) := by decide +kernel
theorem zd_Mod_number_95 : decode zb_Mod_number 95 = .ok (.iload_n 2, 1) := by decide +kernel
theorem zd_Mod_number_96 : decode zb_Mod_number 96 = .ok (.i2l, 1) := by decide +kernel
theorem zd_Mod_number_97 : decode zb_Mod_number 97 = .ok (.invokestatic 53, 3) := by decide +kernel
theorem zd_Mod_number_100 : decode zb_Mod_number 100 = .ok (.ifCond .eq 7, 3) := by decide +kernel
theorem zd_Mod_number_103 : decode zb_Mod_number 103 = .ok (.iconst 1, 1) := by decide +kernel
theorem zd_Mod_number_104 : decode zb_Mod_number 104 = .ok (.goto 4, 3) := by decide +kernel
theorem zd_Mod_number_107 : decode zb_Mod_number 107 = .ok (.iconst 0, 1) := by decide +kernel
theorem zd_Mod_number_108 : decode zb_Mod_number 108 = .ok (.invokevirtual 270, 3) := by decide +kernel
theorem zd_Mod_number_111 : decode zb_Mod_number 111 = .ok (.return_, 1) := by decide +kernel
set_option maxHeartbeats 4000000 in
theorem zl_Mod_number_L108 {p : Program} {l : Launch} {e : Env} {s : State} {m : MethodId} {args : Array Value} {below : List Frame} {meth : Method} {c : Code} {D : va_G} {cA : Nat → ClassId} {ad : Nat → Nat} {A : Nat → Prop} (B : zu_B p s m args c zb_Mod_number 6 "StonePostModel" D cA ad A) (hret : meth.sig.returnType = none) (hlk : meth.locks = false) {Y : LX} {res : IX} (y0 : Int32) (X : IX) (H : Heap) (locs : List Loc) (ls : Array Slot) (hP : va_P D zu_cl (zu_pic cA ad X Y) H) (hS : va_S A s.heap H locs) (hl : lv_has ls 6 []) (hf : fn_Mod_number_L108 y0 X = some res) : W p l e zR_Mod_number s m args below meth c H locs 0 0 (MQ below (zu_Qv D cA ad A res Y) args s 0 0 A) (F0 m 108 ls [.int y0, .ref (ad 95)]) := by
  obtain ⟨hx, hb, hml, hown, hts, hST⟩ := id B
  unfold fn_Mod_number_L108 at hf
  obtain ⟨X17, hq18, hf⟩ := zu_b1_e hf
  refine zw_Mod_needs (rest := []) B hP hS hq18 zq_1293 (Nat.le_of_ble_eq_true rfl) (Nat.le_of_ble_eq_true rfl) hl.1 rfl (Nat.le_of_ble_eq_true rfl) zd_Mod_number_108 (by decide) (fun H locs hP hS => ?_)
  clear hq18
  obtain rfl := Option.some.inj hf
  exact zr_vret hx hb hret hlk hP hS zd_Mod_number_111
set_option maxHeartbeats 4000000 in
theorem zl_Mod_number_L107 {p : Program} {l : Launch} {e : Env} {s : State} {m : MethodId} {args : Array Value} {below : List Frame} {meth : Method} {c : Code} {D : va_G} {cA : Nat → ClassId} {ad : Nat → Nat} {A : Nat → Prop} (B : zu_B p s m args c zb_Mod_number 6 "StonePostModel" D cA ad A) (hret : meth.sig.returnType = none) (hlk : meth.locks = false) {Y : LX} {res : IX} (X : IX) (H : Heap) (locs : List Loc) (ls : Array Slot) (hP : va_P D zu_cl (zu_pic cA ad X Y) H) (hS : va_S A s.heap H locs) (hl : lv_has ls 6 []) (hf : fn_Mod_number_L107 X = some res) : W p l e zR_Mod_number s m args below meth c H locs 0 0 (MQ below (zu_Qv D cA ad A res Y) args s 0 0 A) (F0 m 107 ls [.ref (ad 95)]) := by
  obtain ⟨hx, hb, hml, hown, hts, hST⟩ := id B
  unfold fn_Mod_number_L107 at hf
  refine lv_iconst (v := 0) hx hb zd_Mod_number_107 (by decide) ?_
  exact zl_Mod_number_L108 B hret hlk (0 : Int32) X _ _ _ hP hS (lv_sub hl [] rfl) hf
set_option maxHeartbeats 4000000 in
theorem zl_Mod_number_L79 {p : Program} {l : Launch} {e : Env} {s : State} {m : MethodId} {args : Array Value} {below : List Frame} {meth : Method} {c : Code} {D : va_G} {cA : Nat → ClassId} {ad : Nat → Nat} {A : Nat → Prop} (B : zu_B p s m args c zb_Mod_number 6 "StonePostModel" D cA ad A) (hret : meth.sig.returnType = none) (hlk : meth.locks = false) {Y : LX} {res : IX} (x1 : Int32) (x2 : Int32) (x3 : Int32) (x4 : Int32) (X : IX) (H : Heap) (locs : List Loc) (ls : Array Slot) (hP : va_P D zu_cl (zu_pic cA ad X Y) H) (hS : va_S A s.heap H locs) (hl : lv_has ls 6 [(0, .ref (ad 95)), (1, .int x1), (2, .int x2), (3, .int x3), (4, .int x4)]) (hf : fn_Mod_number_L79 x1 x2 x3 x4 X = some res) : W p l e zR_Mod_number s m args below meth c H locs 0 0 (MQ below (zu_Qv D cA ad A res Y) args s 0 0 A) (F0 m 79 ls []) := by
  obtain ⟨hx, hb, hml, hown, hts, hST⟩ := id B
  unfold fn_Mod_number_L79 at hf
  refine lv_aload_n hx hb zd_Mod_number_79 rfl (lv_at hl 0 rfl) ?_
  refine lv_iload hx hb zd_Mod_number_80 (lv_at hl 4 rfl) ?_
  refine zp_Mod_value B hP hS hf rfl zq_878 zd_Mod_number_82 (fun X11 H locs hf hP hS => ?_)
  refine lv_aload_n hx hb zd_Mod_number_85 rfl (lv_at hl 0 rfl) ?_
  refine lv_iload_n hx hb zd_Mod_number_86 rfl (lv_at hl 3 rfl) ?_
  refine lv_if_eq (tgt := 107) hx hb zd_Mod_number_87 (by decide) (fun c12 => ?_) (fun c12 => ?_)
  · have hf := zu_t c12 hf
    exact zl_Mod_number_L107 B hret hlk X11 _ _ _ hP hS (lv_sub hl [] rfl) hf
  · have hf := zu_f c12 hf
    refine lv_iload hx hb zd_Mod_number_90 (lv_at hl 4 rfl) ?_
    refine lv_i2l hx hb zd_Mod_number_92 rfl ?_
    refine lv_iload_n hx hb zd_Mod_number_93 rfl (lv_at hl 1 rfl) ?_
    refine lv_i2l hx hb zd_Mod_number_94 rfl ?_
    refine lv_iload_n hx hb zd_Mod_number_95 rfl (lv_at hl 2 rfl) ?_
    refine lv_i2l hx hb zd_Mod_number_96 rfl ?_
    obtain ⟨v13, hq14, hf⟩ := zu_b1_e hf
    refine zw_Mod_in (rest := [.ref (ad 95)]) B hP hS hq14 zq_939 (Nat.le_of_ble_eq_true rfl) (Nat.le_of_ble_eq_true rfl) hl.1 rfl (Nat.le_of_ble_eq_true rfl) zd_Mod_number_97 (by decide) (fun H locs hP hS => ?_)
    clear hq14
    refine lv_if_eq (tgt := 107) hx hb zd_Mod_number_100 (by decide) (fun c15 => ?_) (fun c15 => ?_)
    · have hf := zu_t c15 hf
      exact zl_Mod_number_L107 B hret hlk X11 _ _ _ hP hS (lv_sub hl [] rfl) hf
    · have hf := zu_f c15 hf
      refine lv_iconst (v := 1) hx hb zd_Mod_number_103 (by decide) ?_
      refine lv_goto (tgt := 108) hx hb zd_Mod_number_104 (by decide) ?_
      exact zl_Mod_number_L108 B hret hlk (1 : Int32) X11 _ _ _ hP hS (lv_sub hl [] rfl) hf
set_option maxHeartbeats 4000000 in
theorem zl_Mod_number_L71 {p : Program} {l : Launch} {e : Env} {s : State} {m : MethodId} {args : Array Value} {below : List Frame} {meth : Method} {c : Code} {D : va_G} {cA : Nat → ClassId} {ad : Nat → Nat} {A : Nat → Prop} (B : zu_B p s m args c zb_Mod_number 6 "StonePostModel" D cA ad A) (hret : meth.sig.returnType = none) (hlk : meth.locks = false) {Y : LX} {res : IX} {k29 : Int32 → Int32 → Int32 → Int32 → Int32 → IX → Option IX} (hk29 : ∀ (x1 : Int32) (x2 : Int32) (x3 : Int32) (x4 : Int32) (x5 : Int32) (X : IX) (H : Heap) (locs : List Loc) (ls : Array Slot), va_P D zu_cl (zu_pic cA ad X Y) H → va_S A s.heap H locs → lv_has ls 6 [(0, .ref (ad 95)), (1, .int x1), (2, .int x2), (3, .int x3), (4, .int x4), (5, .int x5)] → k29 x1 x2 x3 x4 x5 X = some res → W p l e zR_Mod_number s m args below meth c H locs 0 0 (MQ below (zu_Qv D cA ad A res Y) args s 0 0 A) (F0 m 29 ls [])) (x1 : Int32) (x2 : Int32) (x3 : Int32) (x5 : Int32) (y0 : Int32) (X : IX) (H : Heap) (locs : List Loc) (ls : Array Slot) (hP : va_P D zu_cl (zu_pic cA ad X Y) H) (hS : va_S A s.heap H locs) (hl : lv_has ls 6 [(0, .ref (ad 95)), (1, .int x1), (2, .int x2), (3, .int x3), (5, .int x5)]) (hf : fn_Mod_number_L71 k29 x1 x2 x3 x5 y0 X = some res) : W p l e zR_Mod_number s m args below meth c H locs 0 0 (MQ below (zu_Qv D cA ad A res Y) args s 0 0 A) (F0 m 71 ls [.int y0]) := by
  obtain ⟨hx, hb, hml, hown, hts, hST⟩ := id B
  unfold fn_Mod_number_L71 at hf
  refine lv_istore (lv' := [(4, .int y0), (0, .ref (ad 95)), (1, .int x1), (2, .int x2), (3, .int x3), (5, .int x5)]) hx hb zd_Mod_number_71 hl (by decide) rfl (fun ls hl => ?_)
  obtain ⟨v16, ev16, hf⟩ := zu_nx_e hf
  refine lv_iinc (v := v16) (lv' := [(5, .int v16), (4, .int y0), (0, .ref (ad 95)), (1, .int x1), (2, .int x2), (3, .int x3)]) hx hb zd_Mod_number_73 hl (k := 5) rfl (by rw [ev16]; rfl) (by decide) rfl (fun ls hl => ?_)
  clear ev16
  refine lv_goto (tgt := 29) hx hb zd_Mod_number_76 (by decide) ?_
  exact hk29 x1 x2 x3 y0 v16 X _ _ _ hP hS (lv_sub hl [2, 3, 4, 5, 1, 0] rfl) hf
set_option maxHeartbeats 4000000 in
theorem zl_Mod_number_B29 {p : Program} {l : Launch} {e : Env} {s : State} {m : MethodId} {args : Array Value} {below : List Frame} {meth : Method} {c : Code} {D : va_G} {cA : Nat → ClassId} {ad : Nat → Nat} {A : Nat → Prop} (B : zu_B p s m args c zb_Mod_number 6 "StonePostModel" D cA ad A) (hret : meth.sig.returnType = none) (hlk : meth.locks = false) {Y : LX} {res : IX} {k29 : Int32 → Int32 → Int32 → Int32 → Int32 → IX → Option IX} (hk29 : ∀ (x1 : Int32) (x2 : Int32) (x3 : Int32) (x4 : Int32) (x5 : Int32) (X : IX) (H : Heap) (locs : List Loc) (ls : Array Slot), va_P D zu_cl (zu_pic cA ad X Y) H → va_S A s.heap H locs → lv_has ls 6 [(0, .ref (ad 95)), (1, .int x1), (2, .int x2), (3, .int x3), (4, .int x4), (5, .int x5)] → k29 x1 x2 x3 x4 x5 X = some res → W p l e zR_Mod_number s m args below meth c H locs 0 0 (MQ below (zu_Qv D cA ad A res Y) args s 0 0 A) (F0 m 29 ls [])) (x1 : Int32) (x2 : Int32) (x3 : Int32) (x4 : Int32) (x5 : Int32) (X : IX) (H : Heap) (locs : List Loc) (ls : Array Slot) (hP : va_P D zu_cl (zu_pic cA ad X Y) H) (hS : va_S A s.heap H locs) (hl : lv_has ls 6 [(0, .ref (ad 95)), (1, .int x1), (2, .int x2), (3, .int x3), (4, .int x4), (5, .int x5)]) (hf : fn_Mod_number_B29 k29 x1 x2 x3 x4 x5 X = some res) : W p l e zR_Mod_number s m args below meth c H locs 0 0 (MQ below (zu_Qv D cA ad A res Y) args s 0 0 A) (F0 m 29 ls []) := by
  obtain ⟨hx, hb, hml, hown, hts, hST⟩ := id B
  unfold fn_Mod_number_B29 at hf
  refine lv_iload hx hb zd_Mod_number_29 (lv_at hl 5 rfl) ?_
  refine lv_aload_n hx hb zd_Mod_number_31 rfl (lv_at hl 0 rfl) ?_
  refine zg_Mod_to B hP rfl zq_877 zd_Mod_number_32 ?_
  refine lv_icmp_ge (tgt := 79) hx hb zd_Mod_number_35 (by decide) (fun c7 => ?_) (fun c7 => ?_)
  · have hf := zu_t c7 hf
    exact zl_Mod_number_L79 B hret hlk x1 x2 x3 x4 X _ _ _ hP hS (lv_sub hl [0, 1, 2, 3, 4] rfl) hf
  · have hf := zu_f c7 hf
    refine lv_iload_n hx hb zd_Mod_number_38 rfl (lv_at hl 3 rfl) ?_
    refine lv_if_eq (tgt := 79) hx hb zd_Mod_number_39 (by decide) (fun c8 => ?_) (fun c8 => ?_)
    · have hf := zu_t c8 hf
      exact zl_Mod_number_L79 B hret hlk x1 x2 x3 x4 X _ _ _ hP hS (lv_sub hl [0, 1, 2, 3, 4] rfl) hf
    · have hf := zu_f c8 hf
      refine lv_iload hx hb zd_Mod_number_42 (lv_at hl 4 rfl) ?_
      refine lv_sipush (v := 999) hx hb zd_Mod_number_44 (by decide) ?_
      refine lv_icmp_le (tgt := 55) hx hb zd_Mod_number_47 (by decide) (fun c9 => ?_) (fun c9 => ?_)
      · have hf := zu_t c9 hf
        refine lv_bipush (v := 10) hx hb zd_Mod_number_55 (by decide) ?_
        refine lv_iload hx hb zd_Mod_number_57 (lv_at hl 4 rfl) ?_
        refine lv_imul hx hb zd_Mod_number_59 ?_
        refine lv_aload_n hx hb zd_Mod_number_60 rfl (lv_at hl 0 rfl) ?_
        refine zg_Mod_tape B hP rfl zq_874 zd_Mod_number_61 ?_
        refine lv_iload hx hb zd_Mod_number_64 (lv_at hl 5 rfl) ?_
        obtain ⟨hg10, hf⟩ := zu_gd_e hf
        refine zr_iald rfl B hP rfl (by decide) rfl hg10 zd_Mod_number_66 ?_
        refine lv_iadd hx hb zd_Mod_number_67 ?_
        refine lv_bipush (v := 48) hx hb zd_Mod_number_68 (by decide) ?_
        refine lv_isub hx hb zd_Mod_number_70 ?_
        exact zl_Mod_number_L71 B hret hlk hk29 x1 x2 x3 x5 ((((10 : Int32) * x4) + (X 104 (x5.toNatClampNeg))) - (48 : Int32)) X _ _ _ hP hS (lv_sub hl [0, 1, 2, 3, 5] rfl) hf
      · have hf := zu_f c9 hf
        refine lv_iload hx hb zd_Mod_number_50 (lv_at hl 4 rfl) ?_
        refine lv_goto (tgt := 71) hx hb zd_Mod_number_52 (by decide) ?_
        exact zl_Mod_number_L71 B hret hlk hk29 x1 x2 x3 x5 x4 X _ _ _ hP hS (lv_sub hl [0, 1, 2, 3, 5] rfl) hf
theorem zl_Mod_number_L29 {p : Program} {l : Launch} {e : Env} {s : State} {m : MethodId} {args : Array Value} {below : List Frame} {meth : Method} {c : Code} {D : va_G} {cA : Nat → ClassId} {ad : Nat → Nat} {A : Nat → Prop} (B : zu_B p s m args c zb_Mod_number 6 "StonePostModel" D cA ad A) (hret : meth.sig.returnType = none) (hlk : meth.locks = false) {Y : LX} {res : IX} : ∀ (n : Nat) (x1 : Int32) (x2 : Int32) (x3 : Int32) (x4 : Int32) (x5 : Int32) (X : IX) (H : Heap) (locs : List Loc) (ls : Array Slot), va_P D zu_cl (zu_pic cA ad X Y) H → va_S A s.heap H locs → lv_has ls 6 [(0, .ref (ad 95)), (1, .int x1), (2, .int x2), (3, .int x3), (4, .int x4), (5, .int x5)] → fn_Mod_number_L29 n x1 x2 x3 x4 x5 X = some res → W p l e zR_Mod_number s m args below meth c H locs 0 0 (MQ below (zu_Qv D cA ad A res Y) args s 0 0 A) (F0 m 29 ls []) := by
  intro n
  induction n with
  | zero =>
    intro x1 x2 x3 x4 x5 X H locs ls hP hS hl hf
    exact (Option.some_ne_none _ hf.symm).elim
  | succ n ih =>
    intro x1 x2 x3 x4 x5 X H locs ls hP hS hl hf
    exact zl_Mod_number_B29 B hret hlk ih x1 x2 x3 x4 x5 X H locs ls hP hS hl  hf
set_option maxHeartbeats 4000000 in
theorem zl_Mod_number {p : Program} {l : Launch} {e : Env} {s : State} {m : MethodId} {args : Array Value} {below : List Frame} {meth : Method} {c : Code} {D : va_G} {cA : Nat → ClassId} {ad : Nat → Nat} {A : Nat → Prop} (B : zu_B p s m args c zb_Mod_number 6 "StonePostModel" D cA ad A) (hret : meth.sig.returnType = none) (hlk : meth.locks = false) {Y : LX} {res : IX} {a1 : Int32} {a2 : Int32} {X : IX} (H : Heap) (locs : List Loc) (ls : Array Slot) (hP : va_P D zu_cl (zu_pic cA ad X Y) H) (hS : va_S A s.heap H locs) (hl : lv_has ls 6 [(0, .ref (ad 95)), (1, .int a1), (2, .int a2)]) (hf : fn_Mod_number a1 a2 X = some res) : W p l e zR_Mod_number s m args below meth c H locs 0 0 (MQ below (zu_Qv D cA ad A res Y) args s 0 0 A) (F0 m 0 ls []) := by
  obtain ⟨hx, hb, hml, hown, hts, hST⟩ := id B
  unfold fn_Mod_number at hf
  refine lv_aload_n hx hb zd_Mod_number_0 rfl (lv_at hl 0 rfl) ?_
  refine zg_Mod_isWrong B hP rfl zq_879 zd_Mod_number_1 ?_
  refine lv_if_eq (tgt := 8) hx hb zd_Mod_number_4 (by decide) (fun c1 => ?_) (fun c1 => ?_)
  · have hf := zu_t c1 hf
    refine lv_aload_n hx hb zd_Mod_number_8 rfl (lv_at hl 0 rfl) ?_
    refine lv_aload_n hx hb zd_Mod_number_9 rfl (lv_at hl 0 rfl) ?_
    refine zg_Mod_begins B hP rfl zq_876 zd_Mod_number_10 ?_
    obtain ⟨v2, hq3, hf⟩ := zu_b1_e hf
    refine zw_Mod_byteAt (rest := []) B hP hS hq3 zq_1247 (Nat.le_of_ble_eq_true rfl) (Nat.le_of_ble_eq_true rfl) hl.1 rfl (Nat.le_of_ble_eq_true rfl) zd_Mod_number_13 (by decide) (fun H locs hP hS => ?_)
    clear hq3
    obtain ⟨v4, hq5, hf⟩ := zu_b1_e hf
    refine zw_Mod_isDigit (rest := []) B hP hS hq5 zq_1256 (Nat.le_of_ble_eq_true rfl) (Nat.le_of_ble_eq_true rfl) hl.1 rfl (Nat.le_of_ble_eq_true rfl) zd_Mod_number_16 (by decide) (fun H locs hP hS => ?_)
    clear hq5
    refine lv_istore_n (lv' := [(3, .int v4), (0, .ref (ad 95)), (1, .int a1), (2, .int a2)]) hx hb zd_Mod_number_19 rfl hl (by decide) rfl (fun ls hl => ?_)
    refine lv_iconst (v := 0) hx hb zd_Mod_number_20 (by decide) ?_
    refine lv_istore (lv' := [(4, .int (0 : Int32)), (3, .int v4), (0, .ref (ad 95)), (1, .int a1), (2, .int a2)]) hx hb zd_Mod_number_21 hl (by decide) rfl (fun ls hl => ?_)
    refine lv_aload_n hx hb zd_Mod_number_23 rfl (lv_at hl 2 rfl) ?_
    refine zg_Mod_begins B hP rfl zq_876 zd_Mod_number_24 ?_
    refine zr_nxi hf (fun v6 hf => ?_)
    refine lv_istore (lv' := [(5, .int v6), (4, .int (0 : Int32)), (3, .int v4), (0, .ref (ad 95)), (1, .int a1), (2, .int a2)]) hx hb zd_Mod_number_27 hl (by decide) rfl (fun ls hl => ?_)
    exact zl_Mod_number_L29 B hret hlk 400 a1 a2 v4 (0 : Int32) v6 X _ _ _ hP hS (lv_sub hl [3, 4, 5, 2, 1, 0] rfl) hf
  · have hf := zu_f c1 hf
    obtain rfl := Option.some.inj hf
    exact zr_vret hx hb hret hlk hP hS zd_Mod_number_7
theorem zC_Mod_number (l : Launch) {D : va_G} {cA : Nat → ClassId} {ad : Nat → Nat} {A : Nat → Prop} {a1 : Int32} {a2 : Int32} {X : IX} {Y : LX} {res : IX} (hf : fn_Mod_number a1 a2 X = some res) : Met l zm_Mod_number (zu_ws zm_Mod_number zb_Mod_number 6 none) zR_Mod_number (va_Pc [.ref (ad 95), .int a1, .int a2] (zu_Pre D cA ad A X Y)) (zu_Qv D cA ad A res Y) 0 0 A := by
  refine Met.ofW (cc := zb_Mod_number) (maxL := 6) (ret := none) (by decide +kernel) rfl ?_
  intro p e s m args below meth c s₁ B0 hml hv
  obtain ⟨rfl, hP, hST⟩ := hv
  have B : zu_B p s m _ c zb_Mod_number 6 "StonePostModel" D cA ad A := ⟨B0.exec, B0.bytes, hml, findClass_of_methodNamed B0.named, (fun w hw => atoms_spec (ws := zu_ws zm_Mod_number zb_Mod_number 6 none) B0.pre w (List.mem_cons_of_mem _ hw)), hST⟩
  have hl := lv_entry ([.ref (ad 95), .int a1, .int a2]) (n := 6) (Nat.le_of_ble_eq_true rfl)
  rw [lg_entry_eq]
  generalize (lg_sl ([.ref (ad 95), .int a1, .int a2]) ++ List.replicate (6 - (lg_sl ([.ref (ad 95), .int a1, .int a2])).length) Slot.unset).toArray = ls at hl ⊢
  exact zl_Mod_number B B0.returns B0.notSynchronized s.heap [] ls hP va_S.rf hl  hf
theorem zw_Mod_number {p : Program} {l : Launch} {e : Env} {R : Room} {s : State} {m : MethodId} {args : Array Value} {below : List Frame} {meth : Method} {c : Code} {H : Heap} {locs : List Loc} {cells slots : Nat} {Q : State → Prop} {cc : ByteArray} {pc nL : Nat} {ls : Array Slot} {rest st0 : List Value} {D : va_G} {cA : Nat → ClassId} {ad : Nat → Nat} {A : Nat → Prop} {X : IX} {Y : LX} {own : String} {index : Nat} {a1 : Int32} {a2 : Int32} {X1 : IX} (B : zu_B p s m args c cc nL own D cA ad A) (hP : va_P D zu_cl (zu_pic cA ad X Y) H) (hS : va_S A s.heap H locs) (hq : fn_Mod_number a1 a2 X = some X1) (m1 : Cond.methodLink own index zm_Mod_number ∈ zu_TB) (hR1 : 4 + 1 ≤ R.frames) (hR2 : 8 + (6 + 11) + 88 ≤ R.locals) (hsz : ls.size = nL) (hst : st0 = .int a2 :: .int a1 :: .ref (ad 95) :: rest) (hw : (rest.map fun v => v.category).sum ≤ 8) (hdg : decode cc pc = .ok (.invokevirtual index, 3)) (h00 : cells ≤ R.cells ∧ slots ≤ R.slots) (kk : ∀ (H1 : Heap) (locs1 : List Loc), va_P D zu_cl (zu_pic cA ad X1 Y) H1 → va_S A s.heap H1 locs1 → W p l e R s m args below meth c H1 locs1 cells slots Q (F0 m (pc + 3) ls (rest))) : W p l e R s m args below meth c H locs cells slots Q (F0 m pc ls st0) := by
  subst hst
  exact zr_cVv (As := [.int a1, .int a2]) (rest := rest) (n := 2) (C := "StonePostModel") (T := zt_Mod) (N := 23) B hP hS (zC_Mod_number l  hq) (K := 7) rfl (by decide) (by decide) rfl rfl m1 zq_1299 zqP_57 zq_8 zq_1300 (by decide +kernel) ⟨hR1, hR2⟩ rfl rfl rfl hsz rfl hw hdg h00 kk
abbrev zR_Mod_stuffHere : Room := { frames := 3, cells := 0, slots := 0, locals := 68 }
theorem zd_Mod_stuffHere_0 : decode zb_Mod_stuffHere 0 = .ok (.aload_n 0, 1) := by decide +kernel
theorem zd_Mod_stuffHere_1 : decode zb_Mod_stuffHere 1 = .ok (.invokevirtual 274, 3) := by decide +kernel
theorem zd_Mod_stuffHere_4 : decode zb_Mod_stuffHere 4 = .ok (.lstore_n 1, 1) := by decide +kernel
theorem zd_Mod_stuffHere_5 : decode zb_Mod_stuffHere 5 = .ok (.lload_n 1, 1) := by decide +kernel
theorem zd_Mod_stuffHere_6 : decode zb_Mod_stuffHere 6 = .ok (.ldc2_w 278, 3) := by decide +kernel
theorem zd_Mod_stuffHere_9 : decode zb_Mod_stuffHere 9 = .ok (.lcmp, 1) := by decide +kernel
theorem zd_Mod_stuffHere_10 : decode zb_Mod_stuffHere 10 = .ok (.ifCond .ne 7, 3) := by decide +kernel
theorem zd_Mod_stuffHere_13 : decode zb_Mod_stuffHere 13 = .ok (.iconst 0, 1) := by decide +kernel
theorem zd_Mod_stuffHere_14 : decode zb_Mod_stuffHere 14 = .ok (.goto 40, 3) := by decide +kernel
theorem zd_Mod_stuffHere_17 : decode zb_Mod_stuffHere 17 = .ok (.lload_n 1, 1) := by decide +kernel
theorem zd_Mod_stuffHere_18 : decode zb_Mod_stuffHere 18 = .ok (.ldc2_w 280, 3) := by decide +kernel
theorem zd_Mod_stuffHere_21 : decode zb_Mod_stuffHere 21 = .ok (.lcmp, 1) := by decide +kernel
theorem zd_Mod_stuffHere_22 : decode zb_Mod_stuffHere 22 = .ok (.ifCond .ne 7, 3) := by decide +kernel
theorem zd_Mod_stuffHere_25 : decode zb_Mod_stuffHere 25 = .ok (.iconst 1, 1) := by decide +kernel
theorem zd_Mod_stuffHere_26 : decode zb_Mod_stuffHere 26 = .ok (.goto 28, 3) := by decide +kernel
theorem zd_Mod_stuffHere_29 : decode zb_Mod_stuffHere 29 = .ok (.lload_n 1, 1) := by decide +kernel
theorem zd_Mod_stuffHere_30 : decode zb_Mod_stuffHere 30 = .ok (.ldc2_w 282, 3) := by decide +kernel
theorem zd_Mod_stuffHere_33 : decode zb_Mod_stuffHere 33 = .ok (.lcmp, 1) := by decide +kernel
theorem zd_Mod_stuffHere_34 : decode zb_Mod_stuffHere 34 = .ok (.ifCond .ne 7, 3) := by decide +kernel
theorem zd_Mod_stuffHere_37 : decode zb_Mod_stuffHere 37 = .ok (.iconst 2, 1) := by decide +kernel
theorem zd_Mod_stuffHere_38 : decode zb_Mod_stuffHere 38 = .ok (.goto 16, 3) := by decide +kernel
theorem zd_Mod_stuffHere_41 : decode zb_Mod_stuffHere 41 = .ok (.lload_n 1, 1) := by decide +kernel
theorem zd_Mod_stuffHere_42 : decode zb_Mod_stuffHere 42 = .ok (.ldc2_w 284, 3) := by decide +kernel
theorem zd_Mod_stuffHere_45 : decode zb_Mod_stuffHere 45 = .ok (.lcmp, 1) := by decide +kernel
theorem zd_Mod_stuffHere_46 : decode zb_Mod_stuffHere 46 = .ok (.ifCond .ne 7, 3) := by decide +kernel
theorem zd_Mod_stuffHere_49 : decode zb_Mod_stuffHere 49 = .ok (.iconst 3, 1) := by decide +kernel
theorem zd_Mod_stuffHere_50 : decode zb_Mod_stuffHere 50 = .ok (.goto 4, 3) := by decide +kernel
theorem zd_Mod_stuffHere_53 : decode zb_Mod_stuffHere 53 = .ok (.iconst (-1), 1) := by decide +kernel
theorem zd_Mod_stuffHere_54 : decode zb_Mod_stuffHere 54 = .ok (.ireturn, 1) := by decide +kernel
set_option maxHeartbeats 4000000 in
theorem zl_Mod_stuffHere_L54 {p : Program} {l : Launch} {e : Env} {s : State} {m : MethodId} {args : Array Value} {below : List Frame} {meth : Method} {c : Code} {D : va_G} {cA : Nat → ClassId} {ad : Nat → Nat} {A : Nat → Prop} (B : zu_B p s m args c zb_Mod_stuffHere 3 "StonePostModel" D cA ad A) (hret : meth.sig.returnType = (some .int)) (hlk : meth.locks = false) {X : IX} {Y : LX} {res : Int32} (y0 : Int32) (H : Heap) (locs : List Loc) (ls : Array Slot) (hP : va_P D zu_cl (zu_pic cA ad X Y) H) (hS : va_S A s.heap H locs) (hl : lv_has ls 3 []) (hf : fn_Mod_stuffHere_L54 X y0 = some res) : W p l e zR_Mod_stuffHere s m args below meth c H locs 0 0 (MQ below (zu_Qi D cA ad A res X Y) args s 0 0 A) (F0 m 54 ls [.int y0]) := by
  obtain ⟨hx, hb, hml, hown, hts, hST⟩ := id B
  unfold fn_Mod_stuffHere_L54 at hf
  obtain rfl := Option.some.inj hf
  exact zr_iret hx hb hret hlk hP hS zd_Mod_stuffHere_54
set_option maxHeartbeats 4000000 in
theorem zl_Mod_stuffHere {p : Program} {l : Launch} {e : Env} {s : State} {m : MethodId} {args : Array Value} {below : List Frame} {meth : Method} {c : Code} {D : va_G} {cA : Nat → ClassId} {ad : Nat → Nat} {A : Nat → Prop} (B : zu_B p s m args c zb_Mod_stuffHere 3 "StonePostModel" D cA ad A) (hret : meth.sig.returnType = (some .int)) (hlk : meth.locks = false) {X : IX} {Y : LX} {res : Int32} (H : Heap) (locs : List Loc) (ls : Array Slot) (hP : va_P D zu_cl (zu_pic cA ad X Y) H) (hS : va_S A s.heap H locs) (hl : lv_has ls 3 [(0, .ref (ad 95))]) (hf : fn_Mod_stuffHere X = some res) : W p l e zR_Mod_stuffHere s m args below meth c H locs 0 0 (MQ below (zu_Qi D cA ad A res X Y) args s 0 0 A) (F0 m 0 ls []) := by
  obtain ⟨hx, hb, hml, hown, hts, hST⟩ := id B
  unfold fn_Mod_stuffHere at hf
  refine lv_aload_n hx hb zd_Mod_stuffHere_0 rfl (lv_at hl 0 rfl) ?_
  obtain ⟨v1, hq2, hf⟩ := zu_b1_e hf
  refine zw_Mod_word (rest := []) B hP hS hq2 zq_1268 (Nat.le_of_ble_eq_true rfl) (Nat.le_of_ble_eq_true rfl) hl.1 rfl (Nat.le_of_ble_eq_true rfl) zd_Mod_stuffHere_1 (by decide) (fun H locs hP hS => ?_)
  clear hq2
  refine lv_lstore_n (lv' := [(1, .long v1), (0, .ref (ad 95))]) hx hb zd_Mod_stuffHere_4 rfl hl (by decide) rfl (fun ls hl => ?_)
  refine lv_lload_n hx hb zd_Mod_stuffHere_5 rfl (lv_at hl 0 rfl) ?_
  refine lv_ldc2 (v := 7931507) hx hb hown (hts _ zq_1274) zd_Mod_stuffHere_6 ?_
  refine W.lcmp hx hb zd_Mod_stuffHere_9 ?_
  refine lv_if_ne (tgt := 17) hx hb zd_Mod_stuffHere_10 (by decide) (fun c3 => ?_) (fun c3 => ?_)
  · have hf := zu_f c3 hf
    refine lv_lload_n hx hb zd_Mod_stuffHere_17 rfl (lv_at hl 0 rfl) ?_
    refine lv_ldc2 (v := 2702827) hx hb hown (hts _ zq_1275) zd_Mod_stuffHere_18 ?_
    refine W.lcmp hx hb zd_Mod_stuffHere_21 ?_
    refine lv_if_ne (tgt := 29) hx hb zd_Mod_stuffHere_22 (by decide) (fun c4 => ?_) (fun c4 => ?_)
    · have hf := zu_f c4 hf
      refine lv_lload_n hx hb zd_Mod_stuffHere_29 rfl (lv_at hl 0 rfl) ?_
      refine lv_ldc2 (v := 8556773) hx hb hown (hts _ zq_1276) zd_Mod_stuffHere_30 ?_
      refine W.lcmp hx hb zd_Mod_stuffHere_33 ?_
      refine lv_if_ne (tgt := 41) hx hb zd_Mod_stuffHere_34 (by decide) (fun c5 => ?_) (fun c5 => ?_)
      · have hf := zu_f c5 hf
        refine lv_lload_n hx hb zd_Mod_stuffHere_41 rfl (lv_at hl 0 rfl) ?_
        refine lv_ldc2 (v := 605220) hx hb hown (hts _ zq_1277) zd_Mod_stuffHere_42 ?_
        refine W.lcmp hx hb zd_Mod_stuffHere_45 ?_
        refine lv_if_ne (tgt := 53) hx hb zd_Mod_stuffHere_46 (by decide) (fun c6 => ?_) (fun c6 => ?_)
        · have hf := zu_f c6 hf
          refine lv_iconst (v := -1) hx hb zd_Mod_stuffHere_53 (by decide) ?_
          exact zl_Mod_stuffHere_L54 B hret hlk (-1 : Int32) _ _ _ hP hS (lv_sub hl [] rfl) hf
        · have hf := zu_t c6 hf
          refine lv_iconst (v := 3) hx hb zd_Mod_stuffHere_49 (by decide) ?_
          refine lv_goto (tgt := 54) hx hb zd_Mod_stuffHere_50 (by decide) ?_
          exact zl_Mod_stuffHere_L54 B hret hlk (3 : Int32) _ _ _ hP hS (lv_sub hl [] rfl) hf
      · have hf := zu_t c5 hf
        refine lv_iconst (v := 2) hx hb zd_Mod_stuffHere_37 (by decide) ?_
        refine lv_goto (tgt := 54) hx hb zd_Mod_stuffHere_38 (by decide) ?_
        exact zl_Mod_stuffHere_L54 B hret hlk (2 : Int32) _ _ _ hP hS (lv_sub hl [] rfl) hf
    · have hf := zu_t c4 hf
      refine lv_iconst (v := 1) hx hb zd_Mod_stuffHere_25 (by decide) ?_
      refine lv_goto (tgt := 54) hx hb zd_Mod_stuffHere_26 (by decide) ?_
      exact zl_Mod_stuffHere_L54 B hret hlk (1 : Int32) _ _ _ hP hS (lv_sub hl [] rfl) hf
  · have hf := zu_t c3 hf
    refine lv_iconst (v := 0) hx hb zd_Mod_stuffHere_13 (by decide) ?_
    refine lv_goto (tgt := 54) hx hb zd_Mod_stuffHere_14 (by decide) ?_
    exact zl_Mod_stuffHere_L54 B hret hlk (0 : Int32) _ _ _ hP hS (lv_sub hl [] rfl) hf
theorem zC_Mod_stuffHere (l : Launch) {D : va_G} {cA : Nat → ClassId} {ad : Nat → Nat} {A : Nat → Prop} {X : IX} {Y : LX} {res : Int32} (hf : fn_Mod_stuffHere X = some res) : Met l zm_Mod_stuffHere (zu_ws zm_Mod_stuffHere zb_Mod_stuffHere 3 (some .int)) zR_Mod_stuffHere (va_Pc [.ref (ad 95)] (zu_Pre D cA ad A X Y)) (zu_Qi D cA ad A res X Y) 0 0 A := by
  refine Met.ofW (cc := zb_Mod_stuffHere) (maxL := 3) (ret := (some .int)) (by decide +kernel) rfl ?_
  intro p e s m args below meth c s₁ B0 hml hv
  obtain ⟨rfl, hP, hST⟩ := hv
  have B : zu_B p s m _ c zb_Mod_stuffHere 3 "StonePostModel" D cA ad A := ⟨B0.exec, B0.bytes, hml, findClass_of_methodNamed B0.named, (fun w hw => atoms_spec (ws := zu_ws zm_Mod_stuffHere zb_Mod_stuffHere 3 (some .int)) B0.pre w (List.mem_cons_of_mem _ hw)), hST⟩
  have hl := lv_entry ([.ref (ad 95)]) (n := 3) (Nat.le_of_ble_eq_true rfl)
  rw [lg_entry_eq]
  generalize (lg_sl ([.ref (ad 95)]) ++ List.replicate (3 - (lg_sl ([.ref (ad 95)])).length) Slot.unset).toArray = ls at hl ⊢
  exact zl_Mod_stuffHere B B0.returns B0.notSynchronized s.heap [] ls hP va_S.rf hl  hf
theorem zw_Mod_stuffHere {p : Program} {l : Launch} {e : Env} {R : Room} {s : State} {m : MethodId} {args : Array Value} {below : List Frame} {meth : Method} {c : Code} {H : Heap} {locs : List Loc} {cells slots : Nat} {Q : State → Prop} {cc : ByteArray} {pc nL : Nat} {ls : Array Slot} {rest st0 : List Value} {D : va_G} {cA : Nat → ClassId} {ad : Nat → Nat} {A : Nat → Prop} {X : IX} {Y : LX} {own : String} {index : Nat} {v1 : Int32} (B : zu_B p s m args c cc nL own D cA ad A) (hP : va_P D zu_cl (zu_pic cA ad X Y) H) (hS : va_S A s.heap H locs) (hq : fn_Mod_stuffHere X = some v1) (m1 : Cond.methodLink own index zm_Mod_stuffHere ∈ zu_TB) (hR1 : 3 + 1 ≤ R.frames) (hR2 : 8 + (3 + 11) + 68 ≤ R.locals) (hsz : ls.size = nL) (hst : st0 = .ref (ad 95) :: rest) (hw : (rest.map fun v => v.category).sum ≤ 8) (hdg : decode cc pc = .ok (.invokevirtual index, 3)) (h00 : cells ≤ R.cells ∧ slots ≤ R.slots) (kk : ∀ (H1 : Heap) (locs1 : List Loc), va_P D zu_cl (zu_pic cA ad X Y) H1 → va_S A s.heap H1 locs1 → W p l e R s m args below meth c H1 locs1 cells slots Q (F0 m (pc + 3) ls (.int v1 :: rest))) : W p l e R s m args below meth c H locs cells slots Q (F0 m pc ls st0) := by
  subst hst
  exact zr_cVi (As := []) (rest := rest) (n := 0) (C := "StonePostModel") (T := zt_Mod) (N := 23) B hP hS (zC_Mod_stuffHere l  hq) (K := 7) rfl (by decide) (by decide) rfl rfl m1 zq_1266 zqP_52 zq_8 zq_1267 (by decide +kernel) ⟨hR1, hR2⟩ rfl rfl rfl hsz rfl hw hdg h00 kk
abbrev zR_Mod_kindHere : Room := { frames := 3, cells := 0, slots := 0, locals := 68 }
theorem zd_Mod_kindHere_0 : decode zb_Mod_kindHere 0 = .ok (.aload_n 0, 1) := by decide +kernel
theorem zd_Mod_kindHere_1 : decode zb_Mod_kindHere 1 = .ok (.invokevirtual 274, 3) := by decide +kernel
theorem zd_Mod_kindHere_4 : decode zb_Mod_kindHere 4 = .ok (.lstore_n 1, 1) := by decide +kernel
theorem zd_Mod_kindHere_5 : decode zb_Mod_kindHere 5 = .ok (.lload_n 1, 1) := by decide +kernel
theorem zd_Mod_kindHere_6 : decode zb_Mod_kindHere 6 = .ok (.ldc2_w 286, 3) := by decide +kernel
theorem zd_Mod_kindHere_9 : decode zb_Mod_kindHere 9 = .ok (.lcmp, 1) := by decide +kernel
theorem zd_Mod_kindHere_10 : decode zb_Mod_kindHere 10 = .ok (.ifCond .ne 7, 3) := by decide +kernel
theorem zd_Mod_kindHere_13 : decode zb_Mod_kindHere 13 = .ok (.iconst 0, 1) := by decide +kernel
theorem zd_Mod_kindHere_14 : decode zb_Mod_kindHere 14 = .ok (.goto 77, 3) := by decide +kernel
theorem zd_Mod_kindHere_17 : decode zb_Mod_kindHere 17 = .ok (.lload_n 1, 1) := by decide +kernel
theorem zd_Mod_kindHere_18 : decode zb_Mod_kindHere 18 = .ok (.ldc2_w 288, 3) := by decide +kernel
theorem zd_Mod_kindHere_21 : decode zb_Mod_kindHere 21 = .ok (.lcmp, 1) := by decide +kernel
theorem zd_Mod_kindHere_22 : decode zb_Mod_kindHere 22 = .ok (.ifCond .ne 7, 3) := by decide +kernel
theorem zd_Mod_kindHere_25 : decode zb_Mod_kindHere 25 = .ok (.iconst 1, 1) := by decide +kernel
theorem zd_Mod_kindHere_26 : decode zb_Mod_kindHere 26 = .ok (.goto 65, 3) := by decide +kernel
theorem zd_Mod_kindHere_29 : decode zb_Mod_kindHere 29 = .ok (.lload_n 1, 1) := by decide +kernel
theorem zd_Mod_kindHere_30 : decode zb_Mod_kindHere 30 = .ok (.ldc2_w 290, 3) := by decide +kernel
theorem zd_Mod_kindHere_33 : decode zb_Mod_kindHere 33 = .ok (.lcmp, 1) := by decide +kernel
theorem zd_Mod_kindHere_34 : decode zb_Mod_kindHere 34 = .ok (.ifCond .ne 7, 3) := by decide +kernel
theorem zd_Mod_kindHere_37 : decode zb_Mod_kindHere 37 = .ok (.iconst 2, 1) := by decide +kernel
theorem zd_Mod_kindHere_38 : decode zb_Mod_kindHere 38 = .ok (.goto 53, 3) := by decide +kernel
theorem zd_Mod_kindHere_41 : decode zb_Mod_kindHere 41 = .ok (.lload_n 1, 1) := by decide +kernel
theorem zd_Mod_kindHere_42 : decode zb_Mod_kindHere 42 = .ok (.ldc2_w 292, 3) := by decide +kernel
theorem zd_Mod_kindHere_45 : decode zb_Mod_kindHere 45 = .ok (.lcmp, 1) := by decide +kernel
theorem zd_Mod_kindHere_46 : decode zb_Mod_kindHere 46 = .ok (.ifCond .ne 7, 3) := by decide +kernel
theorem zd_Mod_kindHere_49 : decode zb_Mod_kindHere 49 = .ok (.iconst 3, 1) := by decide +kernel
theorem zd_Mod_kindHere_50 : decode zb_Mod_kindHere 50 = .ok (.goto 41, 3) := by decide +kernel
theorem zd_Mod_kindHere_53 : decode zb_Mod_kindHere 53 = .ok (.lload_n 1, 1) := by decide +kernel
theorem zd_Mod_kindHere_54 : decode zb_Mod_kindHere 54 = .ok (.ldc2_w 294, 3) := by decide +kernel
theorem zd_Mod_kindHere_57 : decode zb_Mod_kindHere 57 = .ok (.lcmp, 1) := by decide +kernel
theorem zd_Mod_kindHere_58 : decode zb_Mod_kindHere 58 = .ok (.ifCond .ne 7, 3) := by decide +kernel
theorem zd_Mod_kindHere_61 : decode zb_Mod_kindHere 61 = .ok (.iconst 4, 1) := by decide +kernel
theorem zd_Mod_kindHere_62 : decode zb_Mod_kindHere 62 = .ok (.goto 29, 3) := by decide +kernel
theorem zd_Mod_kindHere_65 : decode zb_Mod_kindHere 65 = .ok (.lload_n 1, 1) := by decide +kernel
theorem zd_Mod_kindHere_66 : decode zb_Mod_kindHere 66 = .ok (.ldc2_w 296, 3) := by decide +kernel
theorem zd_Mod_kindHere_69 : decode zb_Mod_kindHere 69 = .ok (.lcmp, 1) := by decide +kernel
theorem zd_Mod_kindHere_70 : decode zb_Mod_kindHere 70 = .ok (.ifCond .ne 7, 3) := by decide +kernel
theorem zd_Mod_kindHere_73 : decode zb_Mod_kindHere 73 = .ok (.iconst 5, 1) := by decide +kernel
theorem zd_Mod_kindHere_74 : decode zb_Mod_kindHere 74 = .ok (.goto 17, 3) := by decide +kernel
theorem zd_Mod_kindHere_77 : decode zb_Mod_kindHere 77 = .ok (.lload_n 1, 1) := by decide +kernel
theorem zd_Mod_kindHere_78 : decode zb_Mod_kindHere 78 = .ok (.ldc2_w 298, 3) := by decide +kernel
theorem zd_Mod_kindHere_81 : decode zb_Mod_kindHere 81 = .ok (.lcmp, 1) := by decide +kernel
theorem zd_Mod_kindHere_82 : decode zb_Mod_kindHere 82 = .ok (.ifCond .ne 8, 3) := by decide +kernel
theorem zd_Mod_kindHere_85 : decode zb_Mod_kindHere 85 = .ok (.bipush 6, 2) := by decide +kernel
theorem zd_Mod_kindHere_87 : decode zb_Mod_kindHere 87 = .ok (.goto 4, 3) := by decide +kernel
theorem zd_Mod_kindHere_90 : decode zb_Mod_kindHere 90 = .ok (.iconst (-1), 1) := by decide +kernel
theorem zd_Mod_kindHere_91 : decode zb_Mod_kindHere 91 = .ok (.ireturn, 1) := by decide +kernel
set_option maxHeartbeats 4000000 in
theorem zl_Mod_kindHere_L91 {p : Program} {l : Launch} {e : Env} {s : State} {m : MethodId} {args : Array Value} {below : List Frame} {meth : Method} {c : Code} {D : va_G} {cA : Nat → ClassId} {ad : Nat → Nat} {A : Nat → Prop} (B : zu_B p s m args c zb_Mod_kindHere 3 "StonePostModel" D cA ad A) (hret : meth.sig.returnType = (some .int)) (hlk : meth.locks = false) {X : IX} {Y : LX} {res : Int32} (y0 : Int32) (H : Heap) (locs : List Loc) (ls : Array Slot) (hP : va_P D zu_cl (zu_pic cA ad X Y) H) (hS : va_S A s.heap H locs) (hl : lv_has ls 3 []) (hf : fn_Mod_kindHere_L91 X y0 = some res) : W p l e zR_Mod_kindHere s m args below meth c H locs 0 0 (MQ below (zu_Qi D cA ad A res X Y) args s 0 0 A) (F0 m 91 ls [.int y0]) := by
  obtain ⟨hx, hb, hml, hown, hts, hST⟩ := id B
  unfold fn_Mod_kindHere_L91 at hf
  obtain rfl := Option.some.inj hf
  exact zr_iret hx hb hret hlk hP hS zd_Mod_kindHere_91
set_option maxHeartbeats 4000000 in
theorem zl_Mod_kindHere {p : Program} {l : Launch} {e : Env} {s : State} {m : MethodId} {args : Array Value} {below : List Frame} {meth : Method} {c : Code} {D : va_G} {cA : Nat → ClassId} {ad : Nat → Nat} {A : Nat → Prop} (B : zu_B p s m args c zb_Mod_kindHere 3 "StonePostModel" D cA ad A) (hret : meth.sig.returnType = (some .int)) (hlk : meth.locks = false) {X : IX} {Y : LX} {res : Int32} (H : Heap) (locs : List Loc) (ls : Array Slot) (hP : va_P D zu_cl (zu_pic cA ad X Y) H) (hS : va_S A s.heap H locs) (hl : lv_has ls 3 [(0, .ref (ad 95))]) (hf : fn_Mod_kindHere X = some res) : W p l e zR_Mod_kindHere s m args below meth c H locs 0 0 (MQ below (zu_Qi D cA ad A res X Y) args s 0 0 A) (F0 m 0 ls []) := by
  obtain ⟨hx, hb, hml, hown, hts, hST⟩ := id B
  unfold fn_Mod_kindHere at hf
  refine lv_aload_n hx hb zd_Mod_kindHere_0 rfl (lv_at hl 0 rfl) ?_
  obtain ⟨v1, hq2, hf⟩ := zu_b1_e hf
  refine zw_Mod_word (rest := []) B hP hS hq2 zq_1268 (Nat.le_of_ble_eq_true rfl) (Nat.le_of_ble_eq_true rfl) hl.1 rfl (Nat.le_of_ble_eq_true rfl) zd_Mod_kindHere_1 (by decide) (fun H locs hP hS => ?_)
  clear hq2
  refine lv_lstore_n (lv' := [(1, .long v1), (0, .ref (ad 95))]) hx hb zd_Mod_kindHere_4 rfl hl (by decide) rfl (fun ls hl => ?_)
  refine lv_lload_n hx hb zd_Mod_kindHere_5 rfl (lv_at hl 0 rfl) ?_
  refine lv_ldc2 (v := 21762661554) hx hb hown (hts _ zq_1282) zd_Mod_kindHere_6 ?_
  refine W.lcmp hx hb zd_Mod_kindHere_9 ?_
  refine lv_if_ne (tgt := 17) hx hb zd_Mod_kindHere_10 (by decide) (fun c3 => ?_) (fun c3 => ?_)
  · have hf := zu_f c3 hf
    refine lv_lload_n hx hb zd_Mod_kindHere_17 rfl (lv_at hl 0 rfl) ?_
    refine lv_ldc2 (v := 659111367) hx hb hown (hts _ zq_1283) zd_Mod_kindHere_18 ?_
    refine W.lcmp hx hb zd_Mod_kindHere_21 ?_
    refine lv_if_ne (tgt := 29) hx hb zd_Mod_kindHere_22 (by decide) (fun c4 => ?_) (fun c4 => ?_)
    · have hf := zu_f c4 hf
      refine lv_lload_n hx hb zd_Mod_kindHere_29 rfl (lv_at hl 0 rfl) ?_
      refine lv_ldc2 (v := 20186489) hx hb hown (hts _ zq_1284) zd_Mod_kindHere_30 ?_
      refine W.lcmp hx hb zd_Mod_kindHere_33 ?_
      refine lv_if_ne (tgt := 41) hx hb zd_Mod_kindHere_34 (by decide) (fun c5 => ?_) (fun c5 => ?_)
      · have hf := zu_f c5 hf
        refine lv_lload_n hx hb zd_Mod_kindHere_41 rfl (lv_at hl 0 rfl) ?_
        refine lv_ldc2 (v := 7636436) hx hb hown (hts _ zq_1285) zd_Mod_kindHere_42 ?_
        refine W.lcmp hx hb zd_Mod_kindHere_45 ?_
        refine lv_if_ne (tgt := 53) hx hb zd_Mod_kindHere_46 (by decide) (fun c6 => ?_) (fun c6 => ?_)
        · have hf := zu_f c6 hf
          refine lv_lload_n hx hb zd_Mod_kindHere_53 rfl (lv_at hl 0 rfl) ?_
          refine lv_ldc2 (v := 2500036) hx hb hown (hts _ zq_1286) zd_Mod_kindHere_54 ?_
          refine W.lcmp hx hb zd_Mod_kindHere_57 ?_
          refine lv_if_ne (tgt := 65) hx hb zd_Mod_kindHere_58 (by decide) (fun c7 => ?_) (fun c7 => ?_)
          · have hf := zu_f c7 hf
            refine lv_lload_n hx hb zd_Mod_kindHere_65 rfl (lv_at hl 0 rfl) ?_
            refine lv_ldc2 (v := 15748) hx hb hown (hts _ zq_1287) zd_Mod_kindHere_66 ?_
            refine W.lcmp hx hb zd_Mod_kindHere_69 ?_
            refine lv_if_ne (tgt := 77) hx hb zd_Mod_kindHere_70 (by decide) (fun c8 => ?_) (fun c8 => ?_)
            · have hf := zu_f c8 hf
              refine lv_lload_n hx hb zd_Mod_kindHere_77 rfl (lv_at hl 0 rfl) ?_
              refine lv_ldc2 (v := 12324) hx hb hown (hts _ zq_1288) zd_Mod_kindHere_78 ?_
              refine W.lcmp hx hb zd_Mod_kindHere_81 ?_
              refine lv_if_ne (tgt := 90) hx hb zd_Mod_kindHere_82 (by decide) (fun c9 => ?_) (fun c9 => ?_)
              · have hf := zu_f c9 hf
                refine lv_iconst (v := -1) hx hb zd_Mod_kindHere_90 (by decide) ?_
                exact zl_Mod_kindHere_L91 B hret hlk (-1 : Int32) _ _ _ hP hS (lv_sub hl [] rfl) hf
              · have hf := zu_t c9 hf
                refine lv_bipush (v := 6) hx hb zd_Mod_kindHere_85 (by decide) ?_
                refine lv_goto (tgt := 91) hx hb zd_Mod_kindHere_87 (by decide) ?_
                exact zl_Mod_kindHere_L91 B hret hlk (6 : Int32) _ _ _ hP hS (lv_sub hl [] rfl) hf
            · have hf := zu_t c8 hf
              refine lv_iconst (v := 5) hx hb zd_Mod_kindHere_73 (by decide) ?_
              refine lv_goto (tgt := 91) hx hb zd_Mod_kindHere_74 (by decide) ?_
              exact zl_Mod_kindHere_L91 B hret hlk (5 : Int32) _ _ _ hP hS (lv_sub hl [] rfl) hf
          · have hf := zu_t c7 hf
            refine lv_iconst (v := 4) hx hb zd_Mod_kindHere_61 (by decide) ?_
            refine lv_goto (tgt := 91) hx hb zd_Mod_kindHere_62 (by decide) ?_
            exact zl_Mod_kindHere_L91 B hret hlk (4 : Int32) _ _ _ hP hS (lv_sub hl [] rfl) hf
        · have hf := zu_t c6 hf
          refine lv_iconst (v := 3) hx hb zd_Mod_kindHere_49 (by decide) ?_
          refine lv_goto (tgt := 91) hx hb zd_Mod_kindHere_50 (by decide) ?_
          exact zl_Mod_kindHere_L91 B hret hlk (3 : Int32) _ _ _ hP hS (lv_sub hl [] rfl) hf
      · have hf := zu_t c5 hf
        refine lv_iconst (v := 2) hx hb zd_Mod_kindHere_37 (by decide) ?_
        refine lv_goto (tgt := 91) hx hb zd_Mod_kindHere_38 (by decide) ?_
        exact zl_Mod_kindHere_L91 B hret hlk (2 : Int32) _ _ _ hP hS (lv_sub hl [] rfl) hf
    · have hf := zu_t c4 hf
      refine lv_iconst (v := 1) hx hb zd_Mod_kindHere_25 (by decide) ?_
      refine lv_goto (tgt := 91) hx hb zd_Mod_kindHere_26 (by decide) ?_
      exact zl_Mod_kindHere_L91 B hret hlk (1 : Int32) _ _ _ hP hS (lv_sub hl [] rfl) hf
  · have hf := zu_t c3 hf
    refine lv_iconst (v := 0) hx hb zd_Mod_kindHere_13 (by decide) ?_
    refine lv_goto (tgt := 91) hx hb zd_Mod_kindHere_14 (by decide) ?_
    exact zl_Mod_kindHere_L91 B hret hlk (0 : Int32) _ _ _ hP hS (lv_sub hl [] rfl) hf
theorem zC_Mod_kindHere (l : Launch) {D : va_G} {cA : Nat → ClassId} {ad : Nat → Nat} {A : Nat → Prop} {X : IX} {Y : LX} {res : Int32} (hf : fn_Mod_kindHere X = some res) : Met l zm_Mod_kindHere (zu_ws zm_Mod_kindHere zb_Mod_kindHere 3 (some .int)) zR_Mod_kindHere (va_Pc [.ref (ad 95)] (zu_Pre D cA ad A X Y)) (zu_Qi D cA ad A res X Y) 0 0 A := by
  refine Met.ofW (cc := zb_Mod_kindHere) (maxL := 3) (ret := (some .int)) (by decide +kernel) rfl ?_
  intro p e s m args below meth c s₁ B0 hml hv
  obtain ⟨rfl, hP, hST⟩ := hv
  have B : zu_B p s m _ c zb_Mod_kindHere 3 "StonePostModel" D cA ad A := ⟨B0.exec, B0.bytes, hml, findClass_of_methodNamed B0.named, (fun w hw => atoms_spec (ws := zu_ws zm_Mod_kindHere zb_Mod_kindHere 3 (some .int)) B0.pre w (List.mem_cons_of_mem _ hw)), hST⟩
  have hl := lv_entry ([.ref (ad 95)]) (n := 3) (Nat.le_of_ble_eq_true rfl)
  rw [lg_entry_eq]
  generalize (lg_sl ([.ref (ad 95)]) ++ List.replicate (3 - (lg_sl ([.ref (ad 95)])).length) Slot.unset).toArray = ls at hl ⊢
  exact zl_Mod_kindHere B B0.returns B0.notSynchronized s.heap [] ls hP va_S.rf hl  hf
theorem zw_Mod_kindHere {p : Program} {l : Launch} {e : Env} {R : Room} {s : State} {m : MethodId} {args : Array Value} {below : List Frame} {meth : Method} {c : Code} {H : Heap} {locs : List Loc} {cells slots : Nat} {Q : State → Prop} {cc : ByteArray} {pc nL : Nat} {ls : Array Slot} {rest st0 : List Value} {D : va_G} {cA : Nat → ClassId} {ad : Nat → Nat} {A : Nat → Prop} {X : IX} {Y : LX} {own : String} {index : Nat} {v1 : Int32} (B : zu_B p s m args c cc nL own D cA ad A) (hP : va_P D zu_cl (zu_pic cA ad X Y) H) (hS : va_S A s.heap H locs) (hq : fn_Mod_kindHere X = some v1) (m1 : Cond.methodLink own index zm_Mod_kindHere ∈ zu_TB) (hR1 : 3 + 1 ≤ R.frames) (hR2 : 8 + (3 + 11) + 68 ≤ R.locals) (hsz : ls.size = nL) (hst : st0 = .ref (ad 95) :: rest) (hw : (rest.map fun v => v.category).sum ≤ 8) (hdg : decode cc pc = .ok (.invokevirtual index, 3)) (h00 : cells ≤ R.cells ∧ slots ≤ R.slots) (kk : ∀ (H1 : Heap) (locs1 : List Loc), va_P D zu_cl (zu_pic cA ad X Y) H1 → va_S A s.heap H1 locs1 → W p l e R s m args below meth c H1 locs1 cells slots Q (F0 m (pc + 3) ls (.int v1 :: rest))) : W p l e R s m args below meth c H locs cells slots Q (F0 m pc ls st0) := by
  subst hst
  exact zr_cVi (As := []) (rest := rest) (n := 0) (C := "StonePostModel") (T := zt_Mod) (N := 23) B hP hS (zC_Mod_kindHere l  hq) (K := 7) rfl (by decide) (by decide) rfl rfl m1 zq_1280 zqP_54 zq_8 zq_1281 (by decide +kernel) ⟨hR1, hR2⟩ rfl rfl rfl hsz rfl hw hdg h00 kk
abbrev zR_Mod_perhaps : Room := { frames := 5, cells := 0, slots := 0, locals := 113 }
theorem zd_Mod_perhaps_0 : decode zb_Mod_perhaps 0 = .ok (.iload_n 1, 1) := by decide +kernel
theorem zd_Mod_perhaps_1 : decode zb_Mod_perhaps 1 = .ok (.ifCond .ne 6, 3) := by decide +kernel
theorem zd_Mod_perhaps_4 : decode zb_Mod_perhaps 4 = .ok (.iload 4, 2) := by decide +kernel
theorem zd_Mod_perhaps_6 : decode zb_Mod_perhaps 6 = .ok (.ireturn, 1) := by decide +kernel
theorem zd_Mod_perhaps_7 : decode zb_Mod_perhaps 7 = .ok (.aload_n 0, 1) := by decide +kernel
theorem zd_Mod_perhaps_8 : decode zb_Mod_perhaps 8 = .ok (.iconst 1, 1) := by decide +kernel
theorem zd_Mod_perhaps_9 : decode zb_Mod_perhaps 9 = .ok (.invokevirtual 270, 3) := by decide +kernel
theorem zd_Mod_perhaps_12 : decode zb_Mod_perhaps 12 = .ok (.aload_n 0, 1) := by decide +kernel
theorem zd_Mod_perhaps_13 : decode zb_Mod_perhaps 13 = .ok (.iload_n 2, 1) := by decide +kernel
theorem zd_Mod_perhaps_14 : decode zb_Mod_perhaps 14 = .ok (.iload_n 3, 1) := by decide +kernel
theorem zd_Mod_perhaps_15 : decode zb_Mod_perhaps 15 = .ok (.invokevirtual 300, 3) := by decide +kernel
theorem zd_Mod_perhaps_18 : decode zb_Mod_perhaps 18 = .ok (.aload_n 0, 1) := by decide +kernel
theorem zd_Mod_perhaps_19 : decode zb_Mod_perhaps 19 = .ok (.getfield 267, 3) := by decide +kernel
theorem zd_Mod_perhaps_22 : decode zb_Mod_perhaps 22 = .ok (.ireturn, 1) := by decide +kernel
set_option maxHeartbeats 4000000 in
theorem zl_Mod_perhaps {p : Program} {l : Launch} {e : Env} {s : State} {m : MethodId} {args : Array Value} {below : List Frame} {meth : Method} {c : Code} {D : va_G} {cA : Nat → ClassId} {ad : Nat → Nat} {A : Nat → Prop} (B : zu_B p s m args c zb_Mod_perhaps 5 "StonePostModel" D cA ad A) (hret : meth.sig.returnType = (some .int)) (hlk : meth.locks = false) {Y : LX} {res : Int32 × IX} {a1 : Int32} {a2 : Int32} {a3 : Int32} {a4 : Int32} {X : IX} (H : Heap) (locs : List Loc) (ls : Array Slot) (hP : va_P D zu_cl (zu_pic cA ad X Y) H) (hS : va_S A s.heap H locs) (hl : lv_has ls 5 [(0, .ref (ad 95)), (1, .int a1), (2, .int a2), (3, .int a3), (4, .int a4)]) (hf : fn_Mod_perhaps a1 a2 a3 a4 X = some res) : W p l e zR_Mod_perhaps s m args below meth c H locs 0 0 (MQ below (zu_Qi D cA ad A res.1 res.2 Y) args s 0 0 A) (F0 m 0 ls []) := by
  obtain ⟨hx, hb, hml, hown, hts, hST⟩ := id B
  unfold fn_Mod_perhaps at hf
  refine lv_iload_n hx hb zd_Mod_perhaps_0 rfl (lv_at hl 1 rfl) ?_
  refine lv_if_ne (tgt := 7) hx hb zd_Mod_perhaps_1 (by decide) (fun c1 => ?_) (fun c1 => ?_)
  · have hf := zu_f c1 hf
    refine lv_aload_n hx hb zd_Mod_perhaps_7 rfl (lv_at hl 0 rfl) ?_
    refine lv_iconst (v := 1) hx hb zd_Mod_perhaps_8 (by decide) ?_
    obtain ⟨X2, hq3, hf⟩ := zu_b1_e hf
    refine zw_Mod_needs (rest := []) B hP hS hq3 zq_1293 (Nat.le_of_ble_eq_true rfl) (Nat.le_of_ble_eq_true rfl) hl.1 rfl (Nat.le_of_ble_eq_true rfl) zd_Mod_perhaps_9 (by decide) (fun H locs hP hS => ?_)
    clear hq3
    refine lv_aload_n hx hb zd_Mod_perhaps_12 rfl (lv_at hl 0 rfl) ?_
    refine lv_iload_n hx hb zd_Mod_perhaps_13 rfl (lv_at hl 2 rfl) ?_
    refine lv_iload_n hx hb zd_Mod_perhaps_14 rfl (lv_at hl 3 rfl) ?_
    obtain ⟨X4, hq5, hf⟩ := zu_b1_e hf
    refine zw_Mod_number (rest := []) B hP hS hq5 zq_1297 (Nat.le_of_ble_eq_true rfl) (Nat.le_of_ble_eq_true rfl) hl.1 rfl (Nat.le_of_ble_eq_true rfl) zd_Mod_perhaps_15 (by decide) (fun H locs hP hS => ?_)
    clear hq5
    refine lv_aload_n hx hb zd_Mod_perhaps_18 rfl (lv_at hl 0 rfl) ?_
    refine zg_Mod_value B hP rfl zq_878 zd_Mod_perhaps_19 ?_
    obtain rfl := Option.some.inj hf
    exact zr_iret hx hb hret hlk hP hS zd_Mod_perhaps_22
  · have hf := zu_t c1 hf
    refine lv_iload hx hb zd_Mod_perhaps_4 (lv_at hl 4 rfl) ?_
    obtain rfl := Option.some.inj hf
    exact zr_iret hx hb hret hlk hP hS zd_Mod_perhaps_6
theorem zC_Mod_perhaps (l : Launch) {D : va_G} {cA : Nat → ClassId} {ad : Nat → Nat} {A : Nat → Prop} {a1 : Int32} {a2 : Int32} {a3 : Int32} {a4 : Int32} {X : IX} {Y : LX} {res : Int32 × IX} (hf : fn_Mod_perhaps a1 a2 a3 a4 X = some res) : Met l zm_Mod_perhaps (zu_ws zm_Mod_perhaps zb_Mod_perhaps 5 (some .int)) zR_Mod_perhaps (va_Pc [.ref (ad 95), .int a1, .int a2, .int a3, .int a4] (zu_Pre D cA ad A X Y)) (zu_Qi D cA ad A res.1 res.2 Y) 0 0 A := by
  refine Met.ofW (cc := zb_Mod_perhaps) (maxL := 5) (ret := (some .int)) (by decide +kernel) rfl ?_
  intro p e s m args below meth c s₁ B0 hml hv
  obtain ⟨rfl, hP, hST⟩ := hv
  have B : zu_B p s m _ c zb_Mod_perhaps 5 "StonePostModel" D cA ad A := ⟨B0.exec, B0.bytes, hml, findClass_of_methodNamed B0.named, (fun w hw => atoms_spec (ws := zu_ws zm_Mod_perhaps zb_Mod_perhaps 5 (some .int)) B0.pre w (List.mem_cons_of_mem _ hw)), hST⟩
  have hl := lv_entry ([.ref (ad 95), .int a1, .int a2, .int a3, .int a4]) (n := 5) (Nat.le_of_ble_eq_true rfl)
  rw [lg_entry_eq]
  generalize (lg_sl ([.ref (ad 95), .int a1, .int a2, .int a3, .int a4]) ++ List.replicate (5 - (lg_sl ([.ref (ad 95), .int a1, .int a2, .int a3, .int a4])).length) Slot.unset).toArray = ls at hl ⊢
  exact zl_Mod_perhaps B B0.returns B0.notSynchronized s.heap [] ls hP va_S.rf hl  hf
theorem zw_Mod_perhaps {p : Program} {l : Launch} {e : Env} {R : Room} {s : State} {m : MethodId} {args : Array Value} {below : List Frame} {meth : Method} {c : Code} {H : Heap} {locs : List Loc} {cells slots : Nat} {Q : State → Prop} {cc : ByteArray} {pc nL : Nat} {ls : Array Slot} {rest st0 : List Value} {D : va_G} {cA : Nat → ClassId} {ad : Nat → Nat} {A : Nat → Prop} {X : IX} {Y : LX} {own : String} {index : Nat} {a1 : Int32} {a2 : Int32} {a3 : Int32} {a4 : Int32} {v1 : Int32} {X1 : IX} (B : zu_B p s m args c cc nL own D cA ad A) (hP : va_P D zu_cl (zu_pic cA ad X Y) H) (hS : va_S A s.heap H locs) (hq : fn_Mod_perhaps a1 a2 a3 a4 X = some (v1, X1)) (m1 : Cond.methodLink own index zm_Mod_perhaps ∈ zu_TB) (hR1 : 5 + 1 ≤ R.frames) (hR2 : 8 + (5 + 11) + 113 ≤ R.locals) (hsz : ls.size = nL) (hst : st0 = .int a4 :: .int a3 :: .int a2 :: .int a1 :: .ref (ad 95) :: rest) (hw : (rest.map fun v => v.category).sum ≤ 8) (hdg : decode cc pc = .ok (.invokevirtual index, 3)) (h00 : cells ≤ R.cells ∧ slots ≤ R.slots) (kk : ∀ (H1 : Heap) (locs1 : List Loc), va_P D zu_cl (zu_pic cA ad X1 Y) H1 → va_S A s.heap H1 locs1 → W p l e R s m args below meth c H1 locs1 cells slots Q (F0 m (pc + 3) ls (.int v1 :: rest))) : W p l e R s m args below meth c H locs cells slots Q (F0 m pc ls st0) := by
  subst hst
  exact zr_cVi (As := [.int a1, .int a2, .int a3, .int a4]) (rest := rest) (n := 4) (C := "StonePostModel") (T := zt_Mod) (N := 23) B hP hS (zC_Mod_perhaps l  hq) (K := 7) rfl (by decide) (by decide) rfl rfl m1 zq_1304 zqP_58 zq_8 zq_1305 (by decide +kernel) ⟨hR1, hR2⟩ rfl rfl rfl hsz rfl hw hdg h00 kk
abbrev zR_Mod_stuffItem : Room := { frames := 6, cells := 0, slots := 0, locals := 137 }
theorem zd_Mod_stuffItem_0 : decode zb_Mod_stuffItem 0 = .ok (.aload_n 0, 1) := by decide +kernel
theorem zd_Mod_stuffItem_1 : decode zb_Mod_stuffItem 1 = .ok (.iconst 1, 1) := by decide +kernel
theorem zd_Mod_stuffItem_2 : decode zb_Mod_stuffItem 2 = .ok (.invokevirtual 270, 3) := by decide +kernel
theorem zd_Mod_stuffItem_5 : decode zb_Mod_stuffItem 5 = .ok (.aload_n 0, 1) := by decide +kernel
theorem zd_Mod_stuffItem_6 : decode zb_Mod_stuffItem 6 = .ok (.iconst 0, 1) := by decide +kernel
theorem zd_Mod_stuffItem_7 : decode zb_Mod_stuffItem 7 = .ok (.bipush 23, 2) := by decide +kernel
theorem zd_Mod_stuffItem_9 : decode zb_Mod_stuffItem 9 = .ok (.invokevirtual 300, 3) := by decide +kernel
theorem zd_Mod_stuffItem_12 : decode zb_Mod_stuffItem 12 = .ok (.aload_n 0, 1) := by decide +kernel
theorem zd_Mod_stuffItem_13 : decode zb_Mod_stuffItem 13 = .ok (.getfield 267, 3) := by decide +kernel
theorem zd_Mod_stuffItem_16 : decode zb_Mod_stuffItem 16 = .ok (.istore_n 2, 1) := by decide +kernel
theorem zd_Mod_stuffItem_17 : decode zb_Mod_stuffItem 17 = .ok (.aload_n 0, 1) := by decide +kernel
theorem zd_Mod_stuffItem_18 : decode zb_Mod_stuffItem 18 = .ok (.aload_n 0, 1) := by decide +kernel
theorem zd_Mod_stuffItem_19 : decode zb_Mod_stuffItem 19 = .ok (.invokevirtual 274, 3) := by decide +kernel
theorem zd_Mod_stuffItem_22 : decode zb_Mod_stuffItem 22 = .ok (.ldc2_w 302, 3) := by decide +kernel
theorem zd_Mod_stuffItem_25 : decode zb_Mod_stuffItem 25 = .ok (.lcmp, 1) := by decide +kernel
theorem zd_Mod_stuffItem_26 : decode zb_Mod_stuffItem 26 = .ok (.ifCond .ne 7, 3) := by decide +kernel
theorem zd_Mod_stuffItem_29 : decode zb_Mod_stuffItem 29 = .ok (.iconst 1, 1) := by decide +kernel
theorem zd_Mod_stuffItem_30 : decode zb_Mod_stuffItem 30 = .ok (.goto 4, 3) := by decide +kernel
theorem zd_Mod_stuffItem_33 : decode zb_Mod_stuffItem 33 = .ok (.iconst 0, 1) := by decide +kernel
theorem zd_Mod_stuffItem_34 : decode zb_Mod_stuffItem 34 = .ok (.iload_n 2, 1) := by decide +kernel
theorem zd_Mod_stuffItem_35 : decode zb_Mod_stuffItem 35 = .ok (.bipush 23, 2) := by decide +kernel
theorem zd_Mod_stuffItem_37 : decode zb_Mod_stuffItem 37 = .ok (.iload_n 2, 1) := by decide +kernel
theorem zd_Mod_stuffItem_38 : decode zb_Mod_stuffItem 38 = .ok (.invokevirtual 304, 3) := by decide +kernel
theorem zd_Mod_stuffItem_41 : decode zb_Mod_stuffItem 41 = .ok (.istore_n 3, 1) := by decide +kernel
theorem zd_Mod_stuffItem_42 : decode zb_Mod_stuffItem 42 = .ok (.iload_n 2, 1) := by decide +kernel
theorem zd_Mod_stuffItem_43 : decode zb_Mod_stuffItem 43 = .ok (.istore 4, 2) := by decide +kernel
theorem zd_Mod_stuffItem_45 : decode zb_Mod_stuffItem 45 = .ok (.iload 4, 2) := by decide +kernel
theorem zd_Mod_stuffItem_47 : decode zb_Mod_stuffItem 47 = .ok (.iload_n 3, 1) := by decide +kernel
theorem zd_Mod_stuffItem_48 : decode zb_Mod_stuffItem 48 = .ok (.if_icmp .gt 27, 3) := by decide +kernel
theorem zd_Mod_stuffItem_51 : decode zb_Mod_stuffItem 51 = .ok (.aload_n 0, 1) := by decide +kernel
theorem zd_Mod_stuffItem_52 : decode zb_Mod_stuffItem 52 = .ok (.getfield 256, 3) := by decide +kernel
theorem zd_Mod_stuffItem_55 : decode zb_Mod_stuffItem 55 = .ok (.ifCond .ne 20, 3) := by decide +kernel
theorem zd_Mod_stuffItem_58 : decode zb_Mod_stuffItem 58 = .ok (.aload_n 0, 1) := by decide +kernel
theorem zd_Mod_stuffItem_59 : decode zb_Mod_stuffItem 59 = .ok (.getfield 7, 3) := by decide +kernel
theorem zd_Mod_stuffItem_62 : decode zb_Mod_stuffItem 62 = .ok (.bipush 6, 2) := by decide +kernel
theorem zd_Mod_stuffItem_64 : decode zb_Mod_stuffItem 64 = .ok (.iload 4, 2) := by decide +kernel
theorem zd_Mod_stuffItem_66 : decode zb_Mod_stuffItem 66 = .ok (.iadd, 1) := by decide +kernel
theorem zd_Mod_stuffItem_67 : decode zb_Mod_stuffItem 67 = .ok (.iload_n 1, 1) := by decide +kernel
theorem zd_Mod_stuffItem_68 : decode zb_Mod_stuffItem 68 = .ok (.iastore, 1) := by decide +kernel
theorem zd_Mod_stuffItem_69 : decode zb_Mod_stuffItem 69 = .ok (.iinc 4 1, 3) := by decide +kernel
theorem zd_Mod_stuffItem_72 : decode zb_Mod_stuffItem 72 = .ok (.goto (-27), 3) := by decide +kernel
theorem zd_Mod_stuffItem_75 : decode zb_Mod_stuffItem 75 = .ok (.return_, 1) := by decide +kernel
set_option maxHeartbeats 4000000 in
theorem zl_Mod_stuffItem_L75 {p : Program} {l : Launch} {e : Env} {s : State} {m : MethodId} {args : Array Value} {below : List Frame} {meth : Method} {c : Code} {D : va_G} {cA : Nat → ClassId} {ad : Nat → Nat} {A : Nat → Prop} (B : zu_B p s m args c zb_Mod_stuffItem 5 "StonePostModel" D cA ad A) (hret : meth.sig.returnType = none) (hlk : meth.locks = false) {Y : LX} {res : IX} (X : IX) (H : Heap) (locs : List Loc) (ls : Array Slot) (hP : va_P D zu_cl (zu_pic cA ad X Y) H) (hS : va_S A s.heap H locs) (hl : lv_has ls 5 []) (hf : fn_Mod_stuffItem_L75 X = some res) : W p l e zR_Mod_stuffItem s m args below meth c H locs 0 0 (MQ below (zu_Qv D cA ad A res Y) args s 0 0 A) (F0 m 75 ls []) := by
  obtain ⟨hx, hb, hml, hown, hts, hST⟩ := id B
  unfold fn_Mod_stuffItem_L75 at hf
  obtain rfl := Option.some.inj hf
  exact zr_vret hx hb hret hlk hP hS zd_Mod_stuffItem_75
set_option maxHeartbeats 4000000 in
theorem zl_Mod_stuffItem_B45 {p : Program} {l : Launch} {e : Env} {s : State} {m : MethodId} {args : Array Value} {below : List Frame} {meth : Method} {c : Code} {D : va_G} {cA : Nat → ClassId} {ad : Nat → Nat} {A : Nat → Prop} (B : zu_B p s m args c zb_Mod_stuffItem 5 "StonePostModel" D cA ad A) (hret : meth.sig.returnType = none) (hlk : meth.locks = false) {Y : LX} {res : IX} {k45 : Int32 → Int32 → Int32 → IX → Option IX} (hk45 : ∀ (x1 : Int32) (x3 : Int32) (x4 : Int32) (X : IX) (H : Heap) (locs : List Loc) (ls : Array Slot), va_P D zu_cl (zu_pic cA ad X Y) H → va_S A s.heap H locs → lv_has ls 5 [(0, .ref (ad 95)), (1, .int x1), (3, .int x3), (4, .int x4)] → k45 x1 x3 x4 X = some res → W p l e zR_Mod_stuffItem s m args below meth c H locs 0 0 (MQ below (zu_Qv D cA ad A res Y) args s 0 0 A) (F0 m 45 ls [])) (x1 : Int32) (x3 : Int32) (x4 : Int32) (X : IX) (H : Heap) (locs : List Loc) (ls : Array Slot) (hP : va_P D zu_cl (zu_pic cA ad X Y) H) (hS : va_S A s.heap H locs) (hl : lv_has ls 5 [(0, .ref (ad 95)), (1, .int x1), (3, .int x3), (4, .int x4)]) (hf : fn_Mod_stuffItem_B45 k45 x1 x3 x4 X = some res) : W p l e zR_Mod_stuffItem s m args below meth c H locs 0 0 (MQ below (zu_Qv D cA ad A res Y) args s 0 0 A) (F0 m 45 ls []) := by
  obtain ⟨hx, hb, hml, hown, hts, hST⟩ := id B
  unfold fn_Mod_stuffItem_B45 at hf
  refine lv_iload hx hb zd_Mod_stuffItem_45 (lv_at hl 3 rfl) ?_
  refine lv_iload_n hx hb zd_Mod_stuffItem_47 rfl (lv_at hl 2 rfl) ?_
  refine lv_icmp_gt (tgt := 75) hx hb zd_Mod_stuffItem_48 (by decide) (fun c12 => ?_) (fun c12 => ?_)
  · have hf := zu_t c12 hf
    exact zl_Mod_stuffItem_L75 B hret hlk X _ _ _ hP hS (lv_sub hl [] rfl) hf
  · have hf := zu_f c12 hf
    refine lv_aload_n hx hb zd_Mod_stuffItem_51 rfl (lv_at hl 0 rfl) ?_
    refine zg_Mod_isWrong B hP rfl zq_879 zd_Mod_stuffItem_52 ?_
    refine lv_if_ne (tgt := 75) hx hb zd_Mod_stuffItem_55 (by decide) (fun c13 => ?_) (fun c13 => ?_)
    · have hf := zu_f c13 hf
      exact zl_Mod_stuffItem_L75 B hret hlk X _ _ _ hP hS (lv_sub hl [] rfl) hf
    · have hf := zu_t c13 hf
      refine lv_aload_n hx hb zd_Mod_stuffItem_58 rfl (lv_at hl 0 rfl) ?_
      refine zg_Mod_s B hP rfl zq_861 zd_Mod_stuffItem_59 ?_
      refine lv_bipush (v := 6) hx hb zd_Mod_stuffItem_62 (by decide) ?_
      refine lv_iload hx hb zd_Mod_stuffItem_64 (lv_at hl 3 rfl) ?_
      refine lv_iadd hx hb zd_Mod_stuffItem_66 ?_
      refine lv_iload_n hx hb zd_Mod_stuffItem_67 rfl (lv_at hl 1 rfl) ?_
      obtain ⟨hg14, hf⟩ := zu_gd_e hf
      refine zr_iast rfl B hP hS hf rfl (by decide) rfl hg14 zd_Mod_stuffItem_68 (fun X15 H locs hf hP hS => ?_)
      obtain ⟨v16, ev16, hf⟩ := zu_nx_e hf
      refine lv_iinc (v := v16) (lv' := [(4, .int v16), (0, .ref (ad 95)), (1, .int x1), (3, .int x3)]) hx hb zd_Mod_stuffItem_69 hl (k := 3) rfl (by rw [ev16]; rfl) (by decide) rfl (fun ls hl => ?_)
      clear ev16
      refine lv_goto (tgt := 45) hx hb zd_Mod_stuffItem_72 (by decide) ?_
      exact hk45 x1 x3 v16 X15 _ _ _ hP hS (lv_sub hl [1, 2, 3, 0] rfl) hf
theorem zl_Mod_stuffItem_L45 {p : Program} {l : Launch} {e : Env} {s : State} {m : MethodId} {args : Array Value} {below : List Frame} {meth : Method} {c : Code} {D : va_G} {cA : Nat → ClassId} {ad : Nat → Nat} {A : Nat → Prop} (B : zu_B p s m args c zb_Mod_stuffItem 5 "StonePostModel" D cA ad A) (hret : meth.sig.returnType = none) (hlk : meth.locks = false) {Y : LX} {res : IX} : ∀ (n : Nat) (x1 : Int32) (x3 : Int32) (x4 : Int32) (X : IX) (H : Heap) (locs : List Loc) (ls : Array Slot), va_P D zu_cl (zu_pic cA ad X Y) H → va_S A s.heap H locs → lv_has ls 5 [(0, .ref (ad 95)), (1, .int x1), (3, .int x3), (4, .int x4)] → fn_Mod_stuffItem_L45 n x1 x3 x4 X = some res → W p l e zR_Mod_stuffItem s m args below meth c H locs 0 0 (MQ below (zu_Qv D cA ad A res Y) args s 0 0 A) (F0 m 45 ls []) := by
  intro n
  induction n with
  | zero =>
    intro x1 x3 x4 X H locs ls hP hS hl hf
    exact (Option.some_ne_none _ hf.symm).elim
  | succ n ih =>
    intro x1 x3 x4 X H locs ls hP hS hl hf
    exact zl_Mod_stuffItem_B45 B hret hlk ih x1 x3 x4 X H locs ls hP hS hl  hf
set_option maxHeartbeats 4000000 in
theorem zl_Mod_stuffItem_L34 {p : Program} {l : Launch} {e : Env} {s : State} {m : MethodId} {args : Array Value} {below : List Frame} {meth : Method} {c : Code} {D : va_G} {cA : Nat → ClassId} {ad : Nat → Nat} {A : Nat → Prop} (B : zu_B p s m args c zb_Mod_stuffItem 5 "StonePostModel" D cA ad A) (hret : meth.sig.returnType = none) (hlk : meth.locks = false) {Y : LX} {res : IX} (x1 : Int32) (x2 : Int32) (y0 : Int32) (X : IX) (H : Heap) (locs : List Loc) (ls : Array Slot) (hP : va_P D zu_cl (zu_pic cA ad X Y) H) (hS : va_S A s.heap H locs) (hl : lv_has ls 5 [(0, .ref (ad 95)), (1, .int x1), (2, .int x2)]) (hf : fn_Mod_stuffItem_L34 x1 x2 y0 X = some res) : W p l e zR_Mod_stuffItem s m args below meth c H locs 0 0 (MQ below (zu_Qv D cA ad A res Y) args s 0 0 A) (F0 m 34 ls [.int y0, .ref (ad 95)]) := by
  obtain ⟨hx, hb, hml, hown, hts, hST⟩ := id B
  unfold fn_Mod_stuffItem_L34 at hf
  refine lv_iload_n hx hb zd_Mod_stuffItem_34 rfl (lv_at hl 2 rfl) ?_
  refine lv_bipush (v := 23) hx hb zd_Mod_stuffItem_35 (by decide) ?_
  refine lv_iload_n hx hb zd_Mod_stuffItem_37 rfl (lv_at hl 2 rfl) ?_
  obtain ⟨v9, X10, hq11, hf⟩ := zu_b2_e hf
  refine zw_Mod_perhaps (rest := []) B hP hS hq11 zq_1302 (Nat.le_of_ble_eq_true rfl) (Nat.le_of_ble_eq_true rfl) hl.1 rfl (Nat.le_of_ble_eq_true rfl) zd_Mod_stuffItem_38 (by decide) (fun H locs hP hS => ?_)
  clear hq11
  refine lv_istore_n (lv' := [(3, .int v9), (0, .ref (ad 95)), (1, .int x1), (2, .int x2)]) hx hb zd_Mod_stuffItem_41 rfl hl (by decide) rfl (fun ls hl => ?_)
  refine lv_iload_n hx hb zd_Mod_stuffItem_42 rfl (lv_at hl 3 rfl) ?_
  refine lv_istore (lv' := [(4, .int x2), (3, .int v9), (0, .ref (ad 95)), (1, .int x1), (2, .int x2)]) hx hb zd_Mod_stuffItem_43 hl (by decide) rfl (fun ls hl => ?_)
  exact zl_Mod_stuffItem_L45 B hret hlk 400 x1 v9 x2 X10 _ _ _ hP hS (lv_sub hl [2, 3, 1, 0] rfl) hf
set_option maxHeartbeats 4000000 in
theorem zl_Mod_stuffItem {p : Program} {l : Launch} {e : Env} {s : State} {m : MethodId} {args : Array Value} {below : List Frame} {meth : Method} {c : Code} {D : va_G} {cA : Nat → ClassId} {ad : Nat → Nat} {A : Nat → Prop} (B : zu_B p s m args c zb_Mod_stuffItem 5 "StonePostModel" D cA ad A) (hret : meth.sig.returnType = none) (hlk : meth.locks = false) {Y : LX} {res : IX} {a1 : Int32} {X : IX} (H : Heap) (locs : List Loc) (ls : Array Slot) (hP : va_P D zu_cl (zu_pic cA ad X Y) H) (hS : va_S A s.heap H locs) (hl : lv_has ls 5 [(0, .ref (ad 95)), (1, .int a1)]) (hf : fn_Mod_stuffItem a1 X = some res) : W p l e zR_Mod_stuffItem s m args below meth c H locs 0 0 (MQ below (zu_Qv D cA ad A res Y) args s 0 0 A) (F0 m 0 ls []) := by
  obtain ⟨hx, hb, hml, hown, hts, hST⟩ := id B
  unfold fn_Mod_stuffItem at hf
  refine lv_aload_n hx hb zd_Mod_stuffItem_0 rfl (lv_at hl 0 rfl) ?_
  refine lv_iconst (v := 1) hx hb zd_Mod_stuffItem_1 (by decide) ?_
  obtain ⟨X1, hq2, hf⟩ := zu_b1_e hf
  refine zw_Mod_needs (rest := []) B hP hS hq2 zq_1293 (Nat.le_of_ble_eq_true rfl) (Nat.le_of_ble_eq_true rfl) hl.1 rfl (Nat.le_of_ble_eq_true rfl) zd_Mod_stuffItem_2 (by decide) (fun H locs hP hS => ?_)
  clear hq2
  refine lv_aload_n hx hb zd_Mod_stuffItem_5 rfl (lv_at hl 0 rfl) ?_
  refine lv_iconst (v := 0) hx hb zd_Mod_stuffItem_6 (by decide) ?_
  refine lv_bipush (v := 23) hx hb zd_Mod_stuffItem_7 (by decide) ?_
  obtain ⟨X3, hq4, hf⟩ := zu_b1_e hf
  refine zw_Mod_number (rest := []) B hP hS hq4 zq_1297 (Nat.le_of_ble_eq_true rfl) (Nat.le_of_ble_eq_true rfl) hl.1 rfl (Nat.le_of_ble_eq_true rfl) zd_Mod_stuffItem_9 (by decide) (fun H locs hP hS => ?_)
  clear hq4
  refine lv_aload_n hx hb zd_Mod_stuffItem_12 rfl (lv_at hl 0 rfl) ?_
  refine zg_Mod_value B hP rfl zq_878 zd_Mod_stuffItem_13 ?_
  refine zr_nxi hf (fun v5 hf => ?_)
  refine lv_istore_n (lv' := [(2, .int v5), (0, .ref (ad 95)), (1, .int a1)]) hx hb zd_Mod_stuffItem_16 rfl hl (by decide) rfl (fun ls hl => ?_)
  refine lv_aload_n hx hb zd_Mod_stuffItem_17 rfl (lv_at hl 1 rfl) ?_
  refine lv_aload_n hx hb zd_Mod_stuffItem_18 rfl (lv_at hl 1 rfl) ?_
  obtain ⟨v6, hq7, hf⟩ := zu_b1_e hf
  refine zw_Mod_word (rest := [.ref (ad 95)]) B hP hS hq7 zq_1268 (Nat.le_of_ble_eq_true rfl) (Nat.le_of_ble_eq_true rfl) hl.1 rfl (Nat.le_of_ble_eq_true rfl) zd_Mod_stuffItem_19 (by decide) (fun H locs hP hS => ?_)
  clear hq7
  refine lv_ldc2 (v := 655) hx hb hown (hts _ zq_1301) zd_Mod_stuffItem_22 ?_
  refine W.lcmp hx hb zd_Mod_stuffItem_25 ?_
  refine lv_if_ne (tgt := 33) hx hb zd_Mod_stuffItem_26 (by decide) (fun c8 => ?_) (fun c8 => ?_)
  · have hf := zu_f c8 hf
    refine lv_iconst (v := 0) hx hb zd_Mod_stuffItem_33 (by decide) ?_
    exact zl_Mod_stuffItem_L34 B hret hlk a1 v5 (0 : Int32) X3 _ _ _ hP hS (lv_sub hl [1, 2, 0] rfl) hf
  · have hf := zu_t c8 hf
    refine lv_iconst (v := 1) hx hb zd_Mod_stuffItem_29 (by decide) ?_
    refine lv_goto (tgt := 34) hx hb zd_Mod_stuffItem_30 (by decide) ?_
    exact zl_Mod_stuffItem_L34 B hret hlk a1 v5 (1 : Int32) X3 _ _ _ hP hS (lv_sub hl [1, 2, 0] rfl) hf
theorem zC_Mod_stuffItem (l : Launch) {D : va_G} {cA : Nat → ClassId} {ad : Nat → Nat} {A : Nat → Prop} {a1 : Int32} {X : IX} {Y : LX} {res : IX} (hf : fn_Mod_stuffItem a1 X = some res) : Met l zm_Mod_stuffItem (zu_ws zm_Mod_stuffItem zb_Mod_stuffItem 5 none) zR_Mod_stuffItem (va_Pc [.ref (ad 95), .int a1] (zu_Pre D cA ad A X Y)) (zu_Qv D cA ad A res Y) 0 0 A := by
  refine Met.ofW (cc := zb_Mod_stuffItem) (maxL := 5) (ret := none) (by decide +kernel) rfl ?_
  intro p e s m args below meth c s₁ B0 hml hv
  obtain ⟨rfl, hP, hST⟩ := hv
  have B : zu_B p s m _ c zb_Mod_stuffItem 5 "StonePostModel" D cA ad A := ⟨B0.exec, B0.bytes, hml, findClass_of_methodNamed B0.named, (fun w hw => atoms_spec (ws := zu_ws zm_Mod_stuffItem zb_Mod_stuffItem 5 none) B0.pre w (List.mem_cons_of_mem _ hw)), hST⟩
  have hl := lv_entry ([.ref (ad 95), .int a1]) (n := 5) (Nat.le_of_ble_eq_true rfl)
  rw [lg_entry_eq]
  generalize (lg_sl ([.ref (ad 95), .int a1]) ++ List.replicate (5 - (lg_sl ([.ref (ad 95), .int a1])).length) Slot.unset).toArray = ls at hl ⊢
  exact zl_Mod_stuffItem B B0.returns B0.notSynchronized s.heap [] ls hP va_S.rf hl  hf
theorem zw_Mod_stuffItem {p : Program} {l : Launch} {e : Env} {R : Room} {s : State} {m : MethodId} {args : Array Value} {below : List Frame} {meth : Method} {c : Code} {H : Heap} {locs : List Loc} {cells slots : Nat} {Q : State → Prop} {cc : ByteArray} {pc nL : Nat} {ls : Array Slot} {rest st0 : List Value} {D : va_G} {cA : Nat → ClassId} {ad : Nat → Nat} {A : Nat → Prop} {X : IX} {Y : LX} {own : String} {index : Nat} {a1 : Int32} {X1 : IX} (B : zu_B p s m args c cc nL own D cA ad A) (hP : va_P D zu_cl (zu_pic cA ad X Y) H) (hS : va_S A s.heap H locs) (hq : fn_Mod_stuffItem a1 X = some X1) (m1 : Cond.methodLink own index zm_Mod_stuffItem ∈ zu_TB) (hR1 : 6 + 1 ≤ R.frames) (hR2 : 8 + (5 + 11) + 137 ≤ R.locals) (hsz : ls.size = nL) (hst : st0 = .int a1 :: .ref (ad 95) :: rest) (hw : (rest.map fun v => v.category).sum ≤ 8) (hdg : decode cc pc = .ok (.invokevirtual index, 3)) (h00 : cells ≤ R.cells ∧ slots ≤ R.slots) (kk : ∀ (H1 : Heap) (locs1 : List Loc), va_P D zu_cl (zu_pic cA ad X1 Y) H1 → va_S A s.heap H1 locs1 → W p l e R s m args below meth c H1 locs1 cells slots Q (F0 m (pc + 3) ls (rest))) : W p l e R s m args below meth c H locs cells slots Q (F0 m pc ls st0) := by
  subst hst
  exact zr_cVv (As := [.int a1]) (rest := rest) (n := 1) (C := "StonePostModel") (T := zt_Mod) (N := 23) B hP hS (zC_Mod_stuffItem l  hq) (K := 7) rfl (by decide) (by decide) rfl rfl m1 zq_1291 zqP_55 zq_8 zq_1292 (by decide +kernel) ⟨hR1, hR2⟩ rfl rfl rfl hsz rfl hw hdg h00 kk
abbrev zR_Mod_freeCell : Room := { frames := 4, cells := 0, slots := 0, locals := 88 }
theorem zd_Mod_freeCell_0 : decode zb_Mod_freeCell 0 = .ok (.iconst 0, 1) := by decide +kernel
theorem zd_Mod_freeCell_1 : decode zb_Mod_freeCell 1 = .ok (.istore_n 1, 1) := by decide +kernel
theorem zd_Mod_freeCell_2 : decode zb_Mod_freeCell 2 = .ok (.aload_n 0, 1) := by decide +kernel
theorem zd_Mod_freeCell_3 : decode zb_Mod_freeCell 3 = .ok (.getfield 244, 3) := by decide +kernel
theorem zd_Mod_freeCell_6 : decode zb_Mod_freeCell 6 = .ok (.istore_n 2, 1) := by decide +kernel
theorem zd_Mod_freeCell_7 : decode zb_Mod_freeCell 7 = .ok (.iload_n 2, 1) := by decide +kernel
theorem zd_Mod_freeCell_8 : decode zb_Mod_freeCell 8 = .ok (.aload_n 0, 1) := by decide +kernel
theorem zd_Mod_freeCell_9 : decode zb_Mod_freeCell 9 = .ok (.getfield 241, 3) := by decide +kernel
theorem zd_Mod_freeCell_12 : decode zb_Mod_freeCell 12 = .ok (.if_icmp .ge 49, 3) := by decide +kernel
theorem zd_Mod_freeCell_15 : decode zb_Mod_freeCell 15 = .ok (.aload_n 0, 1) := by decide +kernel
theorem zd_Mod_freeCell_16 : decode zb_Mod_freeCell 16 = .ok (.aload_n 0, 1) := by decide +kernel
theorem zd_Mod_freeCell_17 : decode zb_Mod_freeCell 17 = .ok (.getfield 244, 3) := by decide +kernel
theorem zd_Mod_freeCell_20 : decode zb_Mod_freeCell 20 = .ok (.invokevirtual 247, 3) := by decide +kernel
theorem zd_Mod_freeCell_23 : decode zb_Mod_freeCell 23 = .ok (.invokestatic 253, 3) := by decide +kernel
theorem zd_Mod_freeCell_26 : decode zb_Mod_freeCell 26 = .ok (.ifCond .eq 35, 3) := by decide +kernel
theorem zd_Mod_freeCell_29 : decode zb_Mod_freeCell 29 = .ok (.iload_n 1, 1) := by decide +kernel
theorem zd_Mod_freeCell_30 : decode zb_Mod_freeCell 30 = .ok (.sipush 999, 3) := by decide +kernel
theorem zd_Mod_freeCell_33 : decode zb_Mod_freeCell 33 = .ok (.if_icmp .le 7, 3) := by decide +kernel
theorem zd_Mod_freeCell_36 : decode zb_Mod_freeCell 36 = .ok (.iload_n 1, 1) := by decide +kernel
theorem zd_Mod_freeCell_37 : decode zb_Mod_freeCell 37 = .ok (.goto 17, 3) := by decide +kernel
theorem zd_Mod_freeCell_40 : decode zb_Mod_freeCell 40 = .ok (.bipush 10, 2) := by decide +kernel
theorem zd_Mod_freeCell_42 : decode zb_Mod_freeCell 42 = .ok (.iload_n 1, 1) := by decide +kernel
theorem zd_Mod_freeCell_43 : decode zb_Mod_freeCell 43 = .ok (.imul, 1) := by decide +kernel
theorem zd_Mod_freeCell_44 : decode zb_Mod_freeCell 44 = .ok (.aload_n 0, 1) := by decide +kernel
theorem zd_Mod_freeCell_45 : decode zb_Mod_freeCell 45 = .ok (.getfield 35, 3) := by decide +kernel
theorem zd_Mod_freeCell_48 : decode zb_Mod_freeCell 48 = .ok (.iload_n 2, 1) := by decide +kernel
theorem zd_Mod_freeCell_49 : decode zb_Mod_freeCell 49 = .ok (.iaload, 1) := by decide +kernel
theorem zd_Mod_freeCell_50 : decode zb_Mod_freeCell 50 = .ok (.iadd, 1) := by decide +kernel
theorem zd_Mod_freeCell_51 : decode zb_Mod_freeCell 51 = .ok (.bipush 48, 2) := by decide +kernel
theorem zd_Mod_freeCell_53 : decode zb_Mod_freeCell 53 = .ok (.isub, 1) := by decide +kernel
theorem zd_Mod_freeCell_54 : decode zb_Mod_freeCell 54 = .ok (.istore_n 1, 1) := by decide +kernel
theorem zd_Mod_freeCell_55 : decode zb_Mod_freeCell 55 = .ok (.iinc 2 1, 3) := by decide +kernel
theorem zd_Mod_freeCell_58 : decode zb_Mod_freeCell 58 = .ok (.goto (-51), 3) := by decide +kernel
theorem zd_Mod_freeCell_61 : decode zb_Mod_freeCell 61 = .ok (.aload_n 0, 1) := by decide +kernel
theorem zd_Mod_freeCell_62 : decode zb_Mod_freeCell 62 = .ok (.iload_n 1, 1) := by decide +kernel
theorem zd_Mod_freeCell_63 : decode zb_Mod_freeCell 63 = .ok (.putfield 267, 3) := by decide +kernel
theorem zd_Mod_freeCell_66 : decode zb_Mod_freeCell 66 = .ok (.aload_n 0, 1) := by decide +kernel
theorem zd_Mod_freeCell_67 : decode zb_Mod_freeCell 67 = .ok (.aload_n 0, 1) := by decide +kernel
theorem zd_Mod_freeCell_68 : decode zb_Mod_freeCell 68 = .ok (.aload_n 0, 1) := by decide +kernel
theorem zd_Mod_freeCell_69 : decode zb_Mod_freeCell 69 = .ok (.getfield 244, 3) := by decide +kernel
theorem zd_Mod_freeCell_72 : decode zb_Mod_freeCell 72 = .ok (.invokevirtual 247, 3) := by decide +kernel
theorem zd_Mod_freeCell_75 : decode zb_Mod_freeCell 75 = .ok (.invokestatic 253, 3) := by decide +kernel
theorem zd_Mod_freeCell_78 : decode zb_Mod_freeCell 78 = .ok (.ifCond .eq 22, 3) := by decide +kernel
theorem zd_Mod_freeCell_81 : decode zb_Mod_freeCell 81 = .ok (.iload_n 1, 1) := by decide +kernel
theorem zd_Mod_freeCell_82 : decode zb_Mod_freeCell 82 = .ok (.invokestatic 58, 3) := by decide +kernel
theorem zd_Mod_freeCell_85 : decode zb_Mod_freeCell 85 = .ok (.ifCond .eq 15, 3) := by decide +kernel
theorem zd_Mod_freeCell_88 : decode zb_Mod_freeCell 88 = .ok (.aload_n 0, 1) := by decide +kernel
theorem zd_Mod_freeCell_89 : decode zb_Mod_freeCell 89 = .ok (.iload_n 1, 1) := by decide +kernel
theorem zd_Mod_freeCell_90 : decode zb_Mod_freeCell 90 = .ok (.invokevirtual 79, 3) := by decide +kernel
theorem zd_Mod_freeCell_93 : decode zb_Mod_freeCell 93 = .ok (.ifCond .ge 7, 3) := by decide +kernel
theorem zd_Mod_freeCell_96 : decode zb_Mod_freeCell 96 = .ok (.iconst 1, 1) := by decide +kernel
theorem zd_Mod_freeCell_97 : decode zb_Mod_freeCell 97 = .ok (.goto 4, 3) := by decide +kernel
theorem zd_Mod_freeCell_100 : decode zb_Mod_freeCell 100 = .ok (.iconst 0, 1) := by decide +kernel
theorem zd_Mod_freeCell_101 : decode zb_Mod_freeCell 101 = .ok (.invokevirtual 270, 3) := by decide +kernel
theorem zd_Mod_freeCell_104 : decode zb_Mod_freeCell 104 = .ok (.return_, 1) := by decide +kernel
set_option maxHeartbeats 4000000 in
theorem zl_Mod_freeCell_L101 {p : Program} {l : Launch} {e : Env} {s : State} {m : MethodId} {args : Array Value} {below : List Frame} {meth : Method} {c : Code} {D : va_G} {cA : Nat → ClassId} {ad : Nat → Nat} {A : Nat → Prop} (B : zu_B p s m args c zb_Mod_freeCell 3 "StonePostModel" D cA ad A) (hret : meth.sig.returnType = none) (hlk : meth.locks = false) {Y : LX} {res : IX} (y0 : Int32) (X : IX) (H : Heap) (locs : List Loc) (ls : Array Slot) (hP : va_P D zu_cl (zu_pic cA ad X Y) H) (hS : va_S A s.heap H locs) (hl : lv_has ls 3 []) (hf : fn_Mod_freeCell_L101 y0 X = some res) : W p l e zR_Mod_freeCell s m args below meth c H locs 0 0 (MQ below (zu_Qv D cA ad A res Y) args s 0 0 A) (F0 m 101 ls [.int y0, .ref (ad 95)]) := by
  obtain ⟨hx, hb, hml, hown, hts, hST⟩ := id B
  unfold fn_Mod_freeCell_L101 at hf
  obtain ⟨X23, hq24, hf⟩ := zu_b1_e hf
  refine zw_Mod_needs (rest := []) B hP hS hq24 zq_1293 (Nat.le_of_ble_eq_true rfl) (Nat.le_of_ble_eq_true rfl) hl.1 rfl (Nat.le_of_ble_eq_true rfl) zd_Mod_freeCell_101 (by decide) (fun H locs hP hS => ?_)
  clear hq24
  obtain rfl := Option.some.inj hf
  exact zr_vret hx hb hret hlk hP hS zd_Mod_freeCell_104
set_option maxHeartbeats 4000000 in
theorem zl_Mod_freeCell_L100 {p : Program} {l : Launch} {e : Env} {s : State} {m : MethodId} {args : Array Value} {below : List Frame} {meth : Method} {c : Code} {D : va_G} {cA : Nat → ClassId} {ad : Nat → Nat} {A : Nat → Prop} (B : zu_B p s m args c zb_Mod_freeCell 3 "StonePostModel" D cA ad A) (hret : meth.sig.returnType = none) (hlk : meth.locks = false) {Y : LX} {res : IX} (X : IX) (H : Heap) (locs : List Loc) (ls : Array Slot) (hP : va_P D zu_cl (zu_pic cA ad X Y) H) (hS : va_S A s.heap H locs) (hl : lv_has ls 3 []) (hf : fn_Mod_freeCell_L100 X = some res) : W p l e zR_Mod_freeCell s m args below meth c H locs 0 0 (MQ below (zu_Qv D cA ad A res Y) args s 0 0 A) (F0 m 100 ls [.ref (ad 95)]) := by
  obtain ⟨hx, hb, hml, hown, hts, hST⟩ := id B
  unfold fn_Mod_freeCell_L100 at hf
  refine lv_iconst (v := 0) hx hb zd_Mod_freeCell_100 (by decide) ?_
  exact zl_Mod_freeCell_L101 B hret hlk (0 : Int32) X _ _ _ hP hS (lv_sub hl [] rfl) hf
set_option maxHeartbeats 4000000 in
theorem zl_Mod_freeCell_L61 {p : Program} {l : Launch} {e : Env} {s : State} {m : MethodId} {args : Array Value} {below : List Frame} {meth : Method} {c : Code} {D : va_G} {cA : Nat → ClassId} {ad : Nat → Nat} {A : Nat → Prop} (B : zu_B p s m args c zb_Mod_freeCell 3 "StonePostModel" D cA ad A) (hret : meth.sig.returnType = none) (hlk : meth.locks = false) {Y : LX} {res : IX} (x1 : Int32) (X : IX) (H : Heap) (locs : List Loc) (ls : Array Slot) (hP : va_P D zu_cl (zu_pic cA ad X Y) H) (hS : va_S A s.heap H locs) (hl : lv_has ls 3 [(0, .ref (ad 95)), (1, .int x1)]) (hf : fn_Mod_freeCell_L61 x1 X = some res) : W p l e zR_Mod_freeCell s m args below meth c H locs 0 0 (MQ below (zu_Qv D cA ad A res Y) args s 0 0 A) (F0 m 61 ls []) := by
  obtain ⟨hx, hb, hml, hown, hts, hST⟩ := id B
  unfold fn_Mod_freeCell_L61 at hf
  refine lv_aload_n hx hb zd_Mod_freeCell_61 rfl (lv_at hl 0 rfl) ?_
  refine lv_iload_n hx hb zd_Mod_freeCell_62 rfl (lv_at hl 1 rfl) ?_
  refine zp_Mod_value B hP hS hf rfl zq_878 zd_Mod_freeCell_63 (fun X10 H locs hf hP hS => ?_)
  refine lv_aload_n hx hb zd_Mod_freeCell_66 rfl (lv_at hl 0 rfl) ?_
  refine lv_aload_n hx hb zd_Mod_freeCell_67 rfl (lv_at hl 0 rfl) ?_
  refine lv_aload_n hx hb zd_Mod_freeCell_68 rfl (lv_at hl 0 rfl) ?_
  refine zg_Mod_begins B hP rfl zq_876 zd_Mod_freeCell_69 ?_
  obtain ⟨v11, hq12, hf⟩ := zu_b1_e hf
  refine zw_Mod_byteAt (rest := [.ref (ad 95)]) B hP hS hq12 zq_1247 (Nat.le_of_ble_eq_true rfl) (Nat.le_of_ble_eq_true rfl) hl.1 rfl (Nat.le_of_ble_eq_true rfl) zd_Mod_freeCell_72 (by decide) (fun H locs hP hS => ?_)
  clear hq12
  obtain ⟨v13, hq14, hf⟩ := zu_b1_e hf
  refine zw_Mod_isDigit (rest := [.ref (ad 95)]) B hP hS hq14 zq_1256 (Nat.le_of_ble_eq_true rfl) (Nat.le_of_ble_eq_true rfl) hl.1 rfl (Nat.le_of_ble_eq_true rfl) zd_Mod_freeCell_75 (by decide) (fun H locs hP hS => ?_)
  clear hq14
  refine lv_if_eq (tgt := 100) hx hb zd_Mod_freeCell_78 (by decide) (fun c15 => ?_) (fun c15 => ?_)
  · have hf := zu_t c15 hf
    exact zl_Mod_freeCell_L100 B hret hlk X10 _ _ _ hP hS (lv_sub hl [] rfl) hf
  · have hf := zu_f c15 hf
    refine lv_iload_n hx hb zd_Mod_freeCell_81 rfl (lv_at hl 1 rfl) ?_
    obtain ⟨v16, hq17, hf⟩ := zu_b1_e hf
    refine zw_Mod_isCell (rest := [.ref (ad 95)]) B hP hS hq17 zq_935 (Nat.le_of_ble_eq_true rfl) (Nat.le_of_ble_eq_true rfl) hl.1 rfl (Nat.le_of_ble_eq_true rfl) zd_Mod_freeCell_82 (by decide) (fun H locs hP hS => ?_)
    clear hq17
    refine lv_if_eq (tgt := 100) hx hb zd_Mod_freeCell_85 (by decide) (fun c18 => ?_) (fun c18 => ?_)
    · have hf := zu_t c18 hf
      exact zl_Mod_freeCell_L100 B hret hlk X10 _ _ _ hP hS (lv_sub hl [] rfl) hf
    · have hf := zu_f c18 hf
      refine lv_aload_n hx hb zd_Mod_freeCell_88 rfl (lv_at hl 0 rfl) ?_
      refine lv_iload_n hx hb zd_Mod_freeCell_89 rfl (lv_at hl 1 rfl) ?_
      obtain ⟨v19, hq20, hf⟩ := zu_b1_e hf
      refine zw_Mod_standing (rest := [.ref (ad 95)]) B hP hS hq20 zq_958 (Nat.le_of_ble_eq_true rfl) (Nat.le_of_ble_eq_true rfl) hl.1 rfl (Nat.le_of_ble_eq_true rfl) zd_Mod_freeCell_90 (by decide) (fun H locs hP hS => ?_)
      clear hq20
      refine lv_if_ge (tgt := 100) hx hb zd_Mod_freeCell_93 (by decide) (fun c21 => ?_) (fun c21 => ?_)
      · have hf := zu_t c21 hf
        exact zl_Mod_freeCell_L100 B hret hlk X10 _ _ _ hP hS (lv_sub hl [] rfl) hf
      · have hf := zu_f c21 hf
        refine lv_iconst (v := 1) hx hb zd_Mod_freeCell_96 (by decide) ?_
        refine lv_goto (tgt := 101) hx hb zd_Mod_freeCell_97 (by decide) ?_
        exact zl_Mod_freeCell_L101 B hret hlk (1 : Int32) X10 _ _ _ hP hS (lv_sub hl [] rfl) hf
set_option maxHeartbeats 4000000 in
theorem zl_Mod_freeCell_L54 {p : Program} {l : Launch} {e : Env} {s : State} {m : MethodId} {args : Array Value} {below : List Frame} {meth : Method} {c : Code} {D : va_G} {cA : Nat → ClassId} {ad : Nat → Nat} {A : Nat → Prop} (B : zu_B p s m args c zb_Mod_freeCell 3 "StonePostModel" D cA ad A) (hret : meth.sig.returnType = none) (hlk : meth.locks = false) {Y : LX} {res : IX} {k7 : Int32 → Int32 → IX → Option IX} (hk7 : ∀ (x1 : Int32) (x2 : Int32) (X : IX) (H : Heap) (locs : List Loc) (ls : Array Slot), va_P D zu_cl (zu_pic cA ad X Y) H → va_S A s.heap H locs → lv_has ls 3 [(0, .ref (ad 95)), (1, .int x1), (2, .int x2)] → k7 x1 x2 X = some res → W p l e zR_Mod_freeCell s m args below meth c H locs 0 0 (MQ below (zu_Qv D cA ad A res Y) args s 0 0 A) (F0 m 7 ls [])) (x2 : Int32) (y0 : Int32) (X : IX) (H : Heap) (locs : List Loc) (ls : Array Slot) (hP : va_P D zu_cl (zu_pic cA ad X Y) H) (hS : va_S A s.heap H locs) (hl : lv_has ls 3 [(0, .ref (ad 95)), (2, .int x2)]) (hf : fn_Mod_freeCell_L54 k7 x2 y0 X = some res) : W p l e zR_Mod_freeCell s m args below meth c H locs 0 0 (MQ below (zu_Qv D cA ad A res Y) args s 0 0 A) (F0 m 54 ls [.int y0]) := by
  obtain ⟨hx, hb, hml, hown, hts, hST⟩ := id B
  unfold fn_Mod_freeCell_L54 at hf
  refine lv_istore_n (lv' := [(1, .int y0), (0, .ref (ad 95)), (2, .int x2)]) hx hb zd_Mod_freeCell_54 rfl hl (by decide) rfl (fun ls hl => ?_)
  obtain ⟨v22, ev22, hf⟩ := zu_nx_e hf
  refine lv_iinc (v := v22) (lv' := [(2, .int v22), (1, .int y0), (0, .ref (ad 95))]) hx hb zd_Mod_freeCell_55 hl (k := 2) rfl (by rw [ev22]; rfl) (by decide) rfl (fun ls hl => ?_)
  clear ev22
  refine lv_goto (tgt := 7) hx hb zd_Mod_freeCell_58 (by decide) ?_
  exact hk7 y0 v22 X _ _ _ hP hS (lv_sub hl [2, 1, 0] rfl) hf
set_option maxHeartbeats 4000000 in
theorem zl_Mod_freeCell_B7 {p : Program} {l : Launch} {e : Env} {s : State} {m : MethodId} {args : Array Value} {below : List Frame} {meth : Method} {c : Code} {D : va_G} {cA : Nat → ClassId} {ad : Nat → Nat} {A : Nat → Prop} (B : zu_B p s m args c zb_Mod_freeCell 3 "StonePostModel" D cA ad A) (hret : meth.sig.returnType = none) (hlk : meth.locks = false) {Y : LX} {res : IX} {k7 : Int32 → Int32 → IX → Option IX} (hk7 : ∀ (x1 : Int32) (x2 : Int32) (X : IX) (H : Heap) (locs : List Loc) (ls : Array Slot), va_P D zu_cl (zu_pic cA ad X Y) H → va_S A s.heap H locs → lv_has ls 3 [(0, .ref (ad 95)), (1, .int x1), (2, .int x2)] → k7 x1 x2 X = some res → W p l e zR_Mod_freeCell s m args below meth c H locs 0 0 (MQ below (zu_Qv D cA ad A res Y) args s 0 0 A) (F0 m 7 ls [])) (x1 : Int32) (x2 : Int32) (X : IX) (H : Heap) (locs : List Loc) (ls : Array Slot) (hP : va_P D zu_cl (zu_pic cA ad X Y) H) (hS : va_S A s.heap H locs) (hl : lv_has ls 3 [(0, .ref (ad 95)), (1, .int x1), (2, .int x2)]) (hf : fn_Mod_freeCell_B7 k7 x1 x2 X = some res) : W p l e zR_Mod_freeCell s m args below meth c H locs 0 0 (MQ below (zu_Qv D cA ad A res Y) args s 0 0 A) (F0 m 7 ls []) := by
  obtain ⟨hx, hb, hml, hown, hts, hST⟩ := id B
  unfold fn_Mod_freeCell_B7 at hf
  refine lv_iload_n hx hb zd_Mod_freeCell_7 rfl (lv_at hl 2 rfl) ?_
  refine lv_aload_n hx hb zd_Mod_freeCell_8 rfl (lv_at hl 0 rfl) ?_
  refine zg_Mod_to B hP rfl zq_877 zd_Mod_freeCell_9 ?_
  refine lv_icmp_ge (tgt := 61) hx hb zd_Mod_freeCell_12 (by decide) (fun c2 => ?_) (fun c2 => ?_)
  · have hf := zu_t c2 hf
    exact zl_Mod_freeCell_L61 B hret hlk x1 X _ _ _ hP hS (lv_sub hl [0, 1] rfl) hf
  · have hf := zu_f c2 hf
    refine lv_aload_n hx hb zd_Mod_freeCell_15 rfl (lv_at hl 0 rfl) ?_
    refine lv_aload_n hx hb zd_Mod_freeCell_16 rfl (lv_at hl 0 rfl) ?_
    refine zg_Mod_begins B hP rfl zq_876 zd_Mod_freeCell_17 ?_
    obtain ⟨v3, hq4, hf⟩ := zu_b1_e hf
    refine zw_Mod_byteAt (rest := []) B hP hS hq4 zq_1247 (Nat.le_of_ble_eq_true rfl) (Nat.le_of_ble_eq_true rfl) hl.1 rfl (Nat.le_of_ble_eq_true rfl) zd_Mod_freeCell_20 (by decide) (fun H locs hP hS => ?_)
    clear hq4
    obtain ⟨v5, hq6, hf⟩ := zu_b1_e hf
    refine zw_Mod_isDigit (rest := []) B hP hS hq6 zq_1256 (Nat.le_of_ble_eq_true rfl) (Nat.le_of_ble_eq_true rfl) hl.1 rfl (Nat.le_of_ble_eq_true rfl) zd_Mod_freeCell_23 (by decide) (fun H locs hP hS => ?_)
    clear hq6
    refine lv_if_eq (tgt := 61) hx hb zd_Mod_freeCell_26 (by decide) (fun c7 => ?_) (fun c7 => ?_)
    · have hf := zu_t c7 hf
      exact zl_Mod_freeCell_L61 B hret hlk x1 X _ _ _ hP hS (lv_sub hl [0, 1] rfl) hf
    · have hf := zu_f c7 hf
      refine lv_iload_n hx hb zd_Mod_freeCell_29 rfl (lv_at hl 1 rfl) ?_
      refine lv_sipush (v := 999) hx hb zd_Mod_freeCell_30 (by decide) ?_
      refine lv_icmp_le (tgt := 40) hx hb zd_Mod_freeCell_33 (by decide) (fun c8 => ?_) (fun c8 => ?_)
      · have hf := zu_t c8 hf
        refine lv_bipush (v := 10) hx hb zd_Mod_freeCell_40 (by decide) ?_
        refine lv_iload_n hx hb zd_Mod_freeCell_42 rfl (lv_at hl 1 rfl) ?_
        refine lv_imul hx hb zd_Mod_freeCell_43 ?_
        refine lv_aload_n hx hb zd_Mod_freeCell_44 rfl (lv_at hl 0 rfl) ?_
        refine zg_Mod_tape B hP rfl zq_874 zd_Mod_freeCell_45 ?_
        refine lv_iload_n hx hb zd_Mod_freeCell_48 rfl (lv_at hl 2 rfl) ?_
        obtain ⟨hg9, hf⟩ := zu_gd_e hf
        refine zr_iald rfl B hP rfl (by decide) rfl hg9 zd_Mod_freeCell_49 ?_
        refine lv_iadd hx hb zd_Mod_freeCell_50 ?_
        refine lv_bipush (v := 48) hx hb zd_Mod_freeCell_51 (by decide) ?_
        refine lv_isub hx hb zd_Mod_freeCell_53 ?_
        exact zl_Mod_freeCell_L54 B hret hlk hk7 x2 ((((10 : Int32) * x1) + (X 104 (x2.toNatClampNeg))) - (48 : Int32)) X _ _ _ hP hS (lv_sub hl [0, 2] rfl) hf
      · have hf := zu_f c8 hf
        refine lv_iload_n hx hb zd_Mod_freeCell_36 rfl (lv_at hl 1 rfl) ?_
        refine lv_goto (tgt := 54) hx hb zd_Mod_freeCell_37 (by decide) ?_
        exact zl_Mod_freeCell_L54 B hret hlk hk7 x2 x1 X _ _ _ hP hS (lv_sub hl [0, 2] rfl) hf
theorem zl_Mod_freeCell_L7 {p : Program} {l : Launch} {e : Env} {s : State} {m : MethodId} {args : Array Value} {below : List Frame} {meth : Method} {c : Code} {D : va_G} {cA : Nat → ClassId} {ad : Nat → Nat} {A : Nat → Prop} (B : zu_B p s m args c zb_Mod_freeCell 3 "StonePostModel" D cA ad A) (hret : meth.sig.returnType = none) (hlk : meth.locks = false) {Y : LX} {res : IX} : ∀ (n : Nat) (x1 : Int32) (x2 : Int32) (X : IX) (H : Heap) (locs : List Loc) (ls : Array Slot), va_P D zu_cl (zu_pic cA ad X Y) H → va_S A s.heap H locs → lv_has ls 3 [(0, .ref (ad 95)), (1, .int x1), (2, .int x2)] → fn_Mod_freeCell_L7 n x1 x2 X = some res → W p l e zR_Mod_freeCell s m args below meth c H locs 0 0 (MQ below (zu_Qv D cA ad A res Y) args s 0 0 A) (F0 m 7 ls []) := by
  intro n
  induction n with
  | zero =>
    intro x1 x2 X H locs ls hP hS hl hf
    exact (Option.some_ne_none _ hf.symm).elim
  | succ n ih =>
    intro x1 x2 X H locs ls hP hS hl hf
    exact zl_Mod_freeCell_B7 B hret hlk ih x1 x2 X H locs ls hP hS hl  hf
set_option maxHeartbeats 4000000 in
theorem zl_Mod_freeCell {p : Program} {l : Launch} {e : Env} {s : State} {m : MethodId} {args : Array Value} {below : List Frame} {meth : Method} {c : Code} {D : va_G} {cA : Nat → ClassId} {ad : Nat → Nat} {A : Nat → Prop} (B : zu_B p s m args c zb_Mod_freeCell 3 "StonePostModel" D cA ad A) (hret : meth.sig.returnType = none) (hlk : meth.locks = false) {Y : LX} {res : IX} {X : IX} (H : Heap) (locs : List Loc) (ls : Array Slot) (hP : va_P D zu_cl (zu_pic cA ad X Y) H) (hS : va_S A s.heap H locs) (hl : lv_has ls 3 [(0, .ref (ad 95))]) (hf : fn_Mod_freeCell X = some res) : W p l e zR_Mod_freeCell s m args below meth c H locs 0 0 (MQ below (zu_Qv D cA ad A res Y) args s 0 0 A) (F0 m 0 ls []) := by
  obtain ⟨hx, hb, hml, hown, hts, hST⟩ := id B
  unfold fn_Mod_freeCell at hf
  refine lv_iconst (v := 0) hx hb zd_Mod_freeCell_0 (by decide) ?_
  refine lv_istore_n (lv' := [(1, .int (0 : Int32)), (0, .ref (ad 95))]) hx hb zd_Mod_freeCell_1 rfl hl (by decide) rfl (fun ls hl => ?_)
  refine lv_aload_n hx hb zd_Mod_freeCell_2 rfl (lv_at hl 1 rfl) ?_
  refine zg_Mod_begins B hP rfl zq_876 zd_Mod_freeCell_3 ?_
  refine zr_nxi hf (fun v1 hf => ?_)
  refine lv_istore_n (lv' := [(2, .int v1), (1, .int (0 : Int32)), (0, .ref (ad 95))]) hx hb zd_Mod_freeCell_6 rfl hl (by decide) rfl (fun ls hl => ?_)
  exact zl_Mod_freeCell_L7 B hret hlk 400 (0 : Int32) v1 X _ _ _ hP hS (lv_sub hl [2, 1, 0] rfl) hf
theorem zC_Mod_freeCell (l : Launch) {D : va_G} {cA : Nat → ClassId} {ad : Nat → Nat} {A : Nat → Prop} {X : IX} {Y : LX} {res : IX} (hf : fn_Mod_freeCell X = some res) : Met l zm_Mod_freeCell (zu_ws zm_Mod_freeCell zb_Mod_freeCell 3 none) zR_Mod_freeCell (va_Pc [.ref (ad 95)] (zu_Pre D cA ad A X Y)) (zu_Qv D cA ad A res Y) 0 0 A := by
  refine Met.ofW (cc := zb_Mod_freeCell) (maxL := 3) (ret := none) (by decide +kernel) rfl ?_
  intro p e s m args below meth c s₁ B0 hml hv
  obtain ⟨rfl, hP, hST⟩ := hv
  have B : zu_B p s m _ c zb_Mod_freeCell 3 "StonePostModel" D cA ad A := ⟨B0.exec, B0.bytes, hml, findClass_of_methodNamed B0.named, (fun w hw => atoms_spec (ws := zu_ws zm_Mod_freeCell zb_Mod_freeCell 3 none) B0.pre w (List.mem_cons_of_mem _ hw)), hST⟩
  have hl := lv_entry ([.ref (ad 95)]) (n := 3) (Nat.le_of_ble_eq_true rfl)
  rw [lg_entry_eq]
  generalize (lg_sl ([.ref (ad 95)]) ++ List.replicate (3 - (lg_sl ([.ref (ad 95)])).length) Slot.unset).toArray = ls at hl ⊢
  exact zl_Mod_freeCell B B0.returns B0.notSynchronized s.heap [] ls hP va_S.rf hl  hf
theorem zw_Mod_freeCell {p : Program} {l : Launch} {e : Env} {R : Room} {s : State} {m : MethodId} {args : Array Value} {below : List Frame} {meth : Method} {c : Code} {H : Heap} {locs : List Loc} {cells slots : Nat} {Q : State → Prop} {cc : ByteArray} {pc nL : Nat} {ls : Array Slot} {rest st0 : List Value} {D : va_G} {cA : Nat → ClassId} {ad : Nat → Nat} {A : Nat → Prop} {X : IX} {Y : LX} {own : String} {index : Nat} {X1 : IX} (B : zu_B p s m args c cc nL own D cA ad A) (hP : va_P D zu_cl (zu_pic cA ad X Y) H) (hS : va_S A s.heap H locs) (hq : fn_Mod_freeCell X = some X1) (m1 : Cond.methodLink own index zm_Mod_freeCell ∈ zu_TB) (hR1 : 4 + 1 ≤ R.frames) (hR2 : 8 + (3 + 11) + 88 ≤ R.locals) (hsz : ls.size = nL) (hst : st0 = .ref (ad 95) :: rest) (hw : (rest.map fun v => v.category).sum ≤ 8) (hdg : decode cc pc = .ok (.invokevirtual index, 3)) (h00 : cells ≤ R.cells ∧ slots ≤ R.slots) (kk : ∀ (H1 : Heap) (locs1 : List Loc), va_P D zu_cl (zu_pic cA ad X1 Y) H1 → va_S A s.heap H1 locs1 → W p l e R s m args below meth c H1 locs1 cells slots Q (F0 m (pc + 3) ls (rest))) : W p l e R s m args below meth c H locs cells slots Q (F0 m pc ls st0) := by
  subst hst
  exact zr_cVv (As := []) (rest := rest) (n := 0) (C := "StonePostModel") (T := zt_Mod) (N := 23) B hP hS (zC_Mod_freeCell l  hq) (K := 7) rfl (by decide) (by decide) rfl rfl m1 zq_1313 zqP_60 zq_8 zq_1314 (by decide +kernel) ⟨hR1, hR2⟩ rfl rfl rfl hsz rfl hw hdg h00 kk
abbrev zR_Mod_throwerItem : Room := { frames := 6, cells := 0, slots := 0, locals := 137 }
theorem zd_Mod_throwerItem_0 : decode zb_Mod_throwerItem 0 = .ok (.aload_n 0, 1) := by decide +kernel
theorem zd_Mod_throwerItem_1 : decode zb_Mod_throwerItem 1 = .ok (.aload_n 0, 1) := by decide +kernel
theorem zd_Mod_throwerItem_2 : decode zb_Mod_throwerItem 2 = .ok (.getfield 7, 3) := by decide +kernel
theorem zd_Mod_throwerItem_5 : decode zb_Mod_throwerItem 5 = .ok (.iconst 1, 1) := by decide +kernel
theorem zd_Mod_throwerItem_6 : decode zb_Mod_throwerItem 6 = .ok (.iaload, 1) := by decide +kernel
theorem zd_Mod_throwerItem_7 : decode zb_Mod_throwerItem 7 = .ok (.bipush 10, 2) := by decide +kernel
theorem zd_Mod_throwerItem_9 : decode zb_Mod_throwerItem 9 = .ok (.if_icmp .ge 7, 3) := by decide +kernel
theorem zd_Mod_throwerItem_12 : decode zb_Mod_throwerItem 12 = .ok (.iconst 1, 1) := by decide +kernel
theorem zd_Mod_throwerItem_13 : decode zb_Mod_throwerItem 13 = .ok (.goto 4, 3) := by decide +kernel
theorem zd_Mod_throwerItem_16 : decode zb_Mod_throwerItem 16 = .ok (.iconst 0, 1) := by decide +kernel
theorem zd_Mod_throwerItem_17 : decode zb_Mod_throwerItem 17 = .ok (.invokevirtual 270, 3) := by decide +kernel
theorem zd_Mod_throwerItem_20 : decode zb_Mod_throwerItem 20 = .ok (.aload_n 0, 1) := by decide +kernel
theorem zd_Mod_throwerItem_21 : decode zb_Mod_throwerItem 21 = .ok (.aload_n 0, 1) := by decide +kernel
theorem zd_Mod_throwerItem_22 : decode zb_Mod_throwerItem 22 = .ok (.invokevirtual 274, 3) := by decide +kernel
theorem zd_Mod_throwerItem_25 : decode zb_Mod_throwerItem 25 = .ok (.ldc2_w 308, 3) := by decide +kernel
theorem zd_Mod_throwerItem_28 : decode zb_Mod_throwerItem 28 = .ok (.lcmp, 1) := by decide +kernel
theorem zd_Mod_throwerItem_29 : decode zb_Mod_throwerItem 29 = .ok (.ifCond .ne 7, 3) := by decide +kernel
theorem zd_Mod_throwerItem_32 : decode zb_Mod_throwerItem 32 = .ok (.iconst 1, 1) := by decide +kernel
theorem zd_Mod_throwerItem_33 : decode zb_Mod_throwerItem 33 = .ok (.goto 4, 3) := by decide +kernel
theorem zd_Mod_throwerItem_36 : decode zb_Mod_throwerItem 36 = .ok (.iconst 0, 1) := by decide +kernel
theorem zd_Mod_throwerItem_37 : decode zb_Mod_throwerItem 37 = .ok (.invokevirtual 270, 3) := by decide +kernel
theorem zd_Mod_throwerItem_40 : decode zb_Mod_throwerItem 40 = .ok (.aload_n 0, 1) := by decide +kernel
theorem zd_Mod_throwerItem_41 : decode zb_Mod_throwerItem 41 = .ok (.invokevirtual 310, 3) := by decide +kernel
theorem zd_Mod_throwerItem_44 : decode zb_Mod_throwerItem 44 = .ok (.aload_n 0, 1) := by decide +kernel
theorem zd_Mod_throwerItem_45 : decode zb_Mod_throwerItem 45 = .ok (.getfield 267, 3) := by decide +kernel
theorem zd_Mod_throwerItem_48 : decode zb_Mod_throwerItem 48 = .ok (.istore_n 2, 1) := by decide +kernel
theorem zd_Mod_throwerItem_49 : decode zb_Mod_throwerItem 49 = .ok (.aload_n 0, 1) := by decide +kernel
theorem zd_Mod_throwerItem_50 : decode zb_Mod_throwerItem 50 = .ok (.aload_n 0, 1) := by decide +kernel
theorem zd_Mod_throwerItem_51 : decode zb_Mod_throwerItem 51 = .ok (.invokevirtual 274, 3) := by decide +kernel
theorem zd_Mod_throwerItem_54 : decode zb_Mod_throwerItem 54 = .ok (.ldc2_w 313, 3) := by decide +kernel
theorem zd_Mod_throwerItem_57 : decode zb_Mod_throwerItem 57 = .ok (.lcmp, 1) := by decide +kernel
theorem zd_Mod_throwerItem_58 : decode zb_Mod_throwerItem 58 = .ok (.ifCond .ne 7, 3) := by decide +kernel
theorem zd_Mod_throwerItem_61 : decode zb_Mod_throwerItem 61 = .ok (.iconst 1, 1) := by decide +kernel
theorem zd_Mod_throwerItem_62 : decode zb_Mod_throwerItem 62 = .ok (.goto 4, 3) := by decide +kernel
theorem zd_Mod_throwerItem_65 : decode zb_Mod_throwerItem 65 = .ok (.iconst 0, 1) := by decide +kernel
theorem zd_Mod_throwerItem_66 : decode zb_Mod_throwerItem 66 = .ok (.iconst 1, 1) := by decide +kernel
theorem zd_Mod_throwerItem_67 : decode zb_Mod_throwerItem 67 = .ok (.bipush 9, 2) := by decide +kernel
theorem zd_Mod_throwerItem_69 : decode zb_Mod_throwerItem 69 = .ok (.iconst 2, 1) := by decide +kernel
theorem zd_Mod_throwerItem_70 : decode zb_Mod_throwerItem 70 = .ok (.invokevirtual 304, 3) := by decide +kernel
theorem zd_Mod_throwerItem_73 : decode zb_Mod_throwerItem 73 = .ok (.istore_n 3, 1) := by decide +kernel
theorem zd_Mod_throwerItem_74 : decode zb_Mod_throwerItem 74 = .ok (.aload_n 0, 1) := by decide +kernel
theorem zd_Mod_throwerItem_75 : decode zb_Mod_throwerItem 75 = .ok (.aload_n 0, 1) := by decide +kernel
theorem zd_Mod_throwerItem_76 : decode zb_Mod_throwerItem 76 = .ok (.invokevirtual 274, 3) := by decide +kernel
theorem zd_Mod_throwerItem_79 : decode zb_Mod_throwerItem 79 = .ok (.ldc2_w 315, 3) := by decide +kernel
theorem zd_Mod_throwerItem_82 : decode zb_Mod_throwerItem 82 = .ok (.lcmp, 1) := by decide +kernel
theorem zd_Mod_throwerItem_83 : decode zb_Mod_throwerItem 83 = .ok (.ifCond .ne 7, 3) := by decide +kernel
theorem zd_Mod_throwerItem_86 : decode zb_Mod_throwerItem 86 = .ok (.iconst 1, 1) := by decide +kernel
theorem zd_Mod_throwerItem_87 : decode zb_Mod_throwerItem 87 = .ok (.goto 4, 3) := by decide +kernel
theorem zd_Mod_throwerItem_90 : decode zb_Mod_throwerItem 90 = .ok (.iconst 0, 1) := by decide +kernel
theorem zd_Mod_throwerItem_91 : decode zb_Mod_throwerItem 91 = .ok (.iconst 1, 1) := by decide +kernel
theorem zd_Mod_throwerItem_92 : decode zb_Mod_throwerItem 92 = .ok (.bipush 12, 2) := by decide +kernel
theorem zd_Mod_throwerItem_94 : decode zb_Mod_throwerItem 94 = .ok (.iconst 5, 1) := by decide +kernel
theorem zd_Mod_throwerItem_95 : decode zb_Mod_throwerItem 95 = .ok (.invokevirtual 304, 3) := by decide +kernel
theorem zd_Mod_throwerItem_98 : decode zb_Mod_throwerItem 98 = .ok (.istore 4, 2) := by decide +kernel
theorem zd_Mod_throwerItem_100 : decode zb_Mod_throwerItem 100 = .ok (.aload_n 0, 1) := by decide +kernel
theorem zd_Mod_throwerItem_101 : decode zb_Mod_throwerItem 101 = .ok (.aload_n 0, 1) := by decide +kernel
theorem zd_Mod_throwerItem_102 : decode zb_Mod_throwerItem 102 = .ok (.invokevirtual 274, 3) := by decide +kernel
theorem zd_Mod_throwerItem_105 : decode zb_Mod_throwerItem 105 = .ok (.ldc2_w 317, 3) := by decide +kernel
theorem zd_Mod_throwerItem_108 : decode zb_Mod_throwerItem 108 = .ok (.lcmp, 1) := by decide +kernel
theorem zd_Mod_throwerItem_109 : decode zb_Mod_throwerItem 109 = .ok (.ifCond .ne 7, 3) := by decide +kernel
theorem zd_Mod_throwerItem_112 : decode zb_Mod_throwerItem 112 = .ok (.iconst 1, 1) := by decide +kernel
theorem zd_Mod_throwerItem_113 : decode zb_Mod_throwerItem 113 = .ok (.goto 4, 3) := by decide +kernel
theorem zd_Mod_throwerItem_116 : decode zb_Mod_throwerItem 116 = .ok (.iconst 0, 1) := by decide +kernel
theorem zd_Mod_throwerItem_117 : decode zb_Mod_throwerItem 117 = .ok (.iconst 0, 1) := by decide +kernel
theorem zd_Mod_throwerItem_118 : decode zb_Mod_throwerItem 118 = .ok (.bipush 12, 2) := by decide +kernel
theorem zd_Mod_throwerItem_120 : decode zb_Mod_throwerItem 120 = .ok (.bipush 8, 2) := by decide +kernel
theorem zd_Mod_throwerItem_122 : decode zb_Mod_throwerItem 122 = .ok (.invokevirtual 304, 3) := by decide +kernel
theorem zd_Mod_throwerItem_125 : decode zb_Mod_throwerItem 125 = .ok (.istore 5, 2) := by decide +kernel
theorem zd_Mod_throwerItem_127 : decode zb_Mod_throwerItem 127 = .ok (.aload_n 0, 1) := by decide +kernel
theorem zd_Mod_throwerItem_128 : decode zb_Mod_throwerItem 128 = .ok (.invokevirtual 274, 3) := by decide +kernel
theorem zd_Mod_throwerItem_131 : decode zb_Mod_throwerItem 131 = .ok (.ldc2_w 319, 3) := by decide +kernel
theorem zd_Mod_throwerItem_134 : decode zb_Mod_throwerItem 134 = .ok (.lcmp, 1) := by decide +kernel
theorem zd_Mod_throwerItem_135 : decode zb_Mod_throwerItem 135 = .ok (.ifCond .ne 7, 3) := by decide +kernel
theorem zd_Mod_throwerItem_138 : decode zb_Mod_throwerItem 138 = .ok (.iconst 1, 1) := by decide +kernel
theorem zd_Mod_throwerItem_139 : decode zb_Mod_throwerItem 139 = .ok (.goto 4, 3) := by decide +kernel
theorem zd_Mod_throwerItem_142 : decode zb_Mod_throwerItem 142 = .ok (.iconst 0, 1) := by decide +kernel
theorem zd_Mod_throwerItem_143 : decode zb_Mod_throwerItem 143 = .ok (.istore 6, 2) := by decide +kernel
theorem zd_Mod_throwerItem_145 : decode zb_Mod_throwerItem 145 = .ok (.iload 6, 2) := by decide +kernel
theorem zd_Mod_throwerItem_147 : decode zb_Mod_throwerItem 147 = .ok (.ifCond .eq 8, 3) := by decide +kernel
theorem zd_Mod_throwerItem_150 : decode zb_Mod_throwerItem 150 = .ok (.aload_n 0, 1) := by decide +kernel
theorem zd_Mod_throwerItem_151 : decode zb_Mod_throwerItem 151 = .ok (.iconst 1, 1) := by decide +kernel
theorem zd_Mod_throwerItem_152 : decode zb_Mod_throwerItem 152 = .ok (.invokevirtual 270, 3) := by decide +kernel
theorem zd_Mod_throwerItem_155 : decode zb_Mod_throwerItem 155 = .ok (.aload_n 0, 1) := by decide +kernel
theorem zd_Mod_throwerItem_156 : decode zb_Mod_throwerItem 156 = .ok (.getfield 256, 3) := by decide +kernel
theorem zd_Mod_throwerItem_159 : decode zb_Mod_throwerItem 159 = .ok (.ifCond .ne 70, 3) := by decide +kernel
theorem zd_Mod_throwerItem_162 : decode zb_Mod_throwerItem 162 = .ok (.aload_n 0, 1) := by decide +kernel
theorem zd_Mod_throwerItem_163 : decode zb_Mod_throwerItem 163 = .ok (.iload_n 1, 1) := by decide +kernel
theorem zd_Mod_throwerItem_164 : decode zb_Mod_throwerItem 164 = .ok (.iload_n 2, 1) := by decide +kernel
theorem zd_Mod_throwerItem_165 : decode zb_Mod_throwerItem 165 = .ok (.invokevirtual 84, 3) := by decide +kernel
theorem zd_Mod_throwerItem_168 : decode zb_Mod_throwerItem 168 = .ok (.istore 7, 2) := by decide +kernel
theorem zd_Mod_throwerItem_170 : decode zb_Mod_throwerItem 170 = .ok (.aload_n 0, 1) := by decide +kernel
theorem zd_Mod_throwerItem_171 : decode zb_Mod_throwerItem 171 = .ok (.getfield 7, 3) := by decide +kernel
theorem zd_Mod_throwerItem_174 : decode zb_Mod_throwerItem 174 = .ok (.iload 7, 2) := by decide +kernel
theorem zd_Mod_throwerItem_176 : decode zb_Mod_throwerItem 176 = .ok (.iconst 2, 1) := by decide +kernel
theorem zd_Mod_throwerItem_177 : decode zb_Mod_throwerItem 177 = .ok (.invokestatic 70, 3) := by decide +kernel
theorem zd_Mod_throwerItem_180 : decode zb_Mod_throwerItem 180 = .ok (.iload_n 3, 1) := by decide +kernel
theorem zd_Mod_throwerItem_181 : decode zb_Mod_throwerItem 181 = .ok (.iastore, 1) := by decide +kernel
theorem zd_Mod_throwerItem_182 : decode zb_Mod_throwerItem 182 = .ok (.aload_n 0, 1) := by decide +kernel
theorem zd_Mod_throwerItem_183 : decode zb_Mod_throwerItem 183 = .ok (.getfield 7, 3) := by decide +kernel
theorem zd_Mod_throwerItem_186 : decode zb_Mod_throwerItem 186 = .ok (.iload 7, 2) := by decide +kernel
theorem zd_Mod_throwerItem_188 : decode zb_Mod_throwerItem 188 = .ok (.iconst 3, 1) := by decide +kernel
theorem zd_Mod_throwerItem_189 : decode zb_Mod_throwerItem 189 = .ok (.invokestatic 70, 3) := by decide +kernel
theorem zd_Mod_throwerItem_192 : decode zb_Mod_throwerItem 192 = .ok (.iload 4, 2) := by decide +kernel
theorem zd_Mod_throwerItem_194 : decode zb_Mod_throwerItem 194 = .ok (.iastore, 1) := by decide +kernel
theorem zd_Mod_throwerItem_195 : decode zb_Mod_throwerItem 195 = .ok (.aload_n 0, 1) := by decide +kernel
theorem zd_Mod_throwerItem_196 : decode zb_Mod_throwerItem 196 = .ok (.getfield 7, 3) := by decide +kernel
theorem zd_Mod_throwerItem_199 : decode zb_Mod_throwerItem 199 = .ok (.iload 7, 2) := by decide +kernel
theorem zd_Mod_throwerItem_201 : decode zb_Mod_throwerItem 201 = .ok (.iconst 5, 1) := by decide +kernel
theorem zd_Mod_throwerItem_202 : decode zb_Mod_throwerItem 202 = .ok (.invokestatic 70, 3) := by decide +kernel
theorem zd_Mod_throwerItem_205 : decode zb_Mod_throwerItem 205 = .ok (.iload 5, 2) := by decide +kernel
theorem zd_Mod_throwerItem_207 : decode zb_Mod_throwerItem 207 = .ok (.iastore, 1) := by decide +kernel
theorem zd_Mod_throwerItem_208 : decode zb_Mod_throwerItem 208 = .ok (.aload_n 0, 1) := by decide +kernel
theorem zd_Mod_throwerItem_209 : decode zb_Mod_throwerItem 209 = .ok (.getfield 7, 3) := by decide +kernel
theorem zd_Mod_throwerItem_212 : decode zb_Mod_throwerItem 212 = .ok (.iload 7, 2) := by decide +kernel
theorem zd_Mod_throwerItem_214 : decode zb_Mod_throwerItem 214 = .ok (.iconst 4, 1) := by decide +kernel
theorem zd_Mod_throwerItem_215 : decode zb_Mod_throwerItem 215 = .ok (.invokestatic 70, 3) := by decide +kernel
theorem zd_Mod_throwerItem_218 : decode zb_Mod_throwerItem 218 = .ok (.iload 6, 2) := by decide +kernel
theorem zd_Mod_throwerItem_220 : decode zb_Mod_throwerItem 220 = .ok (.ifCond .eq 7, 3) := by decide +kernel
theorem zd_Mod_throwerItem_223 : decode zb_Mod_throwerItem 223 = .ok (.iconst 0, 1) := by decide +kernel
theorem zd_Mod_throwerItem_224 : decode zb_Mod_throwerItem 224 = .ok (.goto 4, 3) := by decide +kernel
theorem zd_Mod_throwerItem_227 : decode zb_Mod_throwerItem 227 = .ok (.iconst 1, 1) := by decide +kernel
theorem zd_Mod_throwerItem_228 : decode zb_Mod_throwerItem 228 = .ok (.iastore, 1) := by decide +kernel
theorem zd_Mod_throwerItem_229 : decode zb_Mod_throwerItem 229 = .ok (.return_, 1) := by decide +kernel
set_option maxHeartbeats 4000000 in
theorem zl_Mod_throwerItem_L229 {p : Program} {l : Launch} {e : Env} {s : State} {m : MethodId} {args : Array Value} {below : List Frame} {meth : Method} {c : Code} {D : va_G} {cA : Nat → ClassId} {ad : Nat → Nat} {A : Nat → Prop} (B : zu_B p s m args c zb_Mod_throwerItem 8 "StonePostModel" D cA ad A) (hret : meth.sig.returnType = none) (hlk : meth.locks = false) {Y : LX} {res : IX} (X : IX) (H : Heap) (locs : List Loc) (ls : Array Slot) (hP : va_P D zu_cl (zu_pic cA ad X Y) H) (hS : va_S A s.heap H locs) (hl : lv_has ls 8 []) (hf : fn_Mod_throwerItem_L229 X = some res) : W p l e zR_Mod_throwerItem s m args below meth c H locs 0 0 (MQ below (zu_Qv D cA ad A res Y) args s 0 0 A) (F0 m 229 ls []) := by
  obtain ⟨hx, hb, hml, hown, hts, hST⟩ := id B
  unfold fn_Mod_throwerItem_L229 at hf
  obtain rfl := Option.some.inj hf
  exact zr_vret hx hb hret hlk hP hS zd_Mod_throwerItem_229
set_option maxHeartbeats 4000000 in
theorem zl_Mod_throwerItem_L228 {p : Program} {l : Launch} {e : Env} {s : State} {m : MethodId} {args : Array Value} {below : List Frame} {meth : Method} {c : Code} {D : va_G} {cA : Nat → ClassId} {ad : Nat → Nat} {A : Nat → Prop} (B : zu_B p s m args c zb_Mod_throwerItem 8 "StonePostModel" D cA ad A) (hret : meth.sig.returnType = none) (hlk : meth.locks = false) {Y : LX} {res : IX} (y0 : Int32) (y1 : Int32) (X : IX) (H : Heap) (locs : List Loc) (ls : Array Slot) (hP : va_P D zu_cl (zu_pic cA ad X Y) H) (hS : va_S A s.heap H locs) (hl : lv_has ls 8 []) (hf : fn_Mod_throwerItem_L228 y0 y1 X = some res) : W p l e zR_Mod_throwerItem s m args below meth c H locs 0 0 (MQ below (zu_Qv D cA ad A res Y) args s 0 0 A) (F0 m 228 ls [.int y0, .int y1, .ref (ad 96)]) := by
  obtain ⟨hx, hb, hml, hown, hts, hST⟩ := id B
  unfold fn_Mod_throwerItem_L228 at hf
  obtain ⟨hg55, hf⟩ := zu_gd_e hf
  refine zr_iast rfl B hP hS hf rfl (by decide) rfl hg55 zd_Mod_throwerItem_228 (fun X56 H locs hf hP hS => ?_)
  exact zl_Mod_throwerItem_L229 B hret hlk X56 _ _ _ hP hS (lv_sub hl [] rfl) hf
set_option maxHeartbeats 4000000 in
theorem zl_Mod_throwerItem_L155 {p : Program} {l : Launch} {e : Env} {s : State} {m : MethodId} {args : Array Value} {below : List Frame} {meth : Method} {c : Code} {D : va_G} {cA : Nat → ClassId} {ad : Nat → Nat} {A : Nat → Prop} (B : zu_B p s m args c zb_Mod_throwerItem 8 "StonePostModel" D cA ad A) (hret : meth.sig.returnType = none) (hlk : meth.locks = false) {Y : LX} {res : IX} (x1 : Int32) (x2 : Int32) (x3 : Int32) (x4 : Int32) (x5 : Int32) (x6 : Int32) (X : IX) (H : Heap) (locs : List Loc) (ls : Array Slot) (hP : va_P D zu_cl (zu_pic cA ad X Y) H) (hS : va_S A s.heap H locs) (hl : lv_has ls 8 [(0, .ref (ad 95)), (1, .int x1), (2, .int x2), (3, .int x3), (4, .int x4), (5, .int x5), (6, .int x6)]) (hf : fn_Mod_throwerItem_L155 x1 x2 x3 x4 x5 x6 X = some res) : W p l e zR_Mod_throwerItem s m args below meth c H locs 0 0 (MQ below (zu_Qv D cA ad A res Y) args s 0 0 A) (F0 m 155 ls []) := by
  obtain ⟨hx, hb, hml, hown, hts, hST⟩ := id B
  unfold fn_Mod_throwerItem_L155 at hf
  refine lv_aload_n hx hb zd_Mod_throwerItem_155 rfl (lv_at hl 0 rfl) ?_
  refine zg_Mod_isWrong B hP rfl zq_879 zd_Mod_throwerItem_156 ?_
  refine lv_if_ne (tgt := 229) hx hb zd_Mod_throwerItem_159 (by decide) (fun c36 => ?_) (fun c36 => ?_)
  · have hf := zu_f c36 hf
    exact zl_Mod_throwerItem_L229 B hret hlk X _ _ _ hP hS (lv_sub hl [] rfl) hf
  · have hf := zu_t c36 hf
    refine lv_aload_n hx hb zd_Mod_throwerItem_162 rfl (lv_at hl 0 rfl) ?_
    refine lv_iload_n hx hb zd_Mod_throwerItem_163 rfl (lv_at hl 1 rfl) ?_
    refine lv_iload_n hx hb zd_Mod_throwerItem_164 rfl (lv_at hl 2 rfl) ?_
    obtain ⟨v37, X38, hq39, hf⟩ := zu_b2_e hf
    refine zw_Mod_newThrower (rest := []) B hP hS hq39 zq_971 (Nat.le_of_ble_eq_true rfl) (Nat.le_of_ble_eq_true rfl) hl.1 rfl (Nat.le_of_ble_eq_true rfl) zd_Mod_throwerItem_165 (by decide) (fun H locs hP hS => ?_)
    clear hq39
    refine lv_istore (lv' := [(7, .int v37), (0, .ref (ad 95)), (1, .int x1), (2, .int x2), (3, .int x3), (4, .int x4), (5, .int x5), (6, .int x6)]) hx hb zd_Mod_throwerItem_168 hl (by decide) rfl (fun ls hl => ?_)
    refine lv_aload_n hx hb zd_Mod_throwerItem_170 rfl (lv_at hl 1 rfl) ?_
    refine zg_Mod_s B hP rfl zq_861 zd_Mod_throwerItem_171 ?_
    refine lv_iload hx hb zd_Mod_throwerItem_174 (lv_at hl 0 rfl) ?_
    refine lv_iconst (v := 2) hx hb zd_Mod_throwerItem_176 (by decide) ?_
    obtain ⟨v40, ehq41, hf⟩ := zu_nx_e hf
    have hq41 := ehq41.symm
    refine zw_Mod_at (rest := [.ref (ad 96)]) B hP hS hq41 zq_966 (Nat.le_of_ble_eq_true rfl) (Nat.le_of_ble_eq_true rfl) hl.1 rfl (Nat.le_of_ble_eq_true rfl) zd_Mod_throwerItem_177 (by decide) (fun H locs hP hS => ?_)
    clear hq41 ehq41
    refine lv_iload_n hx hb zd_Mod_throwerItem_180 rfl (lv_at hl 4 rfl) ?_
    obtain ⟨hg42, hf⟩ := zu_gd_e hf
    refine zr_iast rfl B hP hS hf rfl (by decide) rfl hg42 zd_Mod_throwerItem_181 (fun X43 H locs hf hP hS => ?_)
    refine lv_aload_n hx hb zd_Mod_throwerItem_182 rfl (lv_at hl 1 rfl) ?_
    refine zg_Mod_s B hP rfl zq_861 zd_Mod_throwerItem_183 ?_
    refine lv_iload hx hb zd_Mod_throwerItem_186 (lv_at hl 0 rfl) ?_
    refine lv_iconst (v := 3) hx hb zd_Mod_throwerItem_188 (by decide) ?_
    obtain ⟨v44, ehq45, hf⟩ := zu_nx_e hf
    have hq45 := ehq45.symm
    refine zw_Mod_at (rest := [.ref (ad 96)]) B hP hS hq45 zq_966 (Nat.le_of_ble_eq_true rfl) (Nat.le_of_ble_eq_true rfl) hl.1 rfl (Nat.le_of_ble_eq_true rfl) zd_Mod_throwerItem_189 (by decide) (fun H locs hP hS => ?_)
    clear hq45 ehq45
    refine lv_iload hx hb zd_Mod_throwerItem_192 (lv_at hl 5 rfl) ?_
    obtain ⟨hg46, hf⟩ := zu_gd_e hf
    refine zr_iast rfl B hP hS hf rfl (by decide) rfl hg46 zd_Mod_throwerItem_194 (fun X47 H locs hf hP hS => ?_)
    refine lv_aload_n hx hb zd_Mod_throwerItem_195 rfl (lv_at hl 1 rfl) ?_
    refine zg_Mod_s B hP rfl zq_861 zd_Mod_throwerItem_196 ?_
    refine lv_iload hx hb zd_Mod_throwerItem_199 (lv_at hl 0 rfl) ?_
    refine lv_iconst (v := 5) hx hb zd_Mod_throwerItem_201 (by decide) ?_
    obtain ⟨v48, ehq49, hf⟩ := zu_nx_e hf
    have hq49 := ehq49.symm
    refine zw_Mod_at (rest := [.ref (ad 96)]) B hP hS hq49 zq_966 (Nat.le_of_ble_eq_true rfl) (Nat.le_of_ble_eq_true rfl) hl.1 rfl (Nat.le_of_ble_eq_true rfl) zd_Mod_throwerItem_202 (by decide) (fun H locs hP hS => ?_)
    clear hq49 ehq49
    refine lv_iload hx hb zd_Mod_throwerItem_205 (lv_at hl 6 rfl) ?_
    obtain ⟨hg50, hf⟩ := zu_gd_e hf
    refine zr_iast rfl B hP hS hf rfl (by decide) rfl hg50 zd_Mod_throwerItem_207 (fun X51 H locs hf hP hS => ?_)
    refine lv_aload_n hx hb zd_Mod_throwerItem_208 rfl (lv_at hl 1 rfl) ?_
    refine zg_Mod_s B hP rfl zq_861 zd_Mod_throwerItem_209 ?_
    refine lv_iload hx hb zd_Mod_throwerItem_212 (lv_at hl 0 rfl) ?_
    refine lv_iconst (v := 4) hx hb zd_Mod_throwerItem_214 (by decide) ?_
    obtain ⟨v52, ehq53, hf⟩ := zu_nx_e hf
    have hq53 := ehq53.symm
    refine zw_Mod_at (rest := [.ref (ad 96)]) B hP hS hq53 zq_966 (Nat.le_of_ble_eq_true rfl) (Nat.le_of_ble_eq_true rfl) hl.1 rfl (Nat.le_of_ble_eq_true rfl) zd_Mod_throwerItem_215 (by decide) (fun H locs hP hS => ?_)
    clear hq53 ehq53
    refine lv_iload hx hb zd_Mod_throwerItem_218 (lv_at hl 7 rfl) ?_
    refine lv_if_eq (tgt := 227) hx hb zd_Mod_throwerItem_220 (by decide) (fun c54 => ?_) (fun c54 => ?_)
    · have hf := zu_t c54 hf
      refine lv_iconst (v := 1) hx hb zd_Mod_throwerItem_227 (by decide) ?_
      exact zl_Mod_throwerItem_L228 B hret hlk (1 : Int32) v52 X51 _ _ _ hP hS (lv_sub hl [] rfl) hf
    · have hf := zu_f c54 hf
      refine lv_iconst (v := 0) hx hb zd_Mod_throwerItem_223 (by decide) ?_
      refine lv_goto (tgt := 228) hx hb zd_Mod_throwerItem_224 (by decide) ?_
      exact zl_Mod_throwerItem_L228 B hret hlk (0 : Int32) v52 X51 _ _ _ hP hS (lv_sub hl [] rfl) hf
set_option maxHeartbeats 4000000 in
theorem zl_Mod_throwerItem_L143 {p : Program} {l : Launch} {e : Env} {s : State} {m : MethodId} {args : Array Value} {below : List Frame} {meth : Method} {c : Code} {D : va_G} {cA : Nat → ClassId} {ad : Nat → Nat} {A : Nat → Prop} (B : zu_B p s m args c zb_Mod_throwerItem 8 "StonePostModel" D cA ad A) (hret : meth.sig.returnType = none) (hlk : meth.locks = false) {Y : LX} {res : IX} (x1 : Int32) (x2 : Int32) (x3 : Int32) (x4 : Int32) (x5 : Int32) (y0 : Int32) (X : IX) (H : Heap) (locs : List Loc) (ls : Array Slot) (hP : va_P D zu_cl (zu_pic cA ad X Y) H) (hS : va_S A s.heap H locs) (hl : lv_has ls 8 [(0, .ref (ad 95)), (1, .int x1), (2, .int x2), (3, .int x3), (4, .int x4), (5, .int x5)]) (hf : fn_Mod_throwerItem_L143 x1 x2 x3 x4 x5 y0 X = some res) : W p l e zR_Mod_throwerItem s m args below meth c H locs 0 0 (MQ below (zu_Qv D cA ad A res Y) args s 0 0 A) (F0 m 143 ls [.int y0]) := by
  obtain ⟨hx, hb, hml, hown, hts, hST⟩ := id B
  unfold fn_Mod_throwerItem_L143 at hf
  refine lv_istore (lv' := [(6, .int y0), (0, .ref (ad 95)), (1, .int x1), (2, .int x2), (3, .int x3), (4, .int x4), (5, .int x5)]) hx hb zd_Mod_throwerItem_143 hl (by decide) rfl (fun ls hl => ?_)
  refine lv_iload hx hb zd_Mod_throwerItem_145 (lv_at hl 0 rfl) ?_
  refine lv_if_eq (tgt := 155) hx hb zd_Mod_throwerItem_147 (by decide) (fun c33 => ?_) (fun c33 => ?_)
  · have hf := zu_t c33 hf
    exact zl_Mod_throwerItem_L155 B hret hlk x1 x2 x3 x4 x5 y0 X _ _ _ hP hS (lv_sub hl [1, 2, 3, 4, 5, 6, 0] rfl) hf
  · have hf := zu_f c33 hf
    refine lv_aload_n hx hb zd_Mod_throwerItem_150 rfl (lv_at hl 1 rfl) ?_
    refine lv_iconst (v := 1) hx hb zd_Mod_throwerItem_151 (by decide) ?_
    obtain ⟨X34, hq35, hf⟩ := zu_b1_e hf
    refine zw_Mod_needs (rest := []) B hP hS hq35 zq_1293 (Nat.le_of_ble_eq_true rfl) (Nat.le_of_ble_eq_true rfl) hl.1 rfl (Nat.le_of_ble_eq_true rfl) zd_Mod_throwerItem_152 (by decide) (fun H locs hP hS => ?_)
    clear hq35
    exact zl_Mod_throwerItem_L155 B hret hlk x1 x2 x3 x4 x5 y0 X34 _ _ _ hP hS (lv_sub hl [1, 2, 3, 4, 5, 6, 0] rfl) hf
set_option maxHeartbeats 4000000 in
theorem zl_Mod_throwerItem_L117 {p : Program} {l : Launch} {e : Env} {s : State} {m : MethodId} {args : Array Value} {below : List Frame} {meth : Method} {c : Code} {D : va_G} {cA : Nat → ClassId} {ad : Nat → Nat} {A : Nat → Prop} (B : zu_B p s m args c zb_Mod_throwerItem 8 "StonePostModel" D cA ad A) (hret : meth.sig.returnType = none) (hlk : meth.locks = false) {Y : LX} {res : IX} (x1 : Int32) (x2 : Int32) (x3 : Int32) (x4 : Int32) (y0 : Int32) (X : IX) (H : Heap) (locs : List Loc) (ls : Array Slot) (hP : va_P D zu_cl (zu_pic cA ad X Y) H) (hS : va_S A s.heap H locs) (hl : lv_has ls 8 [(0, .ref (ad 95)), (1, .int x1), (2, .int x2), (3, .int x3), (4, .int x4)]) (hf : fn_Mod_throwerItem_L117 x1 x2 x3 x4 y0 X = some res) : W p l e zR_Mod_throwerItem s m args below meth c H locs 0 0 (MQ below (zu_Qv D cA ad A res Y) args s 0 0 A) (F0 m 117 ls [.int y0, .ref (ad 95)]) := by
  obtain ⟨hx, hb, hml, hown, hts, hST⟩ := id B
  unfold fn_Mod_throwerItem_L117 at hf
  refine lv_iconst (v := 0) hx hb zd_Mod_throwerItem_117 (by decide) ?_
  refine lv_bipush (v := 12) hx hb zd_Mod_throwerItem_118 (by decide) ?_
  refine lv_bipush (v := 8) hx hb zd_Mod_throwerItem_120 (by decide) ?_
  obtain ⟨v27, X28, hq29, hf⟩ := zu_b2_e hf
  refine zw_Mod_perhaps (rest := []) B hP hS hq29 zq_1302 (Nat.le_of_ble_eq_true rfl) (Nat.le_of_ble_eq_true rfl) hl.1 rfl (Nat.le_of_ble_eq_true rfl) zd_Mod_throwerItem_122 (by decide) (fun H locs hP hS => ?_)
  clear hq29
  refine lv_istore (lv' := [(5, .int v27), (0, .ref (ad 95)), (1, .int x1), (2, .int x2), (3, .int x3), (4, .int x4)]) hx hb zd_Mod_throwerItem_125 hl (by decide) rfl (fun ls hl => ?_)
  refine lv_aload_n hx hb zd_Mod_throwerItem_127 rfl (lv_at hl 1 rfl) ?_
  obtain ⟨v30, hq31, hf⟩ := zu_b1_e hf
  refine zw_Mod_word (rest := []) B hP hS hq31 zq_1268 (Nat.le_of_ble_eq_true rfl) (Nat.le_of_ble_eq_true rfl) hl.1 rfl (Nat.le_of_ble_eq_true rfl) zd_Mod_throwerItem_128 (by decide) (fun H locs hP hS => ?_)
  clear hq31
  refine lv_ldc2 (v := 759412) hx hb hown (hts _ zq_1318) zd_Mod_throwerItem_131 ?_
  refine W.lcmp hx hb zd_Mod_throwerItem_134 ?_
  refine lv_if_ne (tgt := 142) hx hb zd_Mod_throwerItem_135 (by decide) (fun c32 => ?_) (fun c32 => ?_)
  · have hf := zu_f c32 hf
    refine lv_iconst (v := 0) hx hb zd_Mod_throwerItem_142 (by decide) ?_
    exact zl_Mod_throwerItem_L143 B hret hlk x1 x2 x3 x4 v27 (0 : Int32) X28 _ _ _ hP hS (lv_sub hl [1, 2, 3, 4, 5, 0] rfl) hf
  · have hf := zu_t c32 hf
    refine lv_iconst (v := 1) hx hb zd_Mod_throwerItem_138 (by decide) ?_
    refine lv_goto (tgt := 143) hx hb zd_Mod_throwerItem_139 (by decide) ?_
    exact zl_Mod_throwerItem_L143 B hret hlk x1 x2 x3 x4 v27 (1 : Int32) X28 _ _ _ hP hS (lv_sub hl [1, 2, 3, 4, 5, 0] rfl) hf
set_option maxHeartbeats 4000000 in
theorem zl_Mod_throwerItem_L91 {p : Program} {l : Launch} {e : Env} {s : State} {m : MethodId} {args : Array Value} {below : List Frame} {meth : Method} {c : Code} {D : va_G} {cA : Nat → ClassId} {ad : Nat → Nat} {A : Nat → Prop} (B : zu_B p s m args c zb_Mod_throwerItem 8 "StonePostModel" D cA ad A) (hret : meth.sig.returnType = none) (hlk : meth.locks = false) {Y : LX} {res : IX} (x1 : Int32) (x2 : Int32) (x3 : Int32) (y0 : Int32) (X : IX) (H : Heap) (locs : List Loc) (ls : Array Slot) (hP : va_P D zu_cl (zu_pic cA ad X Y) H) (hS : va_S A s.heap H locs) (hl : lv_has ls 8 [(0, .ref (ad 95)), (1, .int x1), (2, .int x2), (3, .int x3)]) (hf : fn_Mod_throwerItem_L91 x1 x2 x3 y0 X = some res) : W p l e zR_Mod_throwerItem s m args below meth c H locs 0 0 (MQ below (zu_Qv D cA ad A res Y) args s 0 0 A) (F0 m 91 ls [.int y0, .ref (ad 95)]) := by
  obtain ⟨hx, hb, hml, hown, hts, hST⟩ := id B
  unfold fn_Mod_throwerItem_L91 at hf
  refine lv_iconst (v := 1) hx hb zd_Mod_throwerItem_91 (by decide) ?_
  refine lv_bipush (v := 12) hx hb zd_Mod_throwerItem_92 (by decide) ?_
  refine lv_iconst (v := 5) hx hb zd_Mod_throwerItem_94 (by decide) ?_
  obtain ⟨v21, X22, hq23, hf⟩ := zu_b2_e hf
  refine zw_Mod_perhaps (rest := []) B hP hS hq23 zq_1302 (Nat.le_of_ble_eq_true rfl) (Nat.le_of_ble_eq_true rfl) hl.1 rfl (Nat.le_of_ble_eq_true rfl) zd_Mod_throwerItem_95 (by decide) (fun H locs hP hS => ?_)
  clear hq23
  refine lv_istore (lv' := [(4, .int v21), (0, .ref (ad 95)), (1, .int x1), (2, .int x2), (3, .int x3)]) hx hb zd_Mod_throwerItem_98 hl (by decide) rfl (fun ls hl => ?_)
  refine lv_aload_n hx hb zd_Mod_throwerItem_100 rfl (lv_at hl 1 rfl) ?_
  refine lv_aload_n hx hb zd_Mod_throwerItem_101 rfl (lv_at hl 1 rfl) ?_
  obtain ⟨v24, hq25, hf⟩ := zu_b1_e hf
  refine zw_Mod_word (rest := [.ref (ad 95)]) B hP hS hq25 zq_1268 (Nat.le_of_ble_eq_true rfl) (Nat.le_of_ble_eq_true rfl) hl.1 rfl (Nat.le_of_ble_eq_true rfl) zd_Mod_throwerItem_102 (by decide) (fun H locs hP hS => ?_)
  clear hq25
  refine lv_ldc2 (v := 495763) hx hb hown (hts _ zq_1317) zd_Mod_throwerItem_105 ?_
  refine W.lcmp hx hb zd_Mod_throwerItem_108 ?_
  refine lv_if_ne (tgt := 116) hx hb zd_Mod_throwerItem_109 (by decide) (fun c26 => ?_) (fun c26 => ?_)
  · have hf := zu_f c26 hf
    refine lv_iconst (v := 0) hx hb zd_Mod_throwerItem_116 (by decide) ?_
    exact zl_Mod_throwerItem_L117 B hret hlk x1 x2 x3 v21 (0 : Int32) X22 _ _ _ hP hS (lv_sub hl [1, 2, 3, 4, 0] rfl) hf
  · have hf := zu_t c26 hf
    refine lv_iconst (v := 1) hx hb zd_Mod_throwerItem_112 (by decide) ?_
    refine lv_goto (tgt := 117) hx hb zd_Mod_throwerItem_113 (by decide) ?_
    exact zl_Mod_throwerItem_L117 B hret hlk x1 x2 x3 v21 (1 : Int32) X22 _ _ _ hP hS (lv_sub hl [1, 2, 3, 4, 0] rfl) hf
set_option maxHeartbeats 4000000 in
theorem zl_Mod_throwerItem_L66 {p : Program} {l : Launch} {e : Env} {s : State} {m : MethodId} {args : Array Value} {below : List Frame} {meth : Method} {c : Code} {D : va_G} {cA : Nat → ClassId} {ad : Nat → Nat} {A : Nat → Prop} (B : zu_B p s m args c zb_Mod_throwerItem 8 "StonePostModel" D cA ad A) (hret : meth.sig.returnType = none) (hlk : meth.locks = false) {Y : LX} {res : IX} (x1 : Int32) (x2 : Int32) (y0 : Int32) (X : IX) (H : Heap) (locs : List Loc) (ls : Array Slot) (hP : va_P D zu_cl (zu_pic cA ad X Y) H) (hS : va_S A s.heap H locs) (hl : lv_has ls 8 [(0, .ref (ad 95)), (1, .int x1), (2, .int x2)]) (hf : fn_Mod_throwerItem_L66 x1 x2 y0 X = some res) : W p l e zR_Mod_throwerItem s m args below meth c H locs 0 0 (MQ below (zu_Qv D cA ad A res Y) args s 0 0 A) (F0 m 66 ls [.int y0, .ref (ad 95)]) := by
  obtain ⟨hx, hb, hml, hown, hts, hST⟩ := id B
  unfold fn_Mod_throwerItem_L66 at hf
  refine lv_iconst (v := 1) hx hb zd_Mod_throwerItem_66 (by decide) ?_
  refine lv_bipush (v := 9) hx hb zd_Mod_throwerItem_67 (by decide) ?_
  refine lv_iconst (v := 2) hx hb zd_Mod_throwerItem_69 (by decide) ?_
  obtain ⟨v15, X16, hq17, hf⟩ := zu_b2_e hf
  refine zw_Mod_perhaps (rest := []) B hP hS hq17 zq_1302 (Nat.le_of_ble_eq_true rfl) (Nat.le_of_ble_eq_true rfl) hl.1 rfl (Nat.le_of_ble_eq_true rfl) zd_Mod_throwerItem_70 (by decide) (fun H locs hP hS => ?_)
  clear hq17
  refine lv_istore_n (lv' := [(3, .int v15), (0, .ref (ad 95)), (1, .int x1), (2, .int x2)]) hx hb zd_Mod_throwerItem_73 rfl hl (by decide) rfl (fun ls hl => ?_)
  refine lv_aload_n hx hb zd_Mod_throwerItem_74 rfl (lv_at hl 1 rfl) ?_
  refine lv_aload_n hx hb zd_Mod_throwerItem_75 rfl (lv_at hl 1 rfl) ?_
  obtain ⟨v18, hq19, hf⟩ := zu_b1_e hf
  refine zw_Mod_word (rest := [.ref (ad 95)]) B hP hS hq19 zq_1268 (Nat.le_of_ble_eq_true rfl) (Nat.le_of_ble_eq_true rfl) hl.1 rfl (Nat.le_of_ble_eq_true rfl) zd_Mod_throwerItem_76 (by decide) (fun H locs hP hS => ?_)
  clear hq19
  refine lv_ldc2 (v := 6194) hx hb hown (hts _ zq_1316) zd_Mod_throwerItem_79 ?_
  refine W.lcmp hx hb zd_Mod_throwerItem_82 ?_
  refine lv_if_ne (tgt := 90) hx hb zd_Mod_throwerItem_83 (by decide) (fun c20 => ?_) (fun c20 => ?_)
  · have hf := zu_f c20 hf
    refine lv_iconst (v := 0) hx hb zd_Mod_throwerItem_90 (by decide) ?_
    exact zl_Mod_throwerItem_L91 B hret hlk x1 x2 v15 (0 : Int32) X16 _ _ _ hP hS (lv_sub hl [1, 2, 3, 0] rfl) hf
  · have hf := zu_t c20 hf
    refine lv_iconst (v := 1) hx hb zd_Mod_throwerItem_86 (by decide) ?_
    refine lv_goto (tgt := 91) hx hb zd_Mod_throwerItem_87 (by decide) ?_
    exact zl_Mod_throwerItem_L91 B hret hlk x1 x2 v15 (1 : Int32) X16 _ _ _ hP hS (lv_sub hl [1, 2, 3, 0] rfl) hf
set_option maxHeartbeats 4000000 in
theorem zl_Mod_throwerItem_L37 {p : Program} {l : Launch} {e : Env} {s : State} {m : MethodId} {args : Array Value} {below : List Frame} {meth : Method} {c : Code} {D : va_G} {cA : Nat → ClassId} {ad : Nat → Nat} {A : Nat → Prop} (B : zu_B p s m args c zb_Mod_throwerItem 8 "StonePostModel" D cA ad A) (hret : meth.sig.returnType = none) (hlk : meth.locks = false) {Y : LX} {res : IX} (x1 : Int32) (y0 : Int32) (X : IX) (H : Heap) (locs : List Loc) (ls : Array Slot) (hP : va_P D zu_cl (zu_pic cA ad X Y) H) (hS : va_S A s.heap H locs) (hl : lv_has ls 8 [(0, .ref (ad 95)), (1, .int x1)]) (hf : fn_Mod_throwerItem_L37 x1 y0 X = some res) : W p l e zR_Mod_throwerItem s m args below meth c H locs 0 0 (MQ below (zu_Qv D cA ad A res Y) args s 0 0 A) (F0 m 37 ls [.int y0, .ref (ad 95)]) := by
  obtain ⟨hx, hb, hml, hown, hts, hST⟩ := id B
  unfold fn_Mod_throwerItem_L37 at hf
  obtain ⟨X7, hq8, hf⟩ := zu_b1_e hf
  refine zw_Mod_needs (rest := []) B hP hS hq8 zq_1293 (Nat.le_of_ble_eq_true rfl) (Nat.le_of_ble_eq_true rfl) hl.1 rfl (Nat.le_of_ble_eq_true rfl) zd_Mod_throwerItem_37 (by decide) (fun H locs hP hS => ?_)
  clear hq8
  refine lv_aload_n hx hb zd_Mod_throwerItem_40 rfl (lv_at hl 0 rfl) ?_
  obtain ⟨X9, hq10, hf⟩ := zu_b1_e hf
  refine zw_Mod_freeCell (rest := []) B hP hS hq10 zq_1311 (Nat.le_of_ble_eq_true rfl) (Nat.le_of_ble_eq_true rfl) hl.1 rfl (Nat.le_of_ble_eq_true rfl) zd_Mod_throwerItem_41 (by decide) (fun H locs hP hS => ?_)
  clear hq10
  refine lv_aload_n hx hb zd_Mod_throwerItem_44 rfl (lv_at hl 0 rfl) ?_
  refine zg_Mod_value B hP rfl zq_878 zd_Mod_throwerItem_45 ?_
  refine zr_nxi hf (fun v11 hf => ?_)
  refine lv_istore_n (lv' := [(2, .int v11), (0, .ref (ad 95)), (1, .int x1)]) hx hb zd_Mod_throwerItem_48 rfl hl (by decide) rfl (fun ls hl => ?_)
  refine lv_aload_n hx hb zd_Mod_throwerItem_49 rfl (lv_at hl 1 rfl) ?_
  refine lv_aload_n hx hb zd_Mod_throwerItem_50 rfl (lv_at hl 1 rfl) ?_
  obtain ⟨v12, hq13, hf⟩ := zu_b1_e hf
  refine zw_Mod_word (rest := [.ref (ad 95)]) B hP hS hq13 zq_1268 (Nat.le_of_ble_eq_true rfl) (Nat.le_of_ble_eq_true rfl) hl.1 rfl (Nat.le_of_ble_eq_true rfl) zd_Mod_throwerItem_51 (by decide) (fun H locs hP hS => ?_)
  clear hq13
  refine lv_ldc2 (v := 463922) hx hb hown (hts _ zq_1315) zd_Mod_throwerItem_54 ?_
  refine W.lcmp hx hb zd_Mod_throwerItem_57 ?_
  refine lv_if_ne (tgt := 65) hx hb zd_Mod_throwerItem_58 (by decide) (fun c14 => ?_) (fun c14 => ?_)
  · have hf := zu_f c14 hf
    refine lv_iconst (v := 0) hx hb zd_Mod_throwerItem_65 (by decide) ?_
    exact zl_Mod_throwerItem_L66 B hret hlk x1 v11 (0 : Int32) X9 _ _ _ hP hS (lv_sub hl [1, 2, 0] rfl) hf
  · have hf := zu_t c14 hf
    refine lv_iconst (v := 1) hx hb zd_Mod_throwerItem_61 (by decide) ?_
    refine lv_goto (tgt := 66) hx hb zd_Mod_throwerItem_62 (by decide) ?_
    exact zl_Mod_throwerItem_L66 B hret hlk x1 v11 (1 : Int32) X9 _ _ _ hP hS (lv_sub hl [1, 2, 0] rfl) hf
set_option maxHeartbeats 4000000 in
theorem zl_Mod_throwerItem_L17 {p : Program} {l : Launch} {e : Env} {s : State} {m : MethodId} {args : Array Value} {below : List Frame} {meth : Method} {c : Code} {D : va_G} {cA : Nat → ClassId} {ad : Nat → Nat} {A : Nat → Prop} (B : zu_B p s m args c zb_Mod_throwerItem 8 "StonePostModel" D cA ad A) (hret : meth.sig.returnType = none) (hlk : meth.locks = false) {Y : LX} {res : IX} (x1 : Int32) (y0 : Int32) (X : IX) (H : Heap) (locs : List Loc) (ls : Array Slot) (hP : va_P D zu_cl (zu_pic cA ad X Y) H) (hS : va_S A s.heap H locs) (hl : lv_has ls 8 [(0, .ref (ad 95)), (1, .int x1)]) (hf : fn_Mod_throwerItem_L17 x1 y0 X = some res) : W p l e zR_Mod_throwerItem s m args below meth c H locs 0 0 (MQ below (zu_Qv D cA ad A res Y) args s 0 0 A) (F0 m 17 ls [.int y0, .ref (ad 95)]) := by
  obtain ⟨hx, hb, hml, hown, hts, hST⟩ := id B
  unfold fn_Mod_throwerItem_L17 at hf
  obtain ⟨X2, hq3, hf⟩ := zu_b1_e hf
  refine zw_Mod_needs (rest := []) B hP hS hq3 zq_1293 (Nat.le_of_ble_eq_true rfl) (Nat.le_of_ble_eq_true rfl) hl.1 rfl (Nat.le_of_ble_eq_true rfl) zd_Mod_throwerItem_17 (by decide) (fun H locs hP hS => ?_)
  clear hq3
  refine lv_aload_n hx hb zd_Mod_throwerItem_20 rfl (lv_at hl 0 rfl) ?_
  refine lv_aload_n hx hb zd_Mod_throwerItem_21 rfl (lv_at hl 0 rfl) ?_
  obtain ⟨v4, hq5, hf⟩ := zu_b1_e hf
  refine zw_Mod_word (rest := [.ref (ad 95)]) B hP hS hq5 zq_1268 (Nat.le_of_ble_eq_true rfl) (Nat.le_of_ble_eq_true rfl) hl.1 rfl (Nat.le_of_ble_eq_true rfl) zd_Mod_throwerItem_22 (by decide) (fun H locs hP hS => ?_)
  clear hq5
  refine lv_ldc2 (v := 52) hx hb hown (hts _ zq_1310) zd_Mod_throwerItem_25 ?_
  refine W.lcmp hx hb zd_Mod_throwerItem_28 ?_
  refine lv_if_ne (tgt := 36) hx hb zd_Mod_throwerItem_29 (by decide) (fun c6 => ?_) (fun c6 => ?_)
  · have hf := zu_f c6 hf
    refine lv_iconst (v := 0) hx hb zd_Mod_throwerItem_36 (by decide) ?_
    exact zl_Mod_throwerItem_L37 B hret hlk x1 (0 : Int32) X2 _ _ _ hP hS (lv_sub hl [0, 1] rfl) hf
  · have hf := zu_t c6 hf
    refine lv_iconst (v := 1) hx hb zd_Mod_throwerItem_32 (by decide) ?_
    refine lv_goto (tgt := 37) hx hb zd_Mod_throwerItem_33 (by decide) ?_
    exact zl_Mod_throwerItem_L37 B hret hlk x1 (1 : Int32) X2 _ _ _ hP hS (lv_sub hl [0, 1] rfl) hf
set_option maxHeartbeats 4000000 in
theorem zl_Mod_throwerItem {p : Program} {l : Launch} {e : Env} {s : State} {m : MethodId} {args : Array Value} {below : List Frame} {meth : Method} {c : Code} {D : va_G} {cA : Nat → ClassId} {ad : Nat → Nat} {A : Nat → Prop} (B : zu_B p s m args c zb_Mod_throwerItem 8 "StonePostModel" D cA ad A) (hret : meth.sig.returnType = none) (hlk : meth.locks = false) {Y : LX} {res : IX} {a1 : Int32} {X : IX} (H : Heap) (locs : List Loc) (ls : Array Slot) (hP : va_P D zu_cl (zu_pic cA ad X Y) H) (hS : va_S A s.heap H locs) (hl : lv_has ls 8 [(0, .ref (ad 95)), (1, .int a1)]) (hf : fn_Mod_throwerItem a1 X = some res) : W p l e zR_Mod_throwerItem s m args below meth c H locs 0 0 (MQ below (zu_Qv D cA ad A res Y) args s 0 0 A) (F0 m 0 ls []) := by
  obtain ⟨hx, hb, hml, hown, hts, hST⟩ := id B
  unfold fn_Mod_throwerItem at hf
  refine lv_aload_n hx hb zd_Mod_throwerItem_0 rfl (lv_at hl 0 rfl) ?_
  refine lv_aload_n hx hb zd_Mod_throwerItem_1 rfl (lv_at hl 0 rfl) ?_
  refine zg_Mod_s B hP rfl zq_861 zd_Mod_throwerItem_2 ?_
  refine lv_iconst (v := 1) hx hb zd_Mod_throwerItem_5 (by decide) ?_
  refine zr_iald (j := 1) (by decide) B hP rfl (by decide) rfl (by decide) zd_Mod_throwerItem_6 ?_
  refine lv_bipush (v := 10) hx hb zd_Mod_throwerItem_7 (by decide) ?_
  refine lv_icmp_ge (tgt := 16) hx hb zd_Mod_throwerItem_9 (by decide) (fun c1 => ?_) (fun c1 => ?_)
  · have hf := zu_t c1 hf
    refine lv_iconst (v := 0) hx hb zd_Mod_throwerItem_16 (by decide) ?_
    exact zl_Mod_throwerItem_L17 B hret hlk a1 (0 : Int32) X _ _ _ hP hS (lv_sub hl [0, 1] rfl) hf
  · have hf := zu_f c1 hf
    refine lv_iconst (v := 1) hx hb zd_Mod_throwerItem_12 (by decide) ?_
    refine lv_goto (tgt := 17) hx hb zd_Mod_throwerItem_13 (by decide) ?_
    exact zl_Mod_throwerItem_L17 B hret hlk a1 (1 : Int32) X _ _ _ hP hS (lv_sub hl [0, 1] rfl) hf
theorem zC_Mod_throwerItem (l : Launch) {D : va_G} {cA : Nat → ClassId} {ad : Nat → Nat} {A : Nat → Prop} {a1 : Int32} {X : IX} {Y : LX} {res : IX} (hf : fn_Mod_throwerItem a1 X = some res) : Met l zm_Mod_throwerItem (zu_ws zm_Mod_throwerItem zb_Mod_throwerItem 8 none) zR_Mod_throwerItem (va_Pc [.ref (ad 95), .int a1] (zu_Pre D cA ad A X Y)) (zu_Qv D cA ad A res Y) 0 0 A := by
  refine Met.ofW (cc := zb_Mod_throwerItem) (maxL := 8) (ret := none) (by decide +kernel) rfl ?_
  intro p e s m args below meth c s₁ B0 hml hv
  obtain ⟨rfl, hP, hST⟩ := hv
  have B : zu_B p s m _ c zb_Mod_throwerItem 8 "StonePostModel" D cA ad A := ⟨B0.exec, B0.bytes, hml, findClass_of_methodNamed B0.named, (fun w hw => atoms_spec (ws := zu_ws zm_Mod_throwerItem zb_Mod_throwerItem 8 none) B0.pre w (List.mem_cons_of_mem _ hw)), hST⟩
  have hl := lv_entry ([.ref (ad 95), .int a1]) (n := 8) (Nat.le_of_ble_eq_true rfl)
  rw [lg_entry_eq]
  generalize (lg_sl ([.ref (ad 95), .int a1]) ++ List.replicate (8 - (lg_sl ([.ref (ad 95), .int a1])).length) Slot.unset).toArray = ls at hl ⊢
  exact zl_Mod_throwerItem B B0.returns B0.notSynchronized s.heap [] ls hP va_S.rf hl  hf
theorem zw_Mod_throwerItem {p : Program} {l : Launch} {e : Env} {R : Room} {s : State} {m : MethodId} {args : Array Value} {below : List Frame} {meth : Method} {c : Code} {H : Heap} {locs : List Loc} {cells slots : Nat} {Q : State → Prop} {cc : ByteArray} {pc nL : Nat} {ls : Array Slot} {rest st0 : List Value} {D : va_G} {cA : Nat → ClassId} {ad : Nat → Nat} {A : Nat → Prop} {X : IX} {Y : LX} {own : String} {index : Nat} {a1 : Int32} {X1 : IX} (B : zu_B p s m args c cc nL own D cA ad A) (hP : va_P D zu_cl (zu_pic cA ad X Y) H) (hS : va_S A s.heap H locs) (hq : fn_Mod_throwerItem a1 X = some X1) (m1 : Cond.methodLink own index zm_Mod_throwerItem ∈ zu_TB) (hR1 : 6 + 1 ≤ R.frames) (hR2 : 8 + (8 + 11) + 137 ≤ R.locals) (hsz : ls.size = nL) (hst : st0 = .int a1 :: .ref (ad 95) :: rest) (hw : (rest.map fun v => v.category).sum ≤ 8) (hdg : decode cc pc = .ok (.invokevirtual index, 3)) (h00 : cells ≤ R.cells ∧ slots ≤ R.slots) (kk : ∀ (H1 : Heap) (locs1 : List Loc), va_P D zu_cl (zu_pic cA ad X1 Y) H1 → va_S A s.heap H1 locs1 → W p l e R s m args below meth c H1 locs1 cells slots Q (F0 m (pc + 3) ls (rest))) : W p l e R s m args below meth c H locs cells slots Q (F0 m pc ls st0) := by
  subst hst
  exact zr_cVv (As := [.int a1]) (rest := rest) (n := 1) (C := "StonePostModel") (T := zt_Mod) (N := 23) B hP hS (zC_Mod_throwerItem l  hq) (K := 7) rfl (by decide) (by decide) rfl rfl m1 zq_1308 zqP_59 zq_8 zq_1309 (by decide +kernel) ⟨hR1, hR2⟩ rfl rfl rfl hsz rfl hw hdg h00 kk
