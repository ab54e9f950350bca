abbrev zR_Mod_findParts : Room := { frames := 5, cells := 0, slots := 0, locals := 119 }
theorem zd_Mod_findParts_0 : decode zb_Mod_findParts 0 = .ok (.iconst 0, 1) := by decide +kernel
theorem zd_Mod_findParts_1 : decode zb_Mod_findParts 1 = .ok (.istore_n 3, 1) := by decide +kernel
theorem zd_Mod_findParts_2 : decode zb_Mod_findParts 2 = .ok (.iload_n 3, 1) := by decide +kernel
theorem zd_Mod_findParts_3 : decode zb_Mod_findParts 3 = .ok (.bipush 24, 2) := by decide +kernel
theorem zd_Mod_findParts_5 : decode zb_Mod_findParts 5 = .ok (.if_icmp .ge 25, 3) := by decide +kernel
theorem zd_Mod_findParts_8 : decode zb_Mod_findParts 8 = .ok (.aload_n 0, 1) := by decide +kernel
theorem zd_Mod_findParts_9 : decode zb_Mod_findParts 9 = .ok (.getfield 22, 3) := by decide +kernel
theorem zd_Mod_findParts_12 : decode zb_Mod_findParts 12 = .ok (.iload_n 3, 1) := by decide +kernel
theorem zd_Mod_findParts_13 : decode zb_Mod_findParts 13 = .ok (.iload_n 3, 1) := by decide +kernel
theorem zd_Mod_findParts_14 : decode zb_Mod_findParts 14 = .ok (.iload_n 1, 1) := by decide +kernel
theorem zd_Mod_findParts_15 : decode zb_Mod_findParts 15 = .ok (.if_icmp .ne 7, 3) := by decide +kernel
theorem zd_Mod_findParts_18 : decode zb_Mod_findParts 18 = .ok (.lconst 1, 1) := by decide +kernel
theorem zd_Mod_findParts_19 : decode zb_Mod_findParts 19 = .ok (.goto 4, 3) := by decide +kernel
theorem zd_Mod_findParts_22 : decode zb_Mod_findParts 22 = .ok (.lconst 0, 1) := by decide +kernel
theorem zd_Mod_findParts_23 : decode zb_Mod_findParts 23 = .ok (.lastore, 1) := by decide +kernel
theorem zd_Mod_findParts_24 : decode zb_Mod_findParts 24 = .ok (.iinc 3 1, 3) := by decide +kernel
theorem zd_Mod_findParts_27 : decode zb_Mod_findParts 27 = .ok (.goto (-25), 3) := by decide +kernel
theorem zd_Mod_findParts_30 : decode zb_Mod_findParts 30 = .ok (.iconst 0, 1) := by decide +kernel
theorem zd_Mod_findParts_31 : decode zb_Mod_findParts 31 = .ok (.istore_n 3, 1) := by decide +kernel
theorem zd_Mod_findParts_32 : decode zb_Mod_findParts 32 = .ok (.iload_n 3, 1) := by decide +kernel
theorem zd_Mod_findParts_33 : decode zb_Mod_findParts 33 = .ok (.iload_n 2, 1) := by decide +kernel
theorem zd_Mod_findParts_34 : decode zb_Mod_findParts 34 = .ok (.if_icmp .ge 156, 3) := by decide +kernel
theorem zd_Mod_findParts_37 : decode zb_Mod_findParts 37 = .ok (.iconst 0, 1) := by decide +kernel
theorem zd_Mod_findParts_38 : decode zb_Mod_findParts 38 = .ok (.istore 4, 2) := by decide +kernel
theorem zd_Mod_findParts_40 : decode zb_Mod_findParts 40 = .ok (.iload 4, 2) := by decide +kernel
theorem zd_Mod_findParts_42 : decode zb_Mod_findParts 42 = .ok (.bipush 24, 2) := by decide +kernel
theorem zd_Mod_findParts_44 : decode zb_Mod_findParts 44 = .ok (.if_icmp .ge 17, 3) := by decide +kernel
theorem zd_Mod_findParts_47 : decode zb_Mod_findParts 47 = .ok (.aload_n 0, 1) := by decide +kernel
theorem zd_Mod_findParts_48 : decode zb_Mod_findParts 48 = .ok (.getfield 26, 3) := by decide +kernel
theorem zd_Mod_findParts_51 : decode zb_Mod_findParts 51 = .ok (.iload 4, 2) := by decide +kernel
theorem zd_Mod_findParts_53 : decode zb_Mod_findParts 53 = .ok (.lconst 0, 1) := by decide +kernel
theorem zd_Mod_findParts_54 : decode zb_Mod_findParts 54 = .ok (.lastore, 1) := by decide +kernel
theorem zd_Mod_findParts_55 : decode zb_Mod_findParts 55 = .ok (.iinc 4 1, 3) := by decide +kernel
theorem zd_Mod_findParts_58 : decode zb_Mod_findParts 58 = .ok (.goto (-18), 3) := by decide +kernel
theorem zd_Mod_findParts_61 : decode zb_Mod_findParts 61 = .ok (.iconst 0, 1) := by decide +kernel
theorem zd_Mod_findParts_62 : decode zb_Mod_findParts 62 = .ok (.istore 4, 2) := by decide +kernel
theorem zd_Mod_findParts_64 : decode zb_Mod_findParts 64 = .ok (.iload 4, 2) := by decide +kernel
theorem zd_Mod_findParts_66 : decode zb_Mod_findParts 66 = .ok (.bipush 24, 2) := by decide +kernel
theorem zd_Mod_findParts_68 : decode zb_Mod_findParts 68 = .ok (.if_icmp .ge 86, 3) := by decide +kernel
theorem zd_Mod_findParts_71 : decode zb_Mod_findParts 71 = .ok (.aload_n 0, 1) := by decide +kernel
theorem zd_Mod_findParts_72 : decode zb_Mod_findParts 72 = .ok (.getfield 22, 3) := by decide +kernel
theorem zd_Mod_findParts_75 : decode zb_Mod_findParts 75 = .ok (.iload 4, 2) := by decide +kernel
theorem zd_Mod_findParts_77 : decode zb_Mod_findParts 77 = .ok (.laload, 1) := by decide +kernel
theorem zd_Mod_findParts_78 : decode zb_Mod_findParts 78 = .ok (.lconst 0, 1) := by decide +kernel
theorem zd_Mod_findParts_79 : decode zb_Mod_findParts 79 = .ok (.lcmp, 1) := by decide +kernel
theorem zd_Mod_findParts_80 : decode zb_Mod_findParts 80 = .ok (.ifCond .le 68, 3) := by decide +kernel
theorem zd_Mod_findParts_83 : decode zb_Mod_findParts 83 = .ok (.aload_n 0, 1) := by decide +kernel
theorem zd_Mod_findParts_84 : decode zb_Mod_findParts 84 = .ok (.iload 4, 2) := by decide +kernel
theorem zd_Mod_findParts_86 : decode zb_Mod_findParts 86 = .ok (.aload_n 0, 1) := by decide +kernel
theorem zd_Mod_findParts_87 : decode zb_Mod_findParts 87 = .ok (.iload_n 3, 1) := by decide +kernel
theorem zd_Mod_findParts_88 : decode zb_Mod_findParts 88 = .ok (.invokevirtual 145, 3) := by decide +kernel
theorem zd_Mod_findParts_91 : decode zb_Mod_findParts 91 = .ok (.iconst (-1), 1) := by decide +kernel
theorem zd_Mod_findParts_92 : decode zb_Mod_findParts 92 = .ok (.invokevirtual 148, 3) := by decide +kernel
theorem zd_Mod_findParts_95 : decode zb_Mod_findParts 95 = .ok (.aload_n 0, 1) := by decide +kernel
theorem zd_Mod_findParts_96 : decode zb_Mod_findParts 96 = .ok (.getfield 26, 3) := by decide +kernel
theorem zd_Mod_findParts_99 : decode zb_Mod_findParts 99 = .ok (.aload_n 0, 1) := by decide +kernel
theorem zd_Mod_findParts_100 : decode zb_Mod_findParts 100 = .ok (.getfield 129, 3) := by decide +kernel
theorem zd_Mod_findParts_103 : decode zb_Mod_findParts 103 = .ok (.dup2, 1) := by decide +kernel
theorem zd_Mod_findParts_104 : decode zb_Mod_findParts 104 = .ok (.laload, 1) := by decide +kernel
theorem zd_Mod_findParts_105 : decode zb_Mod_findParts 105 = .ok (.aload_n 0, 1) := by decide +kernel
theorem zd_Mod_findParts_106 : decode zb_Mod_findParts 106 = .ok (.getfield 136, 3) := by decide +kernel
theorem zd_Mod_findParts_109 : decode zb_Mod_findParts 109 = .ok (.i2l, 1) := by decide +kernel
theorem zd_Mod_findParts_110 : decode zb_Mod_findParts 110 = .ok (.aload_n 0, 1) := by decide +kernel
theorem zd_Mod_findParts_111 : decode zb_Mod_findParts 111 = .ok (.getfield 22, 3) := by decide +kernel
theorem zd_Mod_findParts_114 : decode zb_Mod_findParts 114 = .ok (.iload 4, 2) := by decide +kernel
theorem zd_Mod_findParts_116 : decode zb_Mod_findParts 116 = .ok (.laload, 1) := by decide +kernel
theorem zd_Mod_findParts_117 : decode zb_Mod_findParts 117 = .ok (.lmul, 1) := by decide +kernel
theorem zd_Mod_findParts_118 : decode zb_Mod_findParts 118 = .ok (.ladd, 1) := by decide +kernel
theorem zd_Mod_findParts_119 : decode zb_Mod_findParts 119 = .ok (.lastore, 1) := by decide +kernel
theorem zd_Mod_findParts_120 : decode zb_Mod_findParts 120 = .ok (.aload_n 0, 1) := by decide +kernel
theorem zd_Mod_findParts_121 : decode zb_Mod_findParts 121 = .ok (.getfield 26, 3) := by decide +kernel
theorem zd_Mod_findParts_124 : decode zb_Mod_findParts 124 = .ok (.aload_n 0, 1) := by decide +kernel
theorem zd_Mod_findParts_125 : decode zb_Mod_findParts 125 = .ok (.getfield 133, 3) := by decide +kernel
theorem zd_Mod_findParts_128 : decode zb_Mod_findParts 128 = .ok (.dup2, 1) := by decide +kernel
theorem zd_Mod_findParts_129 : decode zb_Mod_findParts 129 = .ok (.laload, 1) := by decide +kernel
theorem zd_Mod_findParts_130 : decode zb_Mod_findParts 130 = .ok (.bipush 12, 2) := by decide +kernel
theorem zd_Mod_findParts_132 : decode zb_Mod_findParts 132 = .ok (.aload_n 0, 1) := by decide +kernel
theorem zd_Mod_findParts_133 : decode zb_Mod_findParts 133 = .ok (.getfield 136, 3) := by decide +kernel
theorem zd_Mod_findParts_136 : decode zb_Mod_findParts 136 = .ok (.isub, 1) := by decide +kernel
theorem zd_Mod_findParts_137 : decode zb_Mod_findParts 137 = .ok (.i2l, 1) := by decide +kernel
theorem zd_Mod_findParts_138 : decode zb_Mod_findParts 138 = .ok (.aload_n 0, 1) := by decide +kernel
theorem zd_Mod_findParts_139 : decode zb_Mod_findParts 139 = .ok (.getfield 22, 3) := by decide +kernel
theorem zd_Mod_findParts_142 : decode zb_Mod_findParts 142 = .ok (.iload 4, 2) := by decide +kernel
theorem zd_Mod_findParts_144 : decode zb_Mod_findParts 144 = .ok (.laload, 1) := by decide +kernel
theorem zd_Mod_findParts_145 : decode zb_Mod_findParts 145 = .ok (.lmul, 1) := by decide +kernel
theorem zd_Mod_findParts_146 : decode zb_Mod_findParts 146 = .ok (.ladd, 1) := by decide +kernel
theorem zd_Mod_findParts_147 : decode zb_Mod_findParts 147 = .ok (.lastore, 1) := by decide +kernel
theorem zd_Mod_findParts_148 : decode zb_Mod_findParts 148 = .ok (.iinc 4 1, 3) := by decide +kernel
theorem zd_Mod_findParts_151 : decode zb_Mod_findParts 151 = .ok (.goto (-87), 3) := by decide +kernel
theorem zd_Mod_findParts_154 : decode zb_Mod_findParts 154 = .ok (.iconst 0, 1) := by decide +kernel
theorem zd_Mod_findParts_155 : decode zb_Mod_findParts 155 = .ok (.istore 4, 2) := by decide +kernel
theorem zd_Mod_findParts_157 : decode zb_Mod_findParts 157 = .ok (.iload 4, 2) := by decide +kernel
theorem zd_Mod_findParts_159 : decode zb_Mod_findParts 159 = .ok (.bipush 24, 2) := by decide +kernel
theorem zd_Mod_findParts_161 : decode zb_Mod_findParts 161 = .ok (.if_icmp .ge 23, 3) := by decide +kernel
theorem zd_Mod_findParts_164 : decode zb_Mod_findParts 164 = .ok (.aload_n 0, 1) := by decide +kernel
theorem zd_Mod_findParts_165 : decode zb_Mod_findParts 165 = .ok (.getfield 22, 3) := by decide +kernel
theorem zd_Mod_findParts_168 : decode zb_Mod_findParts 168 = .ok (.iload 4, 2) := by decide +kernel
theorem zd_Mod_findParts_170 : decode zb_Mod_findParts 170 = .ok (.aload_n 0, 1) := by decide +kernel
theorem zd_Mod_findParts_171 : decode zb_Mod_findParts 171 = .ok (.getfield 26, 3) := by decide +kernel
theorem zd_Mod_findParts_174 : decode zb_Mod_findParts 174 = .ok (.iload 4, 2) := by decide +kernel
theorem zd_Mod_findParts_176 : decode zb_Mod_findParts 176 = .ok (.laload, 1) := by decide +kernel
theorem zd_Mod_findParts_177 : decode zb_Mod_findParts 177 = .ok (.lastore, 1) := by decide +kernel
theorem zd_Mod_findParts_178 : decode zb_Mod_findParts 178 = .ok (.iinc 4 1, 3) := by decide +kernel
theorem zd_Mod_findParts_181 : decode zb_Mod_findParts 181 = .ok (.goto (-24), 3) := by decide +kernel
theorem zd_Mod_findParts_184 : decode zb_Mod_findParts 184 = .ok (.iinc 3 1, 3) := by decide +kernel
theorem zd_Mod_findParts_187 : decode zb_Mod_findParts 187 = .ok (.goto (-155), 3) := by decide +kernel
theorem zd_Mod_findParts_190 : decode zb_Mod_findParts 190 = .ok (.return_, 1) := by decide +kernel
set_option maxHeartbeats 4000000 in
theorem zl_Mod_findParts_B157 {p : Program} {l : Launch} {e : Env} {s : State} {m : MethodId} {args : Array Value} {below : List Frame} {meth : Method} {c : Code} {D : va_G} {cA : Nat → ClassId} {ad : Nat → Nat} {A : Nat → Prop} (B : zu_B p s m args c zb_Mod_findParts 5 "StonePostModel" D cA ad A) (hret : meth.sig.returnType = none) (hlk : meth.locks = false) {res : IX × LX} {k32 : Int32 → Int32 → IX → LX → Option (IX × LX)} (hk32 : ∀ (x2 : Int32) (x3 : Int32) (X : IX) (Y : LX) (H : Heap) (locs : List Loc) (ls : Array Slot), va_P D zu_cl (zu_pic cA ad X Y) H → va_S A s.heap H locs → lv_has ls 5 [(0, .ref (ad 95)), (2, .int x2), (3, .int x3)] → k32 x2 x3 X Y = some res → W p l e zR_Mod_findParts s m args below meth c H locs 0 0 (MQ below (zu_Qv D cA ad A res.1 res.2) args s 0 0 A) (F0 m 32 ls [])) {k157 : Int32 → Int32 → Int32 → IX → LX → Option (IX × LX)} (hk157 : ∀ (x2 : Int32) (x3 : Int32) (x4 : Int32) (X : IX) (Y : LX) (H : Heap) (locs : List Loc) (ls : Array Slot), va_P D zu_cl (zu_pic cA ad X Y) H → va_S A s.heap H locs → lv_has ls 5 [(0, .ref (ad 95)), (2, .int x2), (3, .int x3), (4, .int x4)] → k157 x2 x3 x4 X Y = some res → W p l e zR_Mod_findParts s m args below meth c H locs 0 0 (MQ below (zu_Qv D cA ad A res.1 res.2) args s 0 0 A) (F0 m 157 ls [])) (x2 : Int32) (x3 : Int32) (x4 : Int32) (X : IX) (Y : LX) (H : Heap) (locs : List Loc) (ls : Array Slot) (hP : va_P D zu_cl (zu_pic cA ad X Y) H) (hS : va_S A s.heap H locs) (hl : lv_has ls 5 [(0, .ref (ad 95)), (2, .int x2), (3, .int x3), (4, .int x4)]) (hf : fn_Mod_findParts_B157 k32 k157 x2 x3 x4 X Y = some res) : W p l e zR_Mod_findParts s m args below meth c H locs 0 0 (MQ below (zu_Qv D cA ad A res.1 res.2) args s 0 0 A) (F0 m 157 ls []) := by
  obtain ⟨hx, hb, hml, hown, hts, hST⟩ := id B
  unfold fn_Mod_findParts_B157 at hf
  refine lv_iload hx hb zd_Mod_findParts_157 (lv_at hl 3 rfl) ?_
  refine lv_bipush (v := 24) hx hb zd_Mod_findParts_159 (by decide) ?_
  refine lv_icmp_ge (tgt := 184) hx hb zd_Mod_findParts_161 (by decide) (fun c26 => ?_) (fun c26 => ?_)
  · have hf := zu_t c26 hf
    obtain ⟨v27, ev27, hf⟩ := zu_nx_e hf
    refine lv_iinc (v := v27) (lv' := [(3, .int v27), (0, .ref (ad 95)), (2, .int x2), (4, .int x4)]) hx hb zd_Mod_findParts_184 hl (k := 2) rfl (by rw [ev27]; rfl) (by decide) rfl (fun ls hl => ?_)
    clear ev27
    refine lv_goto (tgt := 32) hx hb zd_Mod_findParts_187 (by decide) ?_
    exact hk32 x2 v27 X Y _ _ _ hP hS (lv_sub hl [1, 2, 0] rfl) hf
  · have hf := zu_f c26 hf
    refine lv_aload_n hx hb zd_Mod_findParts_164 rfl (lv_at hl 0 rfl) ?_
    refine zg_Mod_parts B hP rfl zq_870 zd_Mod_findParts_165 ?_
    refine lv_iload hx hb zd_Mod_findParts_168 (lv_at hl 3 rfl) ?_
    refine lv_aload_n hx hb zd_Mod_findParts_170 rfl (lv_at hl 0 rfl) ?_
    refine zg_Mod_then B hP rfl zq_871 zd_Mod_findParts_171 ?_
    refine lv_iload hx hb zd_Mod_findParts_174 (lv_at hl 3 rfl) ?_
    obtain ⟨hg28, hf⟩ := zu_gd_e hf
    refine zr_lald rfl B hP rfl (by decide) rfl hg28 zd_Mod_findParts_176 ?_
    obtain ⟨hg29, hf⟩ := zu_gd_e hf
    refine zr_last rfl B hP hS hf rfl (by decide) rfl hg29 zd_Mod_findParts_177 (fun Y30 H locs hf hP hS => ?_)
    obtain ⟨v31, ev31, hf⟩ := zu_nx_e hf
    refine lv_iinc (v := v31) (lv' := [(4, .int v31), (0, .ref (ad 95)), (2, .int x2), (3, .int x3)]) hx hb zd_Mod_findParts_178 hl (k := 3) rfl (by rw [ev31]; rfl) (by decide) rfl (fun ls hl => ?_)
    clear ev31
    refine lv_goto (tgt := 157) hx hb zd_Mod_findParts_181 (by decide) ?_
    exact hk157 x2 x3 v31 X Y30 _ _ _ hP hS (lv_sub hl [1, 2, 3, 0] rfl) hf
theorem zl_Mod_findParts_L157 {p : Program} {l : Launch} {e : Env} {s : State} {m : MethodId} {args : Array Value} {below : List Frame} {meth : Method} {c : Code} {D : va_G} {cA : Nat → ClassId} {ad : Nat → Nat} {A : Nat → Prop} (B : zu_B p s m args c zb_Mod_findParts 5 "StonePostModel" D cA ad A) (hret : meth.sig.returnType = none) (hlk : meth.locks = false) {res : IX × LX} {k32 : Int32 → Int32 → IX → LX → Option (IX × LX)} (hk32 : ∀ (x2 : Int32) (x3 : Int32) (X : IX) (Y : LX) (H : Heap) (locs : List Loc) (ls : Array Slot), va_P D zu_cl (zu_pic cA ad X Y) H → va_S A s.heap H locs → lv_has ls 5 [(0, .ref (ad 95)), (2, .int x2), (3, .int x3)] → k32 x2 x3 X Y = some res → W p l e zR_Mod_findParts s m args below meth c H locs 0 0 (MQ below (zu_Qv D cA ad A res.1 res.2) args s 0 0 A) (F0 m 32 ls [])) : ∀ (n : Nat) (x2 : Int32) (x3 : Int32) (x4 : Int32) (X : IX) (Y : LX) (H : Heap) (locs : List Loc) (ls : Array Slot), va_P D zu_cl (zu_pic cA ad X Y) H → va_S A s.heap H locs → lv_has ls 5 [(0, .ref (ad 95)), (2, .int x2), (3, .int x3), (4, .int x4)] → fn_Mod_findParts_L157 k32 n x2 x3 x4 X Y = some res → W p l e zR_Mod_findParts s m args below meth c H locs 0 0 (MQ below (zu_Qv D cA ad A res.1 res.2) args s 0 0 A) (F0 m 157 ls []) := by
  intro n
  induction n with
  | zero =>
    intro x2 x3 x4 X Y H locs ls hP hS hl hf
    exact (Option.some_ne_none _ hf.symm).elim
  | succ n ih =>
    intro x2 x3 x4 X Y H locs ls hP hS hl hf
    exact zl_Mod_findParts_B157 B hret hlk hk32 ih x2 x3 x4 X Y H locs ls hP hS hl  hf
set_option maxHeartbeats 4000000 in
theorem zl_Mod_findParts_L148 {p : Program} {l : Launch} {e : Env} {s : State} {m : MethodId} {args : Array Value} {below : List Frame} {meth : Method} {c : Code} {D : va_G} {cA : Nat → ClassId} {ad : Nat → Nat} {A : Nat → Prop} (B : zu_B p s m args c zb_Mod_findParts 5 "StonePostModel" D cA ad A) (hret : meth.sig.returnType = none) (hlk : meth.locks = false) {res : IX × LX} {k32 : Int32 → Int32 → IX → LX → Option (IX × LX)} (hk32 : ∀ (x2 : Int32) (x3 : Int32) (X : IX) (Y : LX) (H : Heap) (locs : List Loc) (ls : Array Slot), va_P D zu_cl (zu_pic cA ad X Y) H → va_S A s.heap H locs → lv_has ls 5 [(0, .ref (ad 95)), (2, .int x2), (3, .int x3)] → k32 x2 x3 X Y = some res → W p l e zR_Mod_findParts s m args below meth c H locs 0 0 (MQ below (zu_Qv D cA ad A res.1 res.2) args s 0 0 A) (F0 m 32 ls [])) {k64 : Int32 → Int32 → Int32 → IX → LX → Option (IX × LX)} (hk64 : ∀ (x2 : Int32) (x3 : Int32) (x4 : Int32) (X : IX) (Y : LX) (H : Heap) (locs : List Loc) (ls : Array Slot), va_P D zu_cl (zu_pic cA ad X Y) H → va_S A s.heap H locs → lv_has ls 5 [(0, .ref (ad 95)), (2, .int x2), (3, .int x3), (4, .int x4)] → k64 x2 x3 x4 X Y = some res → W p l e zR_Mod_findParts s m args below meth c H locs 0 0 (MQ below (zu_Qv D cA ad A res.1 res.2) args s 0 0 A) (F0 m 64 ls [])) (x2 : Int32) (x3 : Int32) (x4 : Int32) (X : IX) (Y : LX) (H : Heap) (locs : List Loc) (ls : Array Slot) (hP : va_P D zu_cl (zu_pic cA ad X Y) H) (hS : va_S A s.heap H locs) (hl : lv_has ls 5 [(0, .ref (ad 95)), (2, .int x2), (3, .int x3), (4, .int x4)]) (hf : fn_Mod_findParts_L148 k32 k64 x2 x3 x4 X Y = some res) : W p l e zR_Mod_findParts s m args below meth c H locs 0 0 (MQ below (zu_Qv D cA ad A res.1 res.2) args s 0 0 A) (F0 m 148 ls []) := by
  obtain ⟨hx, hb, hml, hown, hts, hST⟩ := id B
  unfold fn_Mod_findParts_L148 at hf
  obtain ⟨v32, ev32, hf⟩ := zu_nx_e hf
  refine lv_iinc (v := v32) (lv' := [(4, .int v32), (0, .ref (ad 95)), (2, .int x2), (3, .int x3)]) hx hb zd_Mod_findParts_148 hl (k := 3) rfl (by rw [ev32]; rfl) (by decide) rfl (fun ls hl => ?_)
  clear ev32
  refine lv_goto (tgt := 64) hx hb zd_Mod_findParts_151 (by decide) ?_
  exact hk64 x2 x3 v32 X Y _ _ _ hP hS (lv_sub hl [1, 2, 3, 0] rfl) hf
set_option maxHeartbeats 4000000 in
theorem zl_Mod_findParts_B64 {p : Program} {l : Launch} {e : Env} {s : State} {m : MethodId} {args : Array Value} {below : List Frame} {meth : Method} {c : Code} {D : va_G} {cA : Nat → ClassId} {ad : Nat → Nat} {A : Nat → Prop} (B : zu_B p s m args c zb_Mod_findParts 5 "StonePostModel" D cA ad A) (hret : meth.sig.returnType = none) (hlk : meth.locks = false) {res : IX × LX} {k32 : Int32 → Int32 → IX → LX → Option (IX × LX)} (hk32 : ∀ (x2 : Int32) (x3 : Int32) (X : IX) (Y : LX) (H : Heap) (locs : List Loc) (ls : Array Slot), va_P D zu_cl (zu_pic cA ad X Y) H → va_S A s.heap H locs → lv_has ls 5 [(0, .ref (ad 95)), (2, .int x2), (3, .int x3)] → k32 x2 x3 X Y = some res → W p l e zR_Mod_findParts s m args below meth c H locs 0 0 (MQ below (zu_Qv D cA ad A res.1 res.2) args s 0 0 A) (F0 m 32 ls [])) {k64 : Int32 → Int32 → Int32 → IX → LX → Option (IX × LX)} (hk64 : ∀ (x2 : Int32) (x3 : Int32) (x4 : Int32) (X : IX) (Y : LX) (H : Heap) (locs : List Loc) (ls : Array Slot), va_P D zu_cl (zu_pic cA ad X Y) H → va_S A s.heap H locs → lv_has ls 5 [(0, .ref (ad 95)), (2, .int x2), (3, .int x3), (4, .int x4)] → k64 x2 x3 x4 X Y = some res → W p l e zR_Mod_findParts s m args below meth c H locs 0 0 (MQ below (zu_Qv D cA ad A res.1 res.2) args s 0 0 A) (F0 m 64 ls [])) (x2 : Int32) (x3 : Int32) (x4 : Int32) (X : IX) (Y : LX) (H : Heap) (locs : List Loc) (ls : Array Slot) (hP : va_P D zu_cl (zu_pic cA ad X Y) H) (hS : va_S A s.heap H locs) (hl : lv_has ls 5 [(0, .ref (ad 95)), (2, .int x2), (3, .int x3), (4, .int x4)]) (hf : fn_Mod_findParts_B64 k32 k64 x2 x3 x4 X Y = some res) : W p l e zR_Mod_findParts s m args below meth c H locs 0 0 (MQ below (zu_Qv D cA ad A res.1 res.2) args s 0 0 A) (F0 m 64 ls []) := by
  obtain ⟨hx, hb, hml, hown, hts, hST⟩ := id B
  unfold fn_Mod_findParts_B64 at hf
  refine lv_iload hx hb zd_Mod_findParts_64 (lv_at hl 3 rfl) ?_
  refine lv_bipush (v := 24) hx hb zd_Mod_findParts_66 (by decide) ?_
  refine lv_icmp_ge (tgt := 154) hx hb zd_Mod_findParts_68 (by decide) (fun c11 => ?_) (fun c11 => ?_)
  · have hf := zu_t c11 hf
    refine lv_iconst (v := 0) hx hb zd_Mod_findParts_154 (by decide) ?_
    refine lv_istore (lv' := [(4, .int (0 : Int32)), (0, .ref (ad 95)), (2, .int x2), (3, .int x3)]) hx hb zd_Mod_findParts_155 hl (by decide) rfl (fun ls hl => ?_)
    exact zl_Mod_findParts_L157 B hret hlk hk32 400 x2 x3 (0 : Int32) X Y _ _ _ hP hS (lv_sub hl [1, 2, 3, 0] rfl) hf
  · have hf := zu_f c11 hf
    refine lv_aload_n hx hb zd_Mod_findParts_71 rfl (lv_at hl 0 rfl) ?_
    refine zg_Mod_parts B hP rfl zq_870 zd_Mod_findParts_72 ?_
    refine lv_iload hx hb zd_Mod_findParts_75 (lv_at hl 3 rfl) ?_
    obtain ⟨hg12, hf⟩ := zu_gd_e hf
    refine zr_lald rfl B hP rfl (by decide) rfl hg12 zd_Mod_findParts_77 ?_
    refine lv_lconst (v := 0) hx hb zd_Mod_findParts_78 (by decide) ?_
    refine W.lcmp hx hb zd_Mod_findParts_79 ?_
    refine lv_if_le (tgt := 148) hx hb zd_Mod_findParts_80 (by decide) (fun c13 => ?_) (fun c13 => ?_)
    · have hf := zu_t c13 hf
      exact zl_Mod_findParts_L148 B hret hlk hk32 hk64 x2 x3 x4 X Y _ _ _ hP hS (lv_sub hl [0, 1, 2, 3] rfl) hf
    · have hf := zu_f c13 hf
      refine lv_aload_n hx hb zd_Mod_findParts_83 rfl (lv_at hl 0 rfl) ?_
      refine lv_iload hx hb zd_Mod_findParts_84 (lv_at hl 3 rfl) ?_
      refine lv_aload_n hx hb zd_Mod_findParts_86 rfl (lv_at hl 0 rfl) ?_
      refine lv_iload_n hx hb zd_Mod_findParts_87 rfl (lv_at hl 2 rfl) ?_
      obtain ⟨v14, ehq15, hf⟩ := zu_nx_e hf
      have hq15 := ehq15.symm
      refine zw_Mod_clockIn (rest := [.int x4, .ref (ad 95)]) B hP hS hq15 zq_1071 (Nat.le_of_ble_eq_true rfl) (Nat.le_of_ble_eq_true rfl) hl.1 rfl (Nat.le_of_ble_eq_true rfl) zd_Mod_findParts_88 (by decide) (fun H locs hP hS => ?_)
      clear hq15 ehq15
      refine lv_iconst (v := -1) hx hb zd_Mod_findParts_91 (by decide) ?_
      obtain ⟨X16, hq17, hf⟩ := zu_b1_e hf
      refine zw_Mod_goes (rest := []) B hP hS hq17 zq_1075 (Nat.le_of_ble_eq_true rfl) (Nat.le_of_ble_eq_true rfl) hl.1 rfl (Nat.le_of_ble_eq_true rfl) zd_Mod_findParts_92 (by decide) (fun H locs hP hS => ?_)
      clear hq17
      refine lv_aload_n hx hb zd_Mod_findParts_95 rfl (lv_at hl 0 rfl) ?_
      refine zg_Mod_then B hP rfl zq_871 zd_Mod_findParts_96 ?_
      refine lv_aload_n hx hb zd_Mod_findParts_99 rfl (lv_at hl 0 rfl) ?_
      refine zg_Mod_first B hP rfl zq_866 zd_Mod_findParts_100 ?_
      refine lv_dup2_11 hx hb zd_Mod_findParts_103 rfl rfl ?_
      obtain ⟨hg18, hf⟩ := zu_gd_e hf
      refine zr_lald rfl B hP rfl (by decide) rfl hg18 zd_Mod_findParts_104 ?_
      refine lv_aload_n hx hb zd_Mod_findParts_105 rfl (lv_at hl 0 rfl) ?_
      refine zg_Mod_twelfths B hP rfl zq_867 zd_Mod_findParts_106 ?_
      refine lv_i2l hx hb zd_Mod_findParts_109 rfl ?_
      refine lv_aload_n hx hb zd_Mod_findParts_110 rfl (lv_at hl 0 rfl) ?_
      refine zg_Mod_parts B hP rfl zq_870 zd_Mod_findParts_111 ?_
      refine lv_iload hx hb zd_Mod_findParts_114 (lv_at hl 3 rfl) ?_
      obtain ⟨hg19, hf⟩ := zu_gd_e hf
      refine zr_lald rfl B hP rfl (by decide) rfl hg19 zd_Mod_findParts_116 ?_
      refine lv_lmul hx hb zd_Mod_findParts_117 ?_
      refine lv_ladd hx hb zd_Mod_findParts_118 ?_
      obtain ⟨hg20, hf⟩ := zu_gd_e hf
      refine zr_last rfl B hP hS hf rfl (by decide) rfl hg20 zd_Mod_findParts_119 (fun Y21 H locs hf hP hS => ?_)
      refine lv_aload_n hx hb zd_Mod_findParts_120 rfl (lv_at hl 0 rfl) ?_
      refine zg_Mod_then B hP rfl zq_871 zd_Mod_findParts_121 ?_
      refine lv_aload_n hx hb zd_Mod_findParts_124 rfl (lv_at hl 0 rfl) ?_
      refine zg_Mod_second B hP rfl zq_868 zd_Mod_findParts_125 ?_
      refine lv_dup2_11 hx hb zd_Mod_findParts_128 rfl rfl ?_
      obtain ⟨hg22, hf⟩ := zu_gd_e hf
      refine zr_lald rfl B hP rfl (by decide) rfl hg22 zd_Mod_findParts_129 ?_
      refine lv_bipush (v := 12) hx hb zd_Mod_findParts_130 (by decide) ?_
      refine lv_aload_n hx hb zd_Mod_findParts_132 rfl (lv_at hl 0 rfl) ?_
      refine zg_Mod_twelfths B hP rfl zq_867 zd_Mod_findParts_133 ?_
      refine lv_isub hx hb zd_Mod_findParts_136 ?_
      refine lv_i2l hx hb zd_Mod_findParts_137 rfl ?_
      refine lv_aload_n hx hb zd_Mod_findParts_138 rfl (lv_at hl 0 rfl) ?_
      refine zg_Mod_parts B hP rfl zq_870 zd_Mod_findParts_139 ?_
      refine lv_iload hx hb zd_Mod_findParts_142 (lv_at hl 3 rfl) ?_
      obtain ⟨hg23, hf⟩ := zu_gd_e hf
      refine zr_lald rfl B hP rfl (by decide) rfl hg23 zd_Mod_findParts_144 ?_
      refine lv_lmul hx hb zd_Mod_findParts_145 ?_
      refine lv_ladd hx hb zd_Mod_findParts_146 ?_
      obtain ⟨hg24, hf⟩ := zu_gd_e hf
      refine zr_last rfl B hP hS hf rfl (by decide) rfl hg24 zd_Mod_findParts_147 (fun Y25 H locs hf hP hS => ?_)
      exact zl_Mod_findParts_L148 B hret hlk hk32 hk64 x2 x3 x4 X16 Y25 _ _ _ hP hS (lv_sub hl [0, 1, 2, 3] rfl) hf
theorem zl_Mod_findParts_L64 {p : Program} {l : Launch} {e : Env} {s : State} {m : MethodId} {args : Array Value} {below : List Frame} {meth : Method} {c : Code} {D : va_G} {cA : Nat → ClassId} {ad : Nat → Nat} {A : Nat → Prop} (B : zu_B p s m args c zb_Mod_findParts 5 "StonePostModel" D cA ad A) (hret : meth.sig.returnType = none) (hlk : meth.locks = false) {res : IX × LX} {k32 : Int32 → Int32 → IX → LX → Option (IX × LX)} (hk32 : ∀ (x2 : Int32) (x3 : Int32) (X : IX) (Y : LX) (H : Heap) (locs : List Loc) (ls : Array Slot), va_P D zu_cl (zu_pic cA ad X Y) H → va_S A s.heap H locs → lv_has ls 5 [(0, .ref (ad 95)), (2, .int x2), (3, .int x3)] → k32 x2 x3 X Y = some res → W p l e zR_Mod_findParts s m args below meth c H locs 0 0 (MQ below (zu_Qv D cA ad A res.1 res.2) args s 0 0 A) (F0 m 32 ls [])) : ∀ (n : Nat) (x2 : Int32) (x3 : Int32) (x4 : Int32) (X : IX) (Y : LX) (H : Heap) (locs : List Loc) (ls : Array Slot), va_P D zu_cl (zu_pic cA ad X Y) H → va_S A s.heap H locs → lv_has ls 5 [(0, .ref (ad 95)), (2, .int x2), (3, .int x3), (4, .int x4)] → fn_Mod_findParts_L64 k32 n x2 x3 x4 X Y = some res → W p l e zR_Mod_findParts s m args below meth c H locs 0 0 (MQ below (zu_Qv D cA ad A res.1 res.2) args s 0 0 A) (F0 m 64 ls []) := by
  intro n
  induction n with
  | zero =>
    intro x2 x3 x4 X Y H locs ls hP hS hl hf
    exact (Option.some_ne_none _ hf.symm).elim
  | succ n ih =>
    intro x2 x3 x4 X Y H locs ls hP hS hl hf
    exact zl_Mod_findParts_B64 B hret hlk hk32 ih x2 x3 x4 X Y H locs ls hP hS hl  hf
set_option maxHeartbeats 4000000 in
theorem zl_Mod_findParts_B40 {p : Program} {l : Launch} {e : Env} {s : State} {m : MethodId} {args : Array Value} {below : List Frame} {meth : Method} {c : Code} {D : va_G} {cA : Nat → ClassId} {ad : Nat → Nat} {A : Nat → Prop} (B : zu_B p s m args c zb_Mod_findParts 5 "StonePostModel" D cA ad A) (hret : meth.sig.returnType = none) (hlk : meth.locks = false) {res : IX × LX} {k32 : Int32 → Int32 → IX → LX → Option (IX × LX)} (hk32 : ∀ (x2 : Int32) (x3 : Int32) (X : IX) (Y : LX) (H : Heap) (locs : List Loc) (ls : Array Slot), va_P D zu_cl (zu_pic cA ad X Y) H → va_S A s.heap H locs → lv_has ls 5 [(0, .ref (ad 95)), (2, .int x2), (3, .int x3)] → k32 x2 x3 X Y = some res → W p l e zR_Mod_findParts s m args below meth c H locs 0 0 (MQ below (zu_Qv D cA ad A res.1 res.2) args s 0 0 A) (F0 m 32 ls [])) {k40 : Int32 → Int32 → Int32 → IX → LX → Option (IX × LX)} (hk40 : ∀ (x2 : Int32) (x3 : Int32) (x4 : Int32) (X : IX) (Y : LX) (H : Heap) (locs : List Loc) (ls : Array Slot), va_P D zu_cl (zu_pic cA ad X Y) H → va_S A s.heap H locs → lv_has ls 5 [(0, .ref (ad 95)), (2, .int x2), (3, .int x3), (4, .int x4)] → k40 x2 x3 x4 X Y = some res → W p l e zR_Mod_findParts s m args below meth c H locs 0 0 (MQ below (zu_Qv D cA ad A res.1 res.2) args s 0 0 A) (F0 m 40 ls [])) (x2 : Int32) (x3 : Int32) (x4 : Int32) (X : IX) (Y : LX) (H : Heap) (locs : List Loc) (ls : Array Slot) (hP : va_P D zu_cl (zu_pic cA ad X Y) H) (hS : va_S A s.heap H locs) (hl : lv_has ls 5 [(0, .ref (ad 95)), (2, .int x2), (3, .int x3), (4, .int x4)]) (hf : fn_Mod_findParts_B40 k32 k40 x2 x3 x4 X Y = some res) : W p l e zR_Mod_findParts s m args below meth c H locs 0 0 (MQ below (zu_Qv D cA ad A res.1 res.2) args s 0 0 A) (F0 m 40 ls []) := by
  obtain ⟨hx, hb, hml, hown, hts, hST⟩ := id B
  unfold fn_Mod_findParts_B40 at hf
  refine lv_iload hx hb zd_Mod_findParts_40 (lv_at hl 3 rfl) ?_
  refine lv_bipush (v := 24) hx hb zd_Mod_findParts_42 (by decide) ?_
  refine lv_icmp_ge (tgt := 61) hx hb zd_Mod_findParts_44 (by decide) (fun c7 => ?_) (fun c7 => ?_)
  · have hf := zu_t c7 hf
    refine lv_iconst (v := 0) hx hb zd_Mod_findParts_61 (by decide) ?_
    refine lv_istore (lv' := [(4, .int (0 : Int32)), (0, .ref (ad 95)), (2, .int x2), (3, .int x3)]) hx hb zd_Mod_findParts_62 hl (by decide) rfl (fun ls hl => ?_)
    exact zl_Mod_findParts_L64 B hret hlk hk32 400 x2 x3 (0 : Int32) X Y _ _ _ hP hS (lv_sub hl [1, 2, 3, 0] rfl) hf
  · have hf := zu_f c7 hf
    refine lv_aload_n hx hb zd_Mod_findParts_47 rfl (lv_at hl 0 rfl) ?_
    refine zg_Mod_then B hP rfl zq_871 zd_Mod_findParts_48 ?_
    refine lv_iload hx hb zd_Mod_findParts_51 (lv_at hl 3 rfl) ?_
    refine lv_lconst (v := 0) hx hb zd_Mod_findParts_53 (by decide) ?_
    obtain ⟨hg8, hf⟩ := zu_gd_e hf
    refine zr_last rfl B hP hS hf rfl (by decide) rfl hg8 zd_Mod_findParts_54 (fun Y9 H locs hf hP hS => ?_)
    obtain ⟨v10, ev10, hf⟩ := zu_nx_e hf
    refine lv_iinc (v := v10) (lv' := [(4, .int v10), (0, .ref (ad 95)), (2, .int x2), (3, .int x3)]) hx hb zd_Mod_findParts_55 hl (k := 3) rfl (by rw [ev10]; rfl) (by decide) rfl (fun ls hl => ?_)
    clear ev10
    refine lv_goto (tgt := 40) hx hb zd_Mod_findParts_58 (by decide) ?_
    exact hk40 x2 x3 v10 X Y9 _ _ _ hP hS (lv_sub hl [1, 2, 3, 0] rfl) hf
theorem zl_Mod_findParts_L40 {p : Program} {l : Launch} {e : Env} {s : State} {m : MethodId} {args : Array Value} {below : List Frame} {meth : Method} {c : Code} {D : va_G} {cA : Nat → ClassId} {ad : Nat → Nat} {A : Nat → Prop} (B : zu_B p s m args c zb_Mod_findParts 5 "StonePostModel" D cA ad A) (hret : meth.sig.returnType = none) (hlk : meth.locks = false) {res : IX × LX} {k32 : Int32 → Int32 → IX → LX → Option (IX × LX)} (hk32 : ∀ (x2 : Int32) (x3 : Int32) (X : IX) (Y : LX) (H : Heap) (locs : List Loc) (ls : Array Slot), va_P D zu_cl (zu_pic cA ad X Y) H → va_S A s.heap H locs → lv_has ls 5 [(0, .ref (ad 95)), (2, .int x2), (3, .int x3)] → k32 x2 x3 X Y = some res → W p l e zR_Mod_findParts s m args below meth c H locs 0 0 (MQ below (zu_Qv D cA ad A res.1 res.2) args s 0 0 A) (F0 m 32 ls [])) : ∀ (n : Nat) (x2 : Int32) (x3 : Int32) (x4 : Int32) (X : IX) (Y : LX) (H : Heap) (locs : List Loc) (ls : Array Slot), va_P D zu_cl (zu_pic cA ad X Y) H → va_S A s.heap H locs → lv_has ls 5 [(0, .ref (ad 95)), (2, .int x2), (3, .int x3), (4, .int x4)] → fn_Mod_findParts_L40 k32 n x2 x3 x4 X Y = some res → W p l e zR_Mod_findParts s m args below meth c H locs 0 0 (MQ below (zu_Qv D cA ad A res.1 res.2) args s 0 0 A) (F0 m 40 ls []) := by
  intro n
  induction n with
  | zero =>
    intro x2 x3 x4 X Y H locs ls hP hS hl hf
    exact (Option.some_ne_none _ hf.symm).elim
  | succ n ih =>
    intro x2 x3 x4 X Y H locs ls hP hS hl hf
    exact zl_Mod_findParts_B40 B hret hlk hk32 ih x2 x3 x4 X Y H locs ls hP hS hl  hf
set_option maxHeartbeats 4000000 in
theorem zl_Mod_findParts_B32 {p : Program} {l : Launch} {e : Env} {s : State} {m : MethodId} {args : Array Value} {below : List Frame} {meth : Method} {c : Code} {D : va_G} {cA : Nat → ClassId} {ad : Nat → Nat} {A : Nat → Prop} (B : zu_B p s m args c zb_Mod_findParts 5 "StonePostModel" D cA ad A) (hret : meth.sig.returnType = none) (hlk : meth.locks = false) {res : IX × LX} {k32 : Int32 → Int32 → IX → LX → Option (IX × LX)} (hk32 : ∀ (x2 : Int32) (x3 : Int32) (X : IX) (Y : LX) (H : Heap) (locs : List Loc) (ls : Array Slot), va_P D zu_cl (zu_pic cA ad X Y) H → va_S A s.heap H locs → lv_has ls 5 [(0, .ref (ad 95)), (2, .int x2), (3, .int x3)] → k32 x2 x3 X Y = some res → W p l e zR_Mod_findParts s m args below meth c H locs 0 0 (MQ below (zu_Qv D cA ad A res.1 res.2) args s 0 0 A) (F0 m 32 ls [])) (x2 : Int32) (x3 : Int32) (X : IX) (Y : LX) (H : Heap) (locs : List Loc) (ls : Array Slot) (hP : va_P D zu_cl (zu_pic cA ad X Y) H) (hS : va_S A s.heap H locs) (hl : lv_has ls 5 [(0, .ref (ad 95)), (2, .int x2), (3, .int x3)]) (hf : fn_Mod_findParts_B32 k32 x2 x3 X Y = some res) : W p l e zR_Mod_findParts s m args below meth c H locs 0 0 (MQ below (zu_Qv D cA ad A res.1 res.2) args s 0 0 A) (F0 m 32 ls []) := by
  obtain ⟨hx, hb, hml, hown, hts, hST⟩ := id B
  unfold fn_Mod_findParts_B32 at hf
  refine lv_iload_n hx hb zd_Mod_findParts_32 rfl (lv_at hl 2 rfl) ?_
  refine lv_iload_n hx hb zd_Mod_findParts_33 rfl (lv_at hl 1 rfl) ?_
  refine lv_icmp_ge (tgt := 190) hx hb zd_Mod_findParts_34 (by decide) (fun c3 => ?_) (fun c3 => ?_)
  · have hf := zu_t c3 hf
    obtain rfl := Option.some.inj hf
    exact zr_vret hx hb hret hlk hP hS zd_Mod_findParts_190
  · have hf := zu_f c3 hf
    refine lv_iconst (v := 0) hx hb zd_Mod_findParts_37 (by decide) ?_
    refine lv_istore (lv' := [(4, .int (0 : Int32)), (0, .ref (ad 95)), (2, .int x2), (3, .int x3)]) hx hb zd_Mod_findParts_38 hl (by decide) rfl (fun ls hl => ?_)
    exact zl_Mod_findParts_L40 B hret hlk hk32 400 x2 x3 (0 : Int32) X Y _ _ _ hP hS (lv_sub hl [1, 2, 3, 0] rfl) hf
theorem zl_Mod_findParts_L32 {p : Program} {l : Launch} {e : Env} {s : State} {m : MethodId} {args : Array Value} {below : List Frame} {meth : Method} {c : Code} {D : va_G} {cA : Nat → ClassId} {ad : Nat → Nat} {A : Nat → Prop} (B : zu_B p s m args c zb_Mod_findParts 5 "StonePostModel" D cA ad A) (hret : meth.sig.returnType = none) (hlk : meth.locks = false) {res : IX × LX} : ∀ (n : Nat) (x2 : Int32) (x3 : Int32) (X : IX) (Y : LX) (H : Heap) (locs : List Loc) (ls : Array Slot), va_P D zu_cl (zu_pic cA ad X Y) H → va_S A s.heap H locs → lv_has ls 5 [(0, .ref (ad 95)), (2, .int x2), (3, .int x3)] → fn_Mod_findParts_L32 n x2 x3 X Y = some res → W p l e zR_Mod_findParts s m args below meth c H locs 0 0 (MQ below (zu_Qv D cA ad A res.1 res.2) args s 0 0 A) (F0 m 32 ls []) := by
  intro n
  induction n with
  | zero =>
    intro x2 x3 X Y H locs ls hP hS hl hf
    exact (Option.some_ne_none _ hf.symm).elim
  | succ n ih =>
    intro x2 x3 X Y H locs ls hP hS hl hf
    exact zl_Mod_findParts_B32 B hret hlk ih x2 x3 X Y H locs ls hP hS hl  hf
set_option maxHeartbeats 4000000 in
theorem zl_Mod_findParts_L23 {p : Program} {l : Launch} {e : Env} {s : State} {m : MethodId} {args : Array Value} {below : List Frame} {meth : Method} {c : Code} {D : va_G} {cA : Nat → ClassId} {ad : Nat → Nat} {A : Nat → Prop} (B : zu_B p s m args c zb_Mod_findParts 5 "StonePostModel" D cA ad A) (hret : meth.sig.returnType = none) (hlk : meth.locks = false) {res : IX × LX} {k2 : Int32 → Int32 → Int32 → IX → LX → Option (IX × LX)} (hk2 : ∀ (x1 : Int32) (x2 : Int32) (x3 : Int32) (X : IX) (Y : LX) (H : Heap) (locs : List Loc) (ls : Array Slot), va_P D zu_cl (zu_pic cA ad X Y) H → va_S A s.heap H locs → lv_has ls 5 [(0, .ref (ad 95)), (1, .int x1), (2, .int x2), (3, .int x3)] → k2 x1 x2 x3 X Y = some res → W p l e zR_Mod_findParts s m args below meth c H locs 0 0 (MQ below (zu_Qv D cA ad A res.1 res.2) args s 0 0 A) (F0 m 2 ls [])) (x1 : Int32) (x2 : Int32) (x3 : Int32) (y0 : Int64) (y1 : Int32) (X : IX) (Y : LX) (H : Heap) (locs : List Loc) (ls : Array Slot) (hP : va_P D zu_cl (zu_pic cA ad X Y) H) (hS : va_S A s.heap H locs) (hl : lv_has ls 5 [(0, .ref (ad 95)), (1, .int x1), (2, .int x2), (3, .int x3)]) (hf : fn_Mod_findParts_L23 k2 x1 x2 x3 y0 y1 X Y = some res) : W p l e zR_Mod_findParts s m args below meth c H locs 0 0 (MQ below (zu_Qv D cA ad A res.1 res.2) args s 0 0 A) (F0 m 23 ls [.long y0, .int y1, .ref (ad 100)]) := by
  obtain ⟨hx, hb, hml, hown, hts, hST⟩ := id B
  unfold fn_Mod_findParts_L23 at hf
  obtain ⟨hg4, hf⟩ := zu_gd_e hf
  refine zr_last rfl B hP hS hf rfl (by decide) rfl hg4 zd_Mod_findParts_23 (fun Y5 H locs hf hP hS => ?_)
  obtain ⟨v6, ev6, hf⟩ := zu_nx_e hf
  refine lv_iinc (v := v6) (lv' := [(3, .int v6), (0, .ref (ad 95)), (1, .int x1), (2, .int x2)]) hx hb zd_Mod_findParts_24 hl (k := 3) rfl (by rw [ev6]; rfl) (by decide) rfl (fun ls hl => ?_)
  clear ev6
  refine lv_goto (tgt := 2) hx hb zd_Mod_findParts_27 (by decide) ?_
  exact hk2 x1 x2 v6 X Y5 _ _ _ hP hS (lv_sub hl [1, 2, 3, 0] rfl) hf
set_option maxHeartbeats 4000000 in
theorem zl_Mod_findParts_B2 {p : Program} {l : Launch} {e : Env} {s : State} {m : MethodId} {args : Array Value} {below : List Frame} {meth : Method} {c : Code} {D : va_G} {cA : Nat → ClassId} {ad : Nat → Nat} {A : Nat → Prop} (B : zu_B p s m args c zb_Mod_findParts 5 "StonePostModel" D cA ad A) (hret : meth.sig.returnType = none) (hlk : meth.locks = false) {res : IX × LX} {k2 : Int32 → Int32 → Int32 → IX → LX → Option (IX × LX)} (hk2 : ∀ (x1 : Int32) (x2 : Int32) (x3 : Int32) (X : IX) (Y : LX) (H : Heap) (locs : List Loc) (ls : Array Slot), va_P D zu_cl (zu_pic cA ad X Y) H → va_S A s.heap H locs → lv_has ls 5 [(0, .ref (ad 95)), (1, .int x1), (2, .int x2), (3, .int x3)] → k2 x1 x2 x3 X Y = some res → W p l e zR_Mod_findParts s m args below meth c H locs 0 0 (MQ below (zu_Qv D cA ad A res.1 res.2) args s 0 0 A) (F0 m 2 ls [])) (x1 : Int32) (x2 : Int32) (x3 : Int32) (X : IX) (Y : LX) (H : Heap) (locs : List Loc) (ls : Array Slot) (hP : va_P D zu_cl (zu_pic cA ad X Y) H) (hS : va_S A s.heap H locs) (hl : lv_has ls 5 [(0, .ref (ad 95)), (1, .int x1), (2, .int x2), (3, .int x3)]) (hf : fn_Mod_findParts_B2 k2 x1 x2 x3 X Y = some res) : W p l e zR_Mod_findParts s m args below meth c H locs 0 0 (MQ below (zu_Qv D cA ad A res.1 res.2) args s 0 0 A) (F0 m 2 ls []) := by
  obtain ⟨hx, hb, hml, hown, hts, hST⟩ := id B
  unfold fn_Mod_findParts_B2 at hf
  refine lv_iload_n hx hb zd_Mod_findParts_2 rfl (lv_at hl 3 rfl) ?_
  refine lv_bipush (v := 24) hx hb zd_Mod_findParts_3 (by decide) ?_
  refine lv_icmp_ge (tgt := 30) hx hb zd_Mod_findParts_5 (by decide) (fun c1 => ?_) (fun c1 => ?_)
  · have hf := zu_t c1 hf
    refine lv_iconst (v := 0) hx hb zd_Mod_findParts_30 (by decide) ?_
    refine lv_istore_n (lv' := [(3, .int (0 : Int32)), (0, .ref (ad 95)), (1, .int x1), (2, .int x2)]) hx hb zd_Mod_findParts_31 rfl hl (by decide) rfl (fun ls hl => ?_)
    exact zl_Mod_findParts_L32 B hret hlk 400 x2 (0 : Int32) X Y _ _ _ hP hS (lv_sub hl [1, 3, 0] rfl) hf
  · have hf := zu_f c1 hf
    refine lv_aload_n hx hb zd_Mod_findParts_8 rfl (lv_at hl 0 rfl) ?_
    refine zg_Mod_parts B hP rfl zq_870 zd_Mod_findParts_9 ?_
    refine lv_iload_n hx hb zd_Mod_findParts_12 rfl (lv_at hl 3 rfl) ?_
    refine lv_iload_n hx hb zd_Mod_findParts_13 rfl (lv_at hl 3 rfl) ?_
    refine lv_iload_n hx hb zd_Mod_findParts_14 rfl (lv_at hl 1 rfl) ?_
    refine lv_icmp_ne (tgt := 22) hx hb zd_Mod_findParts_15 (by decide) (fun c2 => ?_) (fun c2 => ?_)
    · have hf := zu_f c2 hf
      refine lv_lconst (v := 0) hx hb zd_Mod_findParts_22 (by decide) ?_
      exact zl_Mod_findParts_L23 B hret hlk hk2 x1 x2 x3 (0 : Int64) x3 X Y _ _ _ hP hS (lv_sub hl [0, 1, 2, 3] rfl) hf
    · have hf := zu_t c2 hf
      refine lv_lconst (v := 1) hx hb zd_Mod_findParts_18 (by decide) ?_
      refine lv_goto (tgt := 23) hx hb zd_Mod_findParts_19 (by decide) ?_
      exact zl_Mod_findParts_L23 B hret hlk hk2 x1 x2 x3 (1 : Int64) x3 X Y _ _ _ hP hS (lv_sub hl [0, 1, 2, 3] rfl) hf
theorem zl_Mod_findParts_L2 {p : Program} {l : Launch} {e : Env} {s : State} {m : MethodId} {args : Array Value} {below : List Frame} {meth : Method} {c : Code} {D : va_G} {cA : Nat → ClassId} {ad : Nat → Nat} {A : Nat → Prop} (B : zu_B p s m args c zb_Mod_findParts 5 "StonePostModel" D cA ad A) (hret : meth.sig.returnType = none) (hlk : meth.locks = false) {res : IX × LX} : ∀ (n : Nat) (x1 : Int32) (x2 : Int32) (x3 : Int32) (X : IX) (Y : LX) (H : Heap) (locs : List Loc) (ls : Array Slot), va_P D zu_cl (zu_pic cA ad X Y) H → va_S A s.heap H locs → lv_has ls 5 [(0, .ref (ad 95)), (1, .int x1), (2, .int x2), (3, .int x3)] → fn_Mod_findParts_L2 n x1 x2 x3 X Y = some res → W p l e zR_Mod_findParts s m args below meth c H locs 0 0 (MQ below (zu_Qv D cA ad A res.1 res.2) args s 0 0 A) (F0 m 2 ls []) := by
  intro n
  induction n with
  | zero =>
    intro x1 x2 x3 X Y H locs ls hP hS hl hf
    exact (Option.some_ne_none _ hf.symm).elim
  | succ n ih =>
    intro x1 x2 x3 X Y H locs ls hP hS hl hf
    exact zl_Mod_findParts_B2 B hret hlk ih x1 x2 x3 X Y H locs ls hP hS hl  hf
set_option maxHeartbeats 4000000 in
theorem zl_Mod_findParts {p : Program} {l : Launch} {e : Env} {s : State} {m : MethodId} {args : Array Value} {below : List Frame} {meth : Method} {c : Code} {D : va_G} {cA : Nat → ClassId} {ad : Nat → Nat} {A : Nat → Prop} (B : zu_B p s m args c zb_Mod_findParts 5 "StonePostModel" D cA ad A) (hret : meth.sig.returnType = none) (hlk : meth.locks = false) {res : IX × LX} {a1 : Int32} {a2 : Int32} {X : IX} {Y : LX} (H : Heap) (locs : List Loc) (ls : Array Slot) (hP : va_P D zu_cl (zu_pic cA ad X Y) H) (hS : va_S A s.heap H locs) (hl : lv_has ls 5 [(0, .ref (ad 95)), (1, .int a1), (2, .int a2)]) (hf : fn_Mod_findParts a1 a2 X Y = some res) : W p l e zR_Mod_findParts s m args below meth c H locs 0 0 (MQ below (zu_Qv D cA ad A res.1 res.2) args s 0 0 A) (F0 m 0 ls []) := by
  obtain ⟨hx, hb, hml, hown, hts, hST⟩ := id B
  unfold fn_Mod_findParts at hf
  refine lv_iconst (v := 0) hx hb zd_Mod_findParts_0 (by decide) ?_
  refine lv_istore_n (lv' := [(3, .int (0 : Int32)), (0, .ref (ad 95)), (1, .int a1), (2, .int a2)]) hx hb zd_Mod_findParts_1 rfl hl (by decide) rfl (fun ls hl => ?_)
  exact zl_Mod_findParts_L2 B hret hlk 400 a1 a2 (0 : Int32) X Y _ _ _ hP hS (lv_sub hl [1, 2, 3, 0] rfl) hf
theorem zC_Mod_findParts (l : Launch) {D : va_G} {cA : Nat → ClassId} {ad : Nat → Nat} {A : Nat → Prop} {a1 : Int32} {a2 : Int32} {X : IX} {Y : LX} {res : IX × LX} (hf : fn_Mod_findParts a1 a2 X Y = some res) : Met l zm_Mod_findParts (zu_ws zm_Mod_findParts zb_Mod_findParts 5 none) zR_Mod_findParts (va_Pc [.ref (ad 95), .int a1, .int a2] (zu_Pre D cA ad A X Y)) (zu_Qv D cA ad A res.1 res.2) 0 0 A := by
  refine Met.ofW (cc := zb_Mod_findParts) (maxL := 5) (ret := none) (by decide +kernel) rfl ?_
  intro p e s m args below meth c s₁ B0 hml hv
  obtain ⟨rfl, hP, hST⟩ := hv
  have B : zu_B p s m _ c zb_Mod_findParts 5 "StonePostModel" D cA ad A := ⟨B0.exec, B0.bytes, hml, findClass_of_methodNamed B0.named, (fun w hw => atoms_spec (ws := zu_ws zm_Mod_findParts zb_Mod_findParts 5 none) B0.pre w (List.mem_cons_of_mem _ hw)), hST⟩
  have hl := lv_entry ([.ref (ad 95), .int a1, .int a2]) (n := 5) (Nat.le_of_ble_eq_true rfl)
  rw [lg_entry_eq]
  generalize (lg_sl ([.ref (ad 95), .int a1, .int a2]) ++ List.replicate (5 - (lg_sl ([.ref (ad 95), .int a1, .int a2])).length) Slot.unset).toArray = ls at hl ⊢
  exact zl_Mod_findParts B B0.returns B0.notSynchronized s.heap [] ls hP va_S.rf hl  hf
theorem zw_Mod_findParts {p : Program} {l : Launch} {e : Env} {R : Room} {s : State} {m : MethodId} {args : Array Value} {below : List Frame} {meth : Method} {c : Code} {H : Heap} {locs : List Loc} {cells slots : Nat} {Q : State → Prop} {cc : ByteArray} {pc nL : Nat} {ls : Array Slot} {rest st0 : List Value} {D : va_G} {cA : Nat → ClassId} {ad : Nat → Nat} {A : Nat → Prop} {X : IX} {Y : LX} {own : String} {index : Nat} {a1 : Int32} {a2 : Int32} {X1 : IX} {Y1 : LX} (B : zu_B p s m args c cc nL own D cA ad A) (hP : va_P D zu_cl (zu_pic cA ad X Y) H) (hS : va_S A s.heap H locs) (hq : fn_Mod_findParts a1 a2 X Y = some (X1, Y1)) (m1 : Cond.methodLink own index zm_Mod_findParts ∈ zu_TB) (hR1 : 5 + 1 ≤ R.frames) (hR2 : 8 + (5 + 11) + 119 ≤ R.locals) (hsz : ls.size = nL) (hst : st0 = .int a2 :: .int a1 :: .ref (ad 95) :: rest) (hw : (rest.map fun v => v.category).sum ≤ 8) (hdg : decode cc pc = .ok (.invokevirtual index, 3)) (h00 : cells ≤ R.cells ∧ slots ≤ R.slots) (kk : ∀ (H1 : Heap) (locs1 : List Loc), va_P D zu_cl (zu_pic cA ad X1 Y1) H1 → va_S A s.heap H1 locs1 → W p l e R s m args below meth c H1 locs1 cells slots Q (F0 m (pc + 3) ls (rest))) : W p l e R s m args below meth c H locs cells slots Q (F0 m pc ls st0) := by
  subst hst
  exact zr_cVv (As := [.int a1, .int a2]) (rest := rest) (n := 2) (C := "StonePostModel") (T := zt_Mod) (N := 23) B hP hS (zC_Mod_findParts l  hq) (K := 7) rfl (by decide) (by decide) rfl rfl m1 zq_1099 zqP_37 zq_8 zq_1100 (by decide +kernel) ⟨hR1, hR2⟩ rfl rfl rfl hsz rfl hw hdg h00 kk
abbrev zR_Mod_homeParts : Room := { frames := 6, cells := 0, slots := 0, locals := 143 }
theorem zd_Mod_homeParts_0 : decode zb_Mod_homeParts 0 = .ok (.aload_n 0, 1) := by decide +kernel
theorem zd_Mod_homeParts_1 : decode zb_Mod_homeParts 1 = .ok (.iload_n 1, 1) := by decide +kernel
theorem zd_Mod_homeParts_2 : decode zb_Mod_homeParts 2 = .ok (.iload_n 2, 1) := by decide +kernel
theorem zd_Mod_homeParts_3 : decode zb_Mod_homeParts 3 = .ok (.invokevirtual 168, 3) := by decide +kernel
theorem zd_Mod_homeParts_6 : decode zb_Mod_homeParts 6 = .ok (.aload_n 0, 1) := by decide +kernel
theorem zd_Mod_homeParts_7 : decode zb_Mod_homeParts 7 = .ok (.getfield 22, 3) := by decide +kernel
theorem zd_Mod_homeParts_10 : decode zb_Mod_homeParts 10 = .ok (.aload_n 0, 1) := by decide +kernel
theorem zd_Mod_homeParts_11 : decode zb_Mod_homeParts 11 = .ok (.getfield 7, 3) := by decide +kernel
theorem zd_Mod_homeParts_14 : decode zb_Mod_homeParts 14 = .ok (.iconst 3, 1) := by decide +kernel
theorem zd_Mod_homeParts_15 : decode zb_Mod_homeParts 15 = .ok (.iaload, 1) := by decide +kernel
theorem zd_Mod_homeParts_16 : decode zb_Mod_homeParts 16 = .ok (.laload, 1) := by decide +kernel
theorem zd_Mod_homeParts_17 : decode zb_Mod_homeParts 17 = .ok (.lreturn, 1) := by decide +kernel
set_option maxHeartbeats 4000000 in
theorem zl_Mod_homeParts {p : Program} {l : Launch} {e : Env} {s : State} {m : MethodId} {args : Array Value} {below : List Frame} {meth : Method} {c : Code} {D : va_G} {cA : Nat → ClassId} {ad : Nat → Nat} {A : Nat → Prop} (B : zu_B p s m args c zb_Mod_homeParts 3 "StonePostModel" D cA ad A) (hret : meth.sig.returnType = (some .long)) (hlk : meth.locks = false) {res : Int64 × IX × LX} {a1 : Int32} {a2 : Int32} {X : IX} {Y : LX} (H : Heap) (locs : List Loc) (ls : Array Slot) (hP : va_P D zu_cl (zu_pic cA ad X Y) H) (hS : va_S A s.heap H locs) (hl : lv_has ls 3 [(0, .ref (ad 95)), (1, .int a1), (2, .int a2)]) (hf : fn_Mod_homeParts a1 a2 X Y = some res) : W p l e zR_Mod_homeParts s m args below meth c H locs 0 0 (MQ below (zu_Ql D cA ad A res.1 res.2.1 res.2.2) args s 0 0 A) (F0 m 0 ls []) := by
  obtain ⟨hx, hb, hml, hown, hts, hST⟩ := id B
  unfold fn_Mod_homeParts at hf
  refine lv_aload_n hx hb zd_Mod_homeParts_0 rfl (lv_at hl 0 rfl) ?_
  refine lv_iload_n hx hb zd_Mod_homeParts_1 rfl (lv_at hl 1 rfl) ?_
  refine lv_iload_n hx hb zd_Mod_homeParts_2 rfl (lv_at hl 2 rfl) ?_
  obtain ⟨X1, Y2, hq3, hf⟩ := zu_b2_e hf
  refine zw_Mod_findParts (rest := []) B hP hS hq3 zq_1097 (Nat.le_of_ble_eq_true rfl) (Nat.le_of_ble_eq_true rfl) hl.1 rfl (Nat.le_of_ble_eq_true rfl) zd_Mod_homeParts_3 (by decide) (fun H locs hP hS => ?_)
  clear hq3
  refine lv_aload_n hx hb zd_Mod_homeParts_6 rfl (lv_at hl 0 rfl) ?_
  refine zg_Mod_parts B hP rfl zq_870 zd_Mod_homeParts_7 ?_
  refine lv_aload_n hx hb zd_Mod_homeParts_10 rfl (lv_at hl 0 rfl) ?_
  refine zg_Mod_s B hP rfl zq_861 zd_Mod_homeParts_11 ?_
  refine lv_iconst (v := 3) hx hb zd_Mod_homeParts_14 (by decide) ?_
  refine zr_iald (j := 3) (by decide) B hP rfl (by decide) rfl (by decide) zd_Mod_homeParts_15 ?_
  obtain ⟨hg4, hf⟩ := zu_gd_e hf
  refine zr_lald rfl B hP rfl (by decide) rfl hg4 zd_Mod_homeParts_16 ?_
  obtain rfl := Option.some.inj hf
  exact zr_lret hx hb hret hlk hP hS zd_Mod_homeParts_17
theorem zC_Mod_homeParts (l : Launch) {D : va_G} {cA : Nat → ClassId} {ad : Nat → Nat} {A : Nat → Prop} {a1 : Int32} {a2 : Int32} {X : IX} {Y : LX} {res : Int64 × IX × LX} (hf : fn_Mod_homeParts a1 a2 X Y = some res) : Met l zm_Mod_homeParts (zu_ws zm_Mod_homeParts zb_Mod_homeParts 3 (some .long)) zR_Mod_homeParts (va_Pc [.ref (ad 95), .int a1, .int a2] (zu_Pre D cA ad A X Y)) (zu_Ql D cA ad A res.1 res.2.1 res.2.2) 0 0 A := by
  refine Met.ofW (cc := zb_Mod_homeParts) (maxL := 3) (ret := (some .long)) (by decide +kernel) rfl ?_
  intro p e s m args below meth c s₁ B0 hml hv
  obtain ⟨rfl, hP, hST⟩ := hv
  have B : zu_B p s m _ c zb_Mod_homeParts 3 "StonePostModel" D cA ad A := ⟨B0.exec, B0.bytes, hml, findClass_of_methodNamed B0.named, (fun w hw => atoms_spec (ws := zu_ws zm_Mod_homeParts zb_Mod_homeParts 3 (some .long)) B0.pre w (List.mem_cons_of_mem _ hw)), hST⟩
  have hl := lv_entry ([.ref (ad 95), .int a1, .int a2]) (n := 3) (Nat.le_of_ble_eq_true rfl)
  rw [lg_entry_eq]
  generalize (lg_sl ([.ref (ad 95), .int a1, .int a2]) ++ List.replicate (3 - (lg_sl ([.ref (ad 95), .int a1, .int a2])).length) Slot.unset).toArray = ls at hl ⊢
  exact zl_Mod_homeParts B B0.returns B0.notSynchronized s.heap [] ls hP va_S.rf hl  hf
theorem zw_Mod_homeParts {p : Program} {l : Launch} {e : Env} {R : Room} {s : State} {m : MethodId} {args : Array Value} {below : List Frame} {meth : Method} {c : Code} {H : Heap} {locs : List Loc} {cells slots : Nat} {Q : State → Prop} {cc : ByteArray} {pc nL : Nat} {ls : Array Slot} {rest st0 : List Value} {D : va_G} {cA : Nat → ClassId} {ad : Nat → Nat} {A : Nat → Prop} {X : IX} {Y : LX} {own : String} {index : Nat} {a1 : Int32} {a2 : Int32} {v1 : Int64} {X1 : IX} {Y1 : LX} (B : zu_B p s m args c cc nL own D cA ad A) (hP : va_P D zu_cl (zu_pic cA ad X Y) H) (hS : va_S A s.heap H locs) (hq : fn_Mod_homeParts a1 a2 X Y = some (v1, X1, Y1)) (m1 : Cond.methodLink own index zm_Mod_homeParts ∈ zu_TB) (hR1 : 6 + 1 ≤ R.frames) (hR2 : 8 + (3 + 11) + 143 ≤ R.locals) (hsz : ls.size = nL) (hst : st0 = .int a2 :: .int a1 :: .ref (ad 95) :: rest) (hw : (rest.map fun v => v.category).sum ≤ 8) (hdg : decode cc pc = .ok (.invokevirtual index, 3)) (h00 : cells ≤ R.cells ∧ slots ≤ R.slots) (kk : ∀ (H1 : Heap) (locs1 : List Loc), va_P D zu_cl (zu_pic cA ad X1 Y1) H1 → va_S A s.heap H1 locs1 → W p l e R s m args below meth c H1 locs1 cells slots Q (F0 m (pc + 3) ls (.long v1 :: rest))) : W p l e R s m args below meth c H locs cells slots Q (F0 m pc ls st0) := by
  subst hst
  exact zr_cVl (As := [.int a1, .int a2]) (rest := rest) (n := 2) (C := "StonePostModel") (T := zt_Mod) (N := 23) B hP hS (zC_Mod_homeParts l  hq) (K := 7) rfl (by decide) (by decide) rfl rfl m1 zq_1172 zqP_46 zq_8 zq_1173 (by decide +kernel) ⟨hR1, hR2⟩ rfl rfl rfl hsz rfl hw hdg h00 kk
abbrev zR_Mod_isOdds : Room := { frames := 2, cells := 0, slots := 0, locals := 45 }
theorem zd_Mod_isOdds_0 : decode zb_Mod_isOdds 0 = .ok (.iload_n 0, 1) := by decide +kernel
theorem zd_Mod_isOdds_1 : decode zb_Mod_isOdds 1 = .ok (.invokestatic 58, 3) := by decide +kernel
theorem zd_Mod_isOdds_4 : decode zb_Mod_isOdds 4 = .ok (.ifCond .eq 18, 3) := by decide +kernel
theorem zd_Mod_isOdds_7 : decode zb_Mod_isOdds 7 = .ok (.iload_n 1, 1) := by decide +kernel
theorem zd_Mod_isOdds_8 : decode zb_Mod_isOdds 8 = .ok (.i2l, 1) := by decide +kernel
theorem zd_Mod_isOdds_9 : decode zb_Mod_isOdds 9 = .ok (.lconst 0, 1) := by decide +kernel
theorem zd_Mod_isOdds_10 : decode zb_Mod_isOdds 10 = .ok (.iload_n 2, 1) := by decide +kernel
theorem zd_Mod_isOdds_11 : decode zb_Mod_isOdds 11 = .ok (.i2l, 1) := by decide +kernel
theorem zd_Mod_isOdds_12 : decode zb_Mod_isOdds 12 = .ok (.invokestatic 53, 3) := by decide +kernel
theorem zd_Mod_isOdds_15 : decode zb_Mod_isOdds 15 = .ok (.ifCond .eq 7, 3) := by decide +kernel
theorem zd_Mod_isOdds_18 : decode zb_Mod_isOdds 18 = .ok (.iconst 1, 1) := by decide +kernel
theorem zd_Mod_isOdds_19 : decode zb_Mod_isOdds 19 = .ok (.goto 4, 3) := by decide +kernel
theorem zd_Mod_isOdds_22 : decode zb_Mod_isOdds 22 = .ok (.iconst 0, 1) := by decide +kernel
theorem zd_Mod_isOdds_23 : decode zb_Mod_isOdds 23 = .ok (.ireturn, 1) := by decide +kernel
set_option maxHeartbeats 4000000 in
theorem zl_Mod_isOdds_L23 {p : Program} {l : Launch} {e : Env} {s : State} {m : MethodId} {args : Array Value} {below : List Frame} {meth : Method} {c : Code} {D : va_G} {cA : Nat → ClassId} {ad : Nat → Nat} {A : Nat → Prop} (B : zu_B p s m args c zb_Mod_isOdds 3 "StonePostModel" D cA ad A) (hret : meth.sig.returnType = (some .boolean)) (hlk : meth.locks = false) {X : IX} {Y : LX} {res : Int32} (y0 : Int32) (H : Heap) (locs : List Loc) (ls : Array Slot) (hP : va_P D zu_cl (zu_pic cA ad X Y) H) (hS : va_S A s.heap H locs) (hl : lv_has ls 3 []) (hf : fn_Mod_isOdds_L23 y0 = some res) : W p l e zR_Mod_isOdds s m args below meth c H locs 0 0 (MQ below (zu_Qi D cA ad A res X Y) args s 0 0 A) (F0 m 23 ls [.int y0]) := by
  obtain ⟨hx, hb, hml, hown, hts, hST⟩ := id B
  unfold fn_Mod_isOdds_L23 at hf
  obtain ⟨hg7, hf⟩ := zu_gd_e hf
  obtain rfl := Option.some.inj hf
  exact zr_zret hx hb hret hlk hP hS hg7 zd_Mod_isOdds_23
set_option maxHeartbeats 4000000 in
theorem zl_Mod_isOdds_L22 {p : Program} {l : Launch} {e : Env} {s : State} {m : MethodId} {args : Array Value} {below : List Frame} {meth : Method} {c : Code} {D : va_G} {cA : Nat → ClassId} {ad : Nat → Nat} {A : Nat → Prop} (B : zu_B p s m args c zb_Mod_isOdds 3 "StonePostModel" D cA ad A) (hret : meth.sig.returnType = (some .boolean)) (hlk : meth.locks = false) {X : IX} {Y : LX} {res : Int32} (H : Heap) (locs : List Loc) (ls : Array Slot) (hP : va_P D zu_cl (zu_pic cA ad X Y) H) (hS : va_S A s.heap H locs) (hl : lv_has ls 3 []) (hf : fn_Mod_isOdds_L22 = some res) : W p l e zR_Mod_isOdds s m args below meth c H locs 0 0 (MQ below (zu_Qi D cA ad A res X Y) args s 0 0 A) (F0 m 22 ls []) := by
  obtain ⟨hx, hb, hml, hown, hts, hST⟩ := id B
  unfold fn_Mod_isOdds_L22 at hf
  refine lv_iconst (v := 0) hx hb zd_Mod_isOdds_22 (by decide) ?_
  exact zl_Mod_isOdds_L23 B hret hlk (0 : Int32) _ _ _ hP hS (lv_sub hl [] rfl) hf
set_option maxHeartbeats 4000000 in
theorem zl_Mod_isOdds {p : Program} {l : Launch} {e : Env} {s : State} {m : MethodId} {args : Array Value} {below : List Frame} {meth : Method} {c : Code} {D : va_G} {cA : Nat → ClassId} {ad : Nat → Nat} {A : Nat → Prop} (B : zu_B p s m args c zb_Mod_isOdds 3 "StonePostModel" D cA ad A) (hret : meth.sig.returnType = (some .boolean)) (hlk : meth.locks = false) {X : IX} {Y : LX} {res : Int32} {a0 : Int32} {a1 : Int32} {a2 : Int32} (H : Heap) (locs : List Loc) (ls : Array Slot) (hP : va_P D zu_cl (zu_pic cA ad X Y) H) (hS : va_S A s.heap H locs) (hl : lv_has ls 3 [(0, .int a0), (1, .int a1), (2, .int a2)]) (hf : fn_Mod_isOdds a0 a1 a2 = some res) : W p l e zR_Mod_isOdds s m args below meth c H locs 0 0 (MQ below (zu_Qi D cA ad A res X Y) args s 0 0 A) (F0 m 0 ls []) := by
  obtain ⟨hx, hb, hml, hown, hts, hST⟩ := id B
  unfold fn_Mod_isOdds at hf
  refine lv_iload_n hx hb zd_Mod_isOdds_0 rfl (lv_at hl 0 rfl) ?_
  obtain ⟨v1, hq2, hf⟩ := zu_b1_e hf
  refine zw_Mod_isCell (rest := []) B hP hS hq2 zq_935 (Nat.le_of_ble_eq_true rfl) (Nat.le_of_ble_eq_true rfl) hl.1 rfl (Nat.le_of_ble_eq_true rfl) zd_Mod_isOdds_1 (by decide) (fun H locs hP hS => ?_)
  clear hq2
  refine lv_if_eq (tgt := 22) hx hb zd_Mod_isOdds_4 (by decide) (fun c3 => ?_) (fun c3 => ?_)
  · have hf := zu_t c3 hf
    exact zl_Mod_isOdds_L22 B hret hlk _ _ _ hP hS (lv_sub hl [] rfl) hf
  · have hf := zu_f c3 hf
    refine lv_iload_n hx hb zd_Mod_isOdds_7 rfl (lv_at hl 1 rfl) ?_
    refine lv_i2l hx hb zd_Mod_isOdds_8 rfl ?_
    refine lv_lconst (v := 0) hx hb zd_Mod_isOdds_9 (by decide) ?_
    refine lv_iload_n hx hb zd_Mod_isOdds_10 rfl (lv_at hl 2 rfl) ?_
    refine lv_i2l hx hb zd_Mod_isOdds_11 rfl ?_
    obtain ⟨v4, hq5, hf⟩ := zu_b1_e hf
    refine zw_Mod_in (rest := []) B hP hS hq5 zq_939 (Nat.le_of_ble_eq_true rfl) (Nat.le_of_ble_eq_true rfl) hl.1 rfl (Nat.le_of_ble_eq_true rfl) zd_Mod_isOdds_12 (by decide) (fun H locs hP hS => ?_)
    clear hq5
    refine lv_if_eq (tgt := 22) hx hb zd_Mod_isOdds_15 (by decide) (fun c6 => ?_) (fun c6 => ?_)
    · have hf := zu_t c6 hf
      exact zl_Mod_isOdds_L22 B hret hlk _ _ _ hP hS (lv_sub hl [] rfl) hf
    · have hf := zu_f c6 hf
      refine lv_iconst (v := 1) hx hb zd_Mod_isOdds_18 (by decide) ?_
      refine lv_goto (tgt := 23) hx hb zd_Mod_isOdds_19 (by decide) ?_
      exact zl_Mod_isOdds_L23 B hret hlk (1 : Int32) _ _ _ hP hS (lv_sub hl [] rfl) hf
theorem zC_Mod_isOdds (l : Launch) {D : va_G} {cA : Nat → ClassId} {ad : Nat → Nat} {A : Nat → Prop} {a0 : Int32} {a1 : Int32} {a2 : Int32} {X : IX} {Y : LX} {res : Int32} (hf : fn_Mod_isOdds a0 a1 a2 = some res) : Met l zm_Mod_isOdds (zu_ws zm_Mod_isOdds zb_Mod_isOdds 3 (some .boolean)) zR_Mod_isOdds (va_Pc [.int a0, .int a1, .int a2] (zu_Pre D cA ad A X Y)) (zu_Qi D cA ad A res X Y) 0 0 A := by
  refine Met.ofW (cc := zb_Mod_isOdds) (maxL := 3) (ret := (some .boolean)) (by decide +kernel) rfl ?_
  intro p e s m args below meth c s₁ B0 hml hv
  obtain ⟨rfl, hP, hST⟩ := hv
  have B : zu_B p s m _ c zb_Mod_isOdds 3 "StonePostModel" D cA ad A := ⟨B0.exec, B0.bytes, hml, findClass_of_methodNamed B0.named, (fun w hw => atoms_spec (ws := zu_ws zm_Mod_isOdds zb_Mod_isOdds 3 (some .boolean)) B0.pre w (List.mem_cons_of_mem _ hw)), hST⟩
  have hl := lv_entry ([.int a0, .int a1, .int a2]) (n := 3) (Nat.le_of_ble_eq_true rfl)
  rw [lg_entry_eq]
  generalize (lg_sl ([.int a0, .int a1, .int a2]) ++ List.replicate (3 - (lg_sl ([.int a0, .int a1, .int a2])).length) Slot.unset).toArray = ls at hl ⊢
  exact zl_Mod_isOdds B B0.returns B0.notSynchronized s.heap [] ls hP va_S.rf hl  hf
theorem zw_Mod_isOdds {p : Program} {l : Launch} {e : Env} {R : Room} {s : State} {m : MethodId} {args : Array Value} {below : List Frame} {meth : Method} {c : Code} {H : Heap} {locs : List Loc} {cells slots : Nat} {Q : State → Prop} {cc : ByteArray} {pc nL : Nat} {ls : Array Slot} {rest st0 : List Value} {D : va_G} {cA : Nat → ClassId} {ad : Nat → Nat} {A : Nat → Prop} {X : IX} {Y : LX} {own : String} {index : Nat} {a0 : Int32} {a1 : Int32} {a2 : Int32} {v1 : Int32} (B : zu_B p s m args c cc nL own D cA ad A) (hP : va_P D zu_cl (zu_pic cA ad X Y) H) (hS : va_S A s.heap H locs) (hq : fn_Mod_isOdds a0 a1 a2 = some v1) (m1 : Cond.methodLink own index zm_Mod_isOdds ∈ zu_TB) (hR1 : 2 + 1 ≤ R.frames) (hR2 : 8 + (3 + 11) + 45 ≤ R.locals) (hsz : ls.size = nL) (hst : st0 = .int a2 :: .int a1 :: .int a0 ::  rest) (hw : (rest.map fun v => v.category).sum ≤ 8) (hdg : decode cc pc = .ok (.invokestatic index, 3)) (h00 : cells ≤ R.cells ∧ slots ≤ R.slots) (kk : ∀ (H1 : Heap) (locs1 : List Loc), va_P D zu_cl (zu_pic cA ad X Y) H1 → va_S A s.heap H1 locs1 → W p l e R s m args below meth c H1 locs1 cells slots Q (F0 m (pc + 3) ls (.int v1 :: rest))) : W p l e R s m args below meth c H locs cells slots Q (F0 m pc ls st0) := by
  subst hst
  exact zr_cSi (As := [.int a0, .int a1, .int a2]) (rest := rest) (n := 3) B hP hS (zC_Mod_isOdds l  hq) m1 zq_1095 zq_8 zq_1096 (by decide +kernel) ⟨hR1, hR2⟩ rfl rfl rfl hsz rfl hw hdg h00 kk
abbrev zR_Mod_odds : Room := { frames := 6, cells := 0, slots := 0, locals := 143 }
theorem zd_Mod_odds_0 : decode zb_Mod_odds 0 = .ok (.iload_n 1, 1) := by decide +kernel
theorem zd_Mod_odds_1 : decode zb_Mod_odds 1 = .ok (.iload_n 2, 1) := by decide +kernel
theorem zd_Mod_odds_2 : decode zb_Mod_odds 2 = .ok (.bipush 15, 2) := by decide +kernel
theorem zd_Mod_odds_4 : decode zb_Mod_odds 4 = .ok (.invokestatic 172, 3) := by decide +kernel
theorem zd_Mod_odds_7 : decode zb_Mod_odds 7 = .ok (.ifCond .eq 10, 3) := by decide +kernel
theorem zd_Mod_odds_10 : decode zb_Mod_odds 10 = .ok (.iload_n 3, 1) := by decide +kernel
theorem zd_Mod_odds_11 : decode zb_Mod_odds 11 = .ok (.invokestatic 58, 3) := by decide +kernel
theorem zd_Mod_odds_14 : decode zb_Mod_odds 14 = .ok (.ifCond .ne 11, 3) := by decide +kernel
theorem zd_Mod_odds_17 : decode zb_Mod_odds 17 = .ok (.aload_n 0, 1) := by decide +kernel
theorem zd_Mod_odds_18 : decode zb_Mod_odds 18 = .ok (.ldc 50, 2) := by decide +kernel
theorem zd_Mod_odds_20 : decode zb_Mod_odds 20 = .ok (.invokevirtual 64, 3) := by decide +kernel
theorem zd_Mod_odds_23 : decode zb_Mod_odds 23 = .ok (.i2l, 1) := by decide +kernel
theorem zd_Mod_odds_24 : decode zb_Mod_odds 24 = .ok (.lreturn, 1) := by decide +kernel
theorem zd_Mod_odds_25 : decode zb_Mod_odds 25 = .ok (.aload_n 0, 1) := by decide +kernel
theorem zd_Mod_odds_26 : decode zb_Mod_odds 26 = .ok (.iload_n 1, 1) := by decide +kernel
theorem zd_Mod_odds_27 : decode zb_Mod_odds 27 = .ok (.iload_n 2, 1) := by decide +kernel
theorem zd_Mod_odds_28 : decode zb_Mod_odds 28 = .ok (.invokevirtual 168, 3) := by decide +kernel
theorem zd_Mod_odds_31 : decode zb_Mod_odds 31 = .ok (.aload_n 0, 1) := by decide +kernel
theorem zd_Mod_odds_32 : decode zb_Mod_odds 32 = .ok (.getfield 22, 3) := by decide +kernel
theorem zd_Mod_odds_35 : decode zb_Mod_odds 35 = .ok (.iload_n 3, 1) := by decide +kernel
theorem zd_Mod_odds_36 : decode zb_Mod_odds 36 = .ok (.laload, 1) := by decide +kernel
theorem zd_Mod_odds_37 : decode zb_Mod_odds 37 = .ok (.lreturn, 1) := by decide +kernel
set_option maxHeartbeats 4000000 in
theorem zl_Mod_odds_L17 {p : Program} {l : Launch} {e : Env} {s : State} {m : MethodId} {args : Array Value} {below : List Frame} {meth : Method} {c : Code} {D : va_G} {cA : Nat → ClassId} {ad : Nat → Nat} {A : Nat → Prop} (B : zu_B p s m args c zb_Mod_odds 4 "StonePostModel" D cA ad A) (hret : meth.sig.returnType = (some .long)) (hlk : meth.locks = false) {res : Int64 × IX × LX} (X : IX) (Y : LX) (H : Heap) (locs : List Loc) (ls : Array Slot) (hP : va_P D zu_cl (zu_pic cA ad X Y) H) (hS : va_S A s.heap H locs) (hl : lv_has ls 4 [(0, .ref (ad 95))]) (hf : fn_Mod_odds_L17 X Y = some res) : W p l e zR_Mod_odds s m args below meth c H locs 0 0 (MQ below (zu_Ql D cA ad A res.1 res.2.1 res.2.2) args s 0 0 A) (F0 m 17 ls []) := by
  obtain ⟨hx, hb, hml, hown, hts, hST⟩ := id B
  unfold fn_Mod_odds_L17 at hf
  refine lv_aload_n hx hb zd_Mod_odds_17 rfl (lv_at hl 0 rfl) ?_
  refine lv_ldc (v := -1000001) hx hb hown (hts _ zq_943) zd_Mod_odds_18 ?_
  obtain ⟨v11, X12, hq13, hf⟩ := zu_b2_e hf
  refine zw_Mod_finds (rest := []) B hP hS hq13 zq_944 (Nat.le_of_ble_eq_true rfl) (Nat.le_of_ble_eq_true rfl) hl.1 rfl (Nat.le_of_ble_eq_true rfl) zd_Mod_odds_20 (by decide) (fun H locs hP hS => ?_)
  clear hq13
  refine lv_i2l hx hb zd_Mod_odds_23 rfl ?_
  obtain rfl := Option.some.inj hf
  exact zr_lret hx hb hret hlk hP hS zd_Mod_odds_24
set_option maxHeartbeats 4000000 in
theorem zl_Mod_odds {p : Program} {l : Launch} {e : Env} {s : State} {m : MethodId} {args : Array Value} {below : List Frame} {meth : Method} {c : Code} {D : va_G} {cA : Nat → ClassId} {ad : Nat → Nat} {A : Nat → Prop} (B : zu_B p s m args c zb_Mod_odds 4 "StonePostModel" D cA ad A) (hret : meth.sig.returnType = (some .long)) (hlk : meth.locks = false) {res : Int64 × IX × LX} {a1 : Int32} {a2 : Int32} {a3 : Int32} {X : IX} {Y : LX} (H : Heap) (locs : List Loc) (ls : Array Slot) (hP : va_P D zu_cl (zu_pic cA ad X Y) H) (hS : va_S A s.heap H locs) (hl : lv_has ls 4 [(0, .ref (ad 95)), (1, .int a1), (2, .int a2), (3, .int a3)]) (hf : fn_Mod_odds a1 a2 a3 X Y = some res) : W p l e zR_Mod_odds s m args below meth c H locs 0 0 (MQ below (zu_Ql D cA ad A res.1 res.2.1 res.2.2) args s 0 0 A) (F0 m 0 ls []) := by
  obtain ⟨hx, hb, hml, hown, hts, hST⟩ := id B
  unfold fn_Mod_odds at hf
  refine lv_iload_n hx hb zd_Mod_odds_0 rfl (lv_at hl 1 rfl) ?_
  refine lv_iload_n hx hb zd_Mod_odds_1 rfl (lv_at hl 2 rfl) ?_
  refine lv_bipush (v := 15) hx hb zd_Mod_odds_2 (by decide) ?_
  obtain ⟨v1, hq2, hf⟩ := zu_b1_e hf
  refine zw_Mod_isOdds (rest := []) B hP hS hq2 zq_1094 (Nat.le_of_ble_eq_true rfl) (Nat.le_of_ble_eq_true rfl) hl.1 rfl (Nat.le_of_ble_eq_true rfl) zd_Mod_odds_4 (by decide) (fun H locs hP hS => ?_)
  clear hq2
  refine lv_if_eq (tgt := 17) hx hb zd_Mod_odds_7 (by decide) (fun c3 => ?_) (fun c3 => ?_)
  · have hf := zu_t c3 hf
    exact zl_Mod_odds_L17 B hret hlk X Y _ _ _ hP hS (lv_sub hl [0] rfl) hf
  · have hf := zu_f c3 hf
    refine lv_iload_n hx hb zd_Mod_odds_10 rfl (lv_at hl 3 rfl) ?_
    obtain ⟨v4, hq5, hf⟩ := zu_b1_e hf
    refine zw_Mod_isCell (rest := []) B hP hS hq5 zq_935 (Nat.le_of_ble_eq_true rfl) (Nat.le_of_ble_eq_true rfl) hl.1 rfl (Nat.le_of_ble_eq_true rfl) zd_Mod_odds_11 (by decide) (fun H locs hP hS => ?_)
    clear hq5
    refine lv_if_ne (tgt := 25) hx hb zd_Mod_odds_14 (by decide) (fun c6 => ?_) (fun c6 => ?_)
    · have hf := zu_f c6 hf
      refine lv_aload_n hx hb zd_Mod_odds_25 rfl (lv_at hl 0 rfl) ?_
      refine lv_iload_n hx hb zd_Mod_odds_26 rfl (lv_at hl 1 rfl) ?_
      refine lv_iload_n hx hb zd_Mod_odds_27 rfl (lv_at hl 2 rfl) ?_
      obtain ⟨X7, Y8, hq9, hf⟩ := zu_b2_e hf
      refine zw_Mod_findParts (rest := []) B hP hS hq9 zq_1097 (Nat.le_of_ble_eq_true rfl) (Nat.le_of_ble_eq_true rfl) hl.1 rfl (Nat.le_of_ble_eq_true rfl) zd_Mod_odds_28 (by decide) (fun H locs hP hS => ?_)
      clear hq9
      refine lv_aload_n hx hb zd_Mod_odds_31 rfl (lv_at hl 0 rfl) ?_
      refine zg_Mod_parts B hP rfl zq_870 zd_Mod_odds_32 ?_
      refine lv_iload_n hx hb zd_Mod_odds_35 rfl (lv_at hl 3 rfl) ?_
      obtain ⟨hg10, hf⟩ := zu_gd_e hf
      refine zr_lald rfl B hP rfl (by decide) rfl hg10 zd_Mod_odds_36 ?_
      obtain rfl := Option.some.inj hf
      exact zr_lret hx hb hret hlk hP hS zd_Mod_odds_37
    · have hf := zu_t c6 hf
      exact zl_Mod_odds_L17 B hret hlk X Y _ _ _ hP hS (lv_sub hl [0] rfl) hf
theorem zC_Mod_odds (l : Launch) {D : va_G} {cA : Nat → ClassId} {ad : Nat → Nat} {A : Nat → Prop} {a1 : Int32} {a2 : Int32} {a3 : Int32} {X : IX} {Y : LX} {res : Int64 × IX × LX} (hf : fn_Mod_odds a1 a2 a3 X Y = some res) : Met l zm_Mod_odds (zu_ws zm_Mod_odds zb_Mod_odds 4 (some .long)) zR_Mod_odds (va_Pc [.ref (ad 95), .int a1, .int a2, .int a3] (zu_Pre D cA ad A X Y)) (zu_Ql D cA ad A res.1 res.2.1 res.2.2) 0 0 A := by
  refine Met.ofW (cc := zb_Mod_odds) (maxL := 4) (ret := (some .long)) (by decide +kernel) rfl ?_
  intro p e s m args below meth c s₁ B0 hml hv
  obtain ⟨rfl, hP, hST⟩ := hv
  have B : zu_B p s m _ c zb_Mod_odds 4 "StonePostModel" D cA ad A := ⟨B0.exec, B0.bytes, hml, findClass_of_methodNamed B0.named, (fun w hw => atoms_spec (ws := zu_ws zm_Mod_odds zb_Mod_odds 4 (some .long)) B0.pre w (List.mem_cons_of_mem _ hw)), hST⟩
  have hl := lv_entry ([.ref (ad 95), .int a1, .int a2, .int a3]) (n := 4) (Nat.le_of_ble_eq_true rfl)
  rw [lg_entry_eq]
  generalize (lg_sl ([.ref (ad 95), .int a1, .int a2, .int a3]) ++ List.replicate (4 - (lg_sl ([.ref (ad 95), .int a1, .int a2, .int a3])).length) Slot.unset).toArray = ls at hl ⊢
  exact zl_Mod_odds B B0.returns B0.notSynchronized s.heap [] ls hP va_S.rf hl  hf
theorem zw_Mod_odds {p : Program} {l : Launch} {e : Env} {R : Room} {s : State} {m : MethodId} {args : Array Value} {below : List Frame} {meth : Method} {c : Code} {H : Heap} {locs : List Loc} {cells slots : Nat} {Q : State → Prop} {cc : ByteArray} {pc nL : Nat} {ls : Array Slot} {rest st0 : List Value} {D : va_G} {cA : Nat → ClassId} {ad : Nat → Nat} {A : Nat → Prop} {X : IX} {Y : LX} {own : String} {index : Nat} {a1 : Int32} {a2 : Int32} {a3 : Int32} {v1 : Int64} {X1 : IX} {Y1 : LX} (B : zu_B p s m args c cc nL own D cA ad A) (hP : va_P D zu_cl (zu_pic cA ad X Y) H) (hS : va_S A s.heap H locs) (hq : fn_Mod_odds a1 a2 a3 X Y = some (v1, X1, Y1)) (m1 : Cond.methodLink own index zm_Mod_odds ∈ zu_TB) (hR1 : 6 + 1 ≤ R.frames) (hR2 : 8 + (4 + 11) + 143 ≤ R.locals) (hsz : ls.size = nL) (hst : st0 = .int a3 :: .int a2 :: .int a1 :: .ref (ad 95) :: rest) (hw : (rest.map fun v => v.category).sum ≤ 8) (hdg : decode cc pc = .ok (.invokevirtual index, 3)) (h00 : cells ≤ R.cells ∧ slots ≤ R.slots) (kk : ∀ (H1 : Heap) (locs1 : List Loc), va_P D zu_cl (zu_pic cA ad X1 Y1) H1 → va_S A s.heap H1 locs1 → W p l e R s m args below meth c H1 locs1 cells slots Q (F0 m (pc + 3) ls (.long v1 :: rest))) : W p l e R s m args below meth c H locs cells slots Q (F0 m pc ls st0) := by
  subst hst
  exact zr_cVl (As := [.int a1, .int a2, .int a3]) (rest := rest) (n := 3) (C := "StonePostModel") (T := zt_Mod) (N := 23) B hP hS (zC_Mod_odds l  hq) (K := 7) rfl (by decide) (by decide) rfl rfl m1 zq_1091 zq_1092 zq_8 zq_1093 (by decide +kernel) ⟨hR1, hR2⟩ rfl rfl rfl hsz rfl hw hdg h00 kk
abbrev zR_Mod_lost : Room := { frames := 6, cells := 0, slots := 0, locals := 143 }
theorem zd_Mod_lost_0 : decode zb_Mod_lost 0 = .ok (.iload_n 1, 1) := by decide +kernel
theorem zd_Mod_lost_1 : decode zb_Mod_lost 1 = .ok (.iload_n 2, 1) := by decide +kernel
theorem zd_Mod_lost_2 : decode zb_Mod_lost 2 = .ok (.bipush 15, 2) := by decide +kernel
theorem zd_Mod_lost_4 : decode zb_Mod_lost 4 = .ok (.invokestatic 172, 3) := by decide +kernel
theorem zd_Mod_lost_7 : decode zb_Mod_lost 7 = .ok (.ifCond .ne 11, 3) := by decide +kernel
theorem zd_Mod_lost_10 : decode zb_Mod_lost 10 = .ok (.aload_n 0, 1) := by decide +kernel
theorem zd_Mod_lost_11 : decode zb_Mod_lost 11 = .ok (.ldc 50, 2) := by decide +kernel
theorem zd_Mod_lost_13 : decode zb_Mod_lost 13 = .ok (.invokevirtual 64, 3) := by decide +kernel
theorem zd_Mod_lost_16 : decode zb_Mod_lost 16 = .ok (.i2l, 1) := by decide +kernel
theorem zd_Mod_lost_17 : decode zb_Mod_lost 17 = .ok (.lreturn, 1) := by decide +kernel
theorem zd_Mod_lost_18 : decode zb_Mod_lost 18 = .ok (.aload_n 0, 1) := by decide +kernel
theorem zd_Mod_lost_19 : decode zb_Mod_lost 19 = .ok (.iload_n 1, 1) := by decide +kernel
theorem zd_Mod_lost_20 : decode zb_Mod_lost 20 = .ok (.iload_n 2, 1) := by decide +kernel
theorem zd_Mod_lost_21 : decode zb_Mod_lost 21 = .ok (.invokevirtual 168, 3) := by decide +kernel
theorem zd_Mod_lost_24 : decode zb_Mod_lost 24 = .ok (.lconst 0, 1) := by decide +kernel
theorem zd_Mod_lost_25 : decode zb_Mod_lost 25 = .ok (.lstore_n 3, 1) := by decide +kernel
theorem zd_Mod_lost_26 : decode zb_Mod_lost 26 = .ok (.iconst 0, 1) := by decide +kernel
theorem zd_Mod_lost_27 : decode zb_Mod_lost 27 = .ok (.istore 5, 2) := by decide +kernel
theorem zd_Mod_lost_29 : decode zb_Mod_lost 29 = .ok (.iload 5, 2) := by decide +kernel
theorem zd_Mod_lost_31 : decode zb_Mod_lost 31 = .ok (.bipush 24, 2) := by decide +kernel
theorem zd_Mod_lost_33 : decode zb_Mod_lost 33 = .ok (.if_icmp .ge 48, 3) := by decide +kernel
theorem zd_Mod_lost_36 : decode zb_Mod_lost 36 = .ok (.lload_n 3, 1) := by decide +kernel
theorem zd_Mod_lost_37 : decode zb_Mod_lost 37 = .ok (.aload_n 0, 1) := by decide +kernel
theorem zd_Mod_lost_38 : decode zb_Mod_lost 38 = .ok (.getfield 7, 3) := by decide +kernel
theorem zd_Mod_lost_41 : decode zb_Mod_lost 41 = .ok (.bipush 6, 2) := by decide +kernel
theorem zd_Mod_lost_43 : decode zb_Mod_lost 43 = .ok (.iload 5, 2) := by decide +kernel
theorem zd_Mod_lost_45 : decode zb_Mod_lost 45 = .ok (.iadd, 1) := by decide +kernel
theorem zd_Mod_lost_46 : decode zb_Mod_lost 46 = .ok (.iaload, 1) := by decide +kernel
theorem zd_Mod_lost_47 : decode zb_Mod_lost 47 = .ok (.iconst 1, 1) := by decide +kernel
theorem zd_Mod_lost_48 : decode zb_Mod_lost 48 = .ok (.if_icmp .ne 24, 3) := by decide +kernel
theorem zd_Mod_lost_51 : decode zb_Mod_lost 51 = .ok (.iload 5, 2) := by decide +kernel
theorem zd_Mod_lost_53 : decode zb_Mod_lost 53 = .ok (.aload_n 0, 1) := by decide +kernel
theorem zd_Mod_lost_54 : decode zb_Mod_lost 54 = .ok (.getfield 7, 3) := by decide +kernel
theorem zd_Mod_lost_57 : decode zb_Mod_lost 57 = .ok (.iconst 3, 1) := by decide +kernel
theorem zd_Mod_lost_58 : decode zb_Mod_lost 58 = .ok (.iaload, 1) := by decide +kernel
theorem zd_Mod_lost_59 : decode zb_Mod_lost 59 = .ok (.if_icmp .eq 13, 3) := by decide +kernel
theorem zd_Mod_lost_62 : decode zb_Mod_lost 62 = .ok (.aload_n 0, 1) := by decide +kernel
theorem zd_Mod_lost_63 : decode zb_Mod_lost 63 = .ok (.getfield 22, 3) := by decide +kernel
theorem zd_Mod_lost_66 : decode zb_Mod_lost 66 = .ok (.iload 5, 2) := by decide +kernel
theorem zd_Mod_lost_68 : decode zb_Mod_lost 68 = .ok (.laload, 1) := by decide +kernel
theorem zd_Mod_lost_69 : decode zb_Mod_lost 69 = .ok (.goto 4, 3) := by decide +kernel
theorem zd_Mod_lost_72 : decode zb_Mod_lost 72 = .ok (.lconst 0, 1) := by decide +kernel
theorem zd_Mod_lost_73 : decode zb_Mod_lost 73 = .ok (.ladd, 1) := by decide +kernel
theorem zd_Mod_lost_74 : decode zb_Mod_lost 74 = .ok (.lstore_n 3, 1) := by decide +kernel
theorem zd_Mod_lost_75 : decode zb_Mod_lost 75 = .ok (.iinc 5 1, 3) := by decide +kernel
theorem zd_Mod_lost_78 : decode zb_Mod_lost 78 = .ok (.goto (-49), 3) := by decide +kernel
theorem zd_Mod_lost_81 : decode zb_Mod_lost 81 = .ok (.lload_n 3, 1) := by decide +kernel
theorem zd_Mod_lost_82 : decode zb_Mod_lost 82 = .ok (.lreturn, 1) := by decide +kernel
set_option maxHeartbeats 4000000 in
theorem zl_Mod_lost_L73 {p : Program} {l : Launch} {e : Env} {s : State} {m : MethodId} {args : Array Value} {below : List Frame} {meth : Method} {c : Code} {D : va_G} {cA : Nat → ClassId} {ad : Nat → Nat} {A : Nat → Prop} (B : zu_B p s m args c zb_Mod_lost 6 "StonePostModel" D cA ad A) (hret : meth.sig.returnType = (some .long)) (hlk : meth.locks = false) {res : Int64 × IX × LX} {k29 : Int64 → Int32 → IX → LX → Option (Int64 × IX × LX)} (hk29 : ∀ (x3 : Int64) (x5 : Int32) (X : IX) (Y : LX) (H : Heap) (locs : List Loc) (ls : Array Slot), va_P D zu_cl (zu_pic cA ad X Y) H → va_S A s.heap H locs → lv_has ls 6 [(0, .ref (ad 95)), (3, .long x3), (5, .int x5)] → k29 x3 x5 X Y = some res → W p l e zR_Mod_lost s m args below meth c H locs 0 0 (MQ below (zu_Ql D cA ad A res.1 res.2.1 res.2.2) args s 0 0 A) (F0 m 29 ls [])) (x5 : Int32) (y0 : Int64) (y1 : Int64) (X : IX) (Y : LX) (H : Heap) (locs : List Loc) (ls : Array Slot) (hP : va_P D zu_cl (zu_pic cA ad X Y) H) (hS : va_S A s.heap H locs) (hl : lv_has ls 6 [(0, .ref (ad 95)), (5, .int x5)]) (hf : fn_Mod_lost_L73 k29 x5 y0 y1 X Y = some res) : W p l e zR_Mod_lost s m args below meth c H locs 0 0 (MQ below (zu_Ql D cA ad A res.1 res.2.1 res.2.2) args s 0 0 A) (F0 m 73 ls [.long y0, .long y1]) := by
  obtain ⟨hx, hb, hml, hown, hts, hST⟩ := id B
  unfold fn_Mod_lost_L73 at hf
  refine lv_ladd hx hb zd_Mod_lost_73 ?_
  refine zr_nxl hf (fun v15 hf => ?_)
  refine lv_lstore_n (lv' := [(3, .long v15), (0, .ref (ad 95)), (5, .int x5)]) hx hb zd_Mod_lost_74 rfl hl (by decide) rfl (fun ls hl => ?_)
  obtain ⟨v16, ev16, hf⟩ := zu_nx_e hf
  refine lv_iinc (v := v16) (lv' := [(5, .int v16), (3, .long v15), (0, .ref (ad 95))]) hx hb zd_Mod_lost_75 hl (k := 2) rfl (by rw [ev16]; rfl) (by decide) rfl (fun ls hl => ?_)
  clear ev16
  refine lv_goto (tgt := 29) hx hb zd_Mod_lost_78 (by decide) ?_
  exact hk29 v15 v16 X Y _ _ _ hP hS (lv_sub hl [2, 1, 0] rfl) hf
set_option maxHeartbeats 4000000 in
theorem zl_Mod_lost_L72 {p : Program} {l : Launch} {e : Env} {s : State} {m : MethodId} {args : Array Value} {below : List Frame} {meth : Method} {c : Code} {D : va_G} {cA : Nat → ClassId} {ad : Nat → Nat} {A : Nat → Prop} (B : zu_B p s m args c zb_Mod_lost 6 "StonePostModel" D cA ad A) (hret : meth.sig.returnType = (some .long)) (hlk : meth.locks = false) {res : Int64 × IX × LX} {k29 : Int64 → Int32 → IX → LX → Option (Int64 × IX × LX)} (hk29 : ∀ (x3 : Int64) (x5 : Int32) (X : IX) (Y : LX) (H : Heap) (locs : List Loc) (ls : Array Slot), va_P D zu_cl (zu_pic cA ad X Y) H → va_S A s.heap H locs → lv_has ls 6 [(0, .ref (ad 95)), (3, .long x3), (5, .int x5)] → k29 x3 x5 X Y = some res → W p l e zR_Mod_lost s m args below meth c H locs 0 0 (MQ below (zu_Ql D cA ad A res.1 res.2.1 res.2.2) args s 0 0 A) (F0 m 29 ls [])) (x5 : Int32) (y0 : Int64) (X : IX) (Y : LX) (H : Heap) (locs : List Loc) (ls : Array Slot) (hP : va_P D zu_cl (zu_pic cA ad X Y) H) (hS : va_S A s.heap H locs) (hl : lv_has ls 6 [(0, .ref (ad 95)), (5, .int x5)]) (hf : fn_Mod_lost_L72 k29 x5 y0 X Y = some res) : W p l e zR_Mod_lost s m args below meth c H locs 0 0 (MQ below (zu_Ql D cA ad A res.1 res.2.1 res.2.2) args s 0 0 A) (F0 m 72 ls [.long y0]) := by
  obtain ⟨hx, hb, hml, hown, hts, hST⟩ := id B
  unfold fn_Mod_lost_L72 at hf
  refine lv_lconst (v := 0) hx hb zd_Mod_lost_72 (by decide) ?_
  exact zl_Mod_lost_L73 B hret hlk hk29 x5 (0 : Int64) y0 X Y _ _ _ hP hS (lv_sub hl [0, 1] rfl) hf
set_option maxHeartbeats 4000000 in
theorem zl_Mod_lost_B29 {p : Program} {l : Launch} {e : Env} {s : State} {m : MethodId} {args : Array Value} {below : List Frame} {meth : Method} {c : Code} {D : va_G} {cA : Nat → ClassId} {ad : Nat → Nat} {A : Nat → Prop} (B : zu_B p s m args c zb_Mod_lost 6 "StonePostModel" D cA ad A) (hret : meth.sig.returnType = (some .long)) (hlk : meth.locks = false) {res : Int64 × IX × LX} {k29 : Int64 → Int32 → IX → LX → Option (Int64 × IX × LX)} (hk29 : ∀ (x3 : Int64) (x5 : Int32) (X : IX) (Y : LX) (H : Heap) (locs : List Loc) (ls : Array Slot), va_P D zu_cl (zu_pic cA ad X Y) H → va_S A s.heap H locs → lv_has ls 6 [(0, .ref (ad 95)), (3, .long x3), (5, .int x5)] → k29 x3 x5 X Y = some res → W p l e zR_Mod_lost s m args below meth c H locs 0 0 (MQ below (zu_Ql D cA ad A res.1 res.2.1 res.2.2) args s 0 0 A) (F0 m 29 ls [])) (x3 : Int64) (x5 : Int32) (X : IX) (Y : LX) (H : Heap) (locs : List Loc) (ls : Array Slot) (hP : va_P D zu_cl (zu_pic cA ad X Y) H) (hS : va_S A s.heap H locs) (hl : lv_has ls 6 [(0, .ref (ad 95)), (3, .long x3), (5, .int x5)]) (hf : fn_Mod_lost_B29 k29 x3 x5 X Y = some res) : W p l e zR_Mod_lost s m args below meth c H locs 0 0 (MQ below (zu_Ql D cA ad A res.1 res.2.1 res.2.2) args s 0 0 A) (F0 m 29 ls []) := by
  obtain ⟨hx, hb, hml, hown, hts, hST⟩ := id B
  unfold fn_Mod_lost_B29 at hf
  refine lv_iload hx hb zd_Mod_lost_29 (lv_at hl 2 rfl) ?_
  refine lv_bipush (v := 24) hx hb zd_Mod_lost_31 (by decide) ?_
  refine lv_icmp_ge (tgt := 81) hx hb zd_Mod_lost_33 (by decide) (fun c10 => ?_) (fun c10 => ?_)
  · have hf := zu_t c10 hf
    refine lv_lload_n hx hb zd_Mod_lost_81 rfl (lv_at hl 1 rfl) ?_
    obtain rfl := Option.some.inj hf
    exact zr_lret hx hb hret hlk hP hS zd_Mod_lost_82
  · have hf := zu_f c10 hf
    refine lv_lload_n hx hb zd_Mod_lost_36 rfl (lv_at hl 1 rfl) ?_
    refine lv_aload_n hx hb zd_Mod_lost_37 rfl (lv_at hl 0 rfl) ?_
    refine zg_Mod_s B hP rfl zq_861 zd_Mod_lost_38 ?_
    refine lv_bipush (v := 6) hx hb zd_Mod_lost_41 (by decide) ?_
    refine lv_iload hx hb zd_Mod_lost_43 (lv_at hl 2 rfl) ?_
    refine lv_iadd hx hb zd_Mod_lost_45 ?_
    obtain ⟨hg11, hf⟩ := zu_gd_e hf
    refine zr_iald rfl B hP rfl (by decide) rfl hg11 zd_Mod_lost_46 ?_
    refine lv_iconst (v := 1) hx hb zd_Mod_lost_47 (by decide) ?_
    refine lv_icmp_ne (tgt := 72) hx hb zd_Mod_lost_48 (by decide) (fun c12 => ?_) (fun c12 => ?_)
    · have hf := zu_f c12 hf
      exact zl_Mod_lost_L72 B hret hlk hk29 x5 x3 X Y _ _ _ hP hS (lv_sub hl [0, 2] rfl) hf
    · have hf := zu_t c12 hf
      refine lv_iload hx hb zd_Mod_lost_51 (lv_at hl 2 rfl) ?_
      refine lv_aload_n hx hb zd_Mod_lost_53 rfl (lv_at hl 0 rfl) ?_
      refine zg_Mod_s B hP rfl zq_861 zd_Mod_lost_54 ?_
      refine lv_iconst (v := 3) hx hb zd_Mod_lost_57 (by decide) ?_
      refine zr_iald (j := 3) (by decide) B hP rfl (by decide) rfl (by decide) zd_Mod_lost_58 ?_
      refine lv_icmp_eq (tgt := 72) hx hb zd_Mod_lost_59 (by decide) (fun c13 => ?_) (fun c13 => ?_)
      · have hf := zu_t c13 hf
        exact zl_Mod_lost_L72 B hret hlk hk29 x5 x3 X Y _ _ _ hP hS (lv_sub hl [0, 2] rfl) hf
      · have hf := zu_f c13 hf
        refine lv_aload_n hx hb zd_Mod_lost_62 rfl (lv_at hl 0 rfl) ?_
        refine zg_Mod_parts B hP rfl zq_870 zd_Mod_lost_63 ?_
        refine lv_iload hx hb zd_Mod_lost_66 (lv_at hl 2 rfl) ?_
        obtain ⟨hg14, hf⟩ := zu_gd_e hf
        refine zr_lald rfl B hP rfl (by decide) rfl hg14 zd_Mod_lost_68 ?_
        refine lv_goto (tgt := 73) hx hb zd_Mod_lost_69 (by decide) ?_
        exact zl_Mod_lost_L73 B hret hlk hk29 x5 (Y 100 (x5.toNatClampNeg)) x3 X Y _ _ _ hP hS (lv_sub hl [0, 2] rfl) hf
theorem zl_Mod_lost_L29 {p : Program} {l : Launch} {e : Env} {s : State} {m : MethodId} {args : Array Value} {below : List Frame} {meth : Method} {c : Code} {D : va_G} {cA : Nat → ClassId} {ad : Nat → Nat} {A : Nat → Prop} (B : zu_B p s m args c zb_Mod_lost 6 "StonePostModel" D cA ad A) (hret : meth.sig.returnType = (some .long)) (hlk : meth.locks = false) {res : Int64 × IX × LX} : ∀ (n : Nat) (x3 : Int64) (x5 : Int32) (X : IX) (Y : LX) (H : Heap) (locs : List Loc) (ls : Array Slot), va_P D zu_cl (zu_pic cA ad X Y) H → va_S A s.heap H locs → lv_has ls 6 [(0, .ref (ad 95)), (3, .long x3), (5, .int x5)] → fn_Mod_lost_L29 n x3 x5 X Y = some res → W p l e zR_Mod_lost s m args below meth c H locs 0 0 (MQ below (zu_Ql D cA ad A res.1 res.2.1 res.2.2) args s 0 0 A) (F0 m 29 ls []) := by
  intro n
  induction n with
  | zero =>
    intro x3 x5 X Y H locs ls hP hS hl hf
    exact (Option.some_ne_none _ hf.symm).elim
  | succ n ih =>
    intro x3 x5 X Y H locs ls hP hS hl hf
    exact zl_Mod_lost_B29 B hret hlk ih x3 x5 X Y H locs ls hP hS hl  hf
set_option maxHeartbeats 4000000 in
theorem zl_Mod_lost {p : Program} {l : Launch} {e : Env} {s : State} {m : MethodId} {args : Array Value} {below : List Frame} {meth : Method} {c : Code} {D : va_G} {cA : Nat → ClassId} {ad : Nat → Nat} {A : Nat → Prop} (B : zu_B p s m args c zb_Mod_lost 6 "StonePostModel" D cA ad A) (hret : meth.sig.returnType = (some .long)) (hlk : meth.locks = false) {res : Int64 × IX × LX} {a1 : Int32} {a2 : Int32} {X : IX} {Y : LX} (H : Heap) (locs : List Loc) (ls : Array Slot) (hP : va_P D zu_cl (zu_pic cA ad X Y) H) (hS : va_S A s.heap H locs) (hl : lv_has ls 6 [(0, .ref (ad 95)), (1, .int a1), (2, .int a2)]) (hf : fn_Mod_lost a1 a2 X Y = some res) : W p l e zR_Mod_lost s m args below meth c H locs 0 0 (MQ below (zu_Ql D cA ad A res.1 res.2.1 res.2.2) args s 0 0 A) (F0 m 0 ls []) := by
  obtain ⟨hx, hb, hml, hown, hts, hST⟩ := id B
  unfold fn_Mod_lost at hf
  refine lv_iload_n hx hb zd_Mod_lost_0 rfl (lv_at hl 1 rfl) ?_
  refine lv_iload_n hx hb zd_Mod_lost_1 rfl (lv_at hl 2 rfl) ?_
  refine lv_bipush (v := 15) hx hb zd_Mod_lost_2 (by decide) ?_
  obtain ⟨v1, hq2, hf⟩ := zu_b1_e hf
  refine zw_Mod_isOdds (rest := []) B hP hS hq2 zq_1094 (Nat.le_of_ble_eq_true rfl) (Nat.le_of_ble_eq_true rfl) hl.1 rfl (Nat.le_of_ble_eq_true rfl) zd_Mod_lost_4 (by decide) (fun H locs hP hS => ?_)
  clear hq2
  refine lv_if_ne (tgt := 18) hx hb zd_Mod_lost_7 (by decide) (fun c3 => ?_) (fun c3 => ?_)
  · have hf := zu_f c3 hf
    refine lv_aload_n hx hb zd_Mod_lost_18 rfl (lv_at hl 0 rfl) ?_
    refine lv_iload_n hx hb zd_Mod_lost_19 rfl (lv_at hl 1 rfl) ?_
    refine lv_iload_n hx hb zd_Mod_lost_20 rfl (lv_at hl 2 rfl) ?_
    obtain ⟨X4, Y5, hq6, hf⟩ := zu_b2_e hf
    refine zw_Mod_findParts (rest := []) B hP hS hq6 zq_1097 (Nat.le_of_ble_eq_true rfl) (Nat.le_of_ble_eq_true rfl) hl.1 rfl (Nat.le_of_ble_eq_true rfl) zd_Mod_lost_21 (by decide) (fun H locs hP hS => ?_)
    clear hq6
    refine lv_lconst (v := 0) hx hb zd_Mod_lost_24 (by decide) ?_
    refine lv_lstore_n (lv' := [(3, .long (0 : Int64)), (0, .ref (ad 95)), (1, .int a1), (2, .int a2)]) hx hb zd_Mod_lost_25 rfl hl (by decide) rfl (fun ls hl => ?_)
    refine lv_iconst (v := 0) hx hb zd_Mod_lost_26 (by decide) ?_
    refine lv_istore (lv' := [(5, .int (0 : Int32)), (3, .long (0 : Int64)), (0, .ref (ad 95)), (1, .int a1), (2, .int a2)]) hx hb zd_Mod_lost_27 hl (by decide) rfl (fun ls hl => ?_)
    exact zl_Mod_lost_L29 B hret hlk 400 (0 : Int64) (0 : Int32) X4 Y5 _ _ _ hP hS (lv_sub hl [2, 1, 0] rfl) hf
  · have hf := zu_t c3 hf
    refine lv_aload_n hx hb zd_Mod_lost_10 rfl (lv_at hl 0 rfl) ?_
    refine lv_ldc (v := -1000001) hx hb hown (hts _ zq_943) zd_Mod_lost_11 ?_
    obtain ⟨v7, X8, hq9, hf⟩ := zu_b2_e hf
    refine zw_Mod_finds (rest := []) B hP hS hq9 zq_944 (Nat.le_of_ble_eq_true rfl) (Nat.le_of_ble_eq_true rfl) hl.1 rfl (Nat.le_of_ble_eq_true rfl) zd_Mod_lost_13 (by decide) (fun H locs hP hS => ?_)
    clear hq9
    refine lv_i2l hx hb zd_Mod_lost_16 rfl ?_
    obtain rfl := Option.some.inj hf
    exact zr_lret hx hb hret hlk hP hS zd_Mod_lost_17
theorem zC_Mod_lost (l : Launch) {D : va_G} {cA : Nat → ClassId} {ad : Nat → Nat} {A : Nat → Prop} {a1 : Int32} {a2 : Int32} {X : IX} {Y : LX} {res : Int64 × IX × LX} (hf : fn_Mod_lost a1 a2 X Y = some res) : Met l zm_Mod_lost (zu_ws zm_Mod_lost zb_Mod_lost 6 (some .long)) zR_Mod_lost (va_Pc [.ref (ad 95), .int a1, .int a2] (zu_Pre D cA ad A X Y)) (zu_Ql D cA ad A res.1 res.2.1 res.2.2) 0 0 A := by
  refine Met.ofW (cc := zb_Mod_lost) (maxL := 6) (ret := (some .long)) (by decide +kernel) rfl ?_
  intro p e s m args below meth c s₁ B0 hml hv
  obtain ⟨rfl, hP, hST⟩ := hv
  have B : zu_B p s m _ c zb_Mod_lost 6 "StonePostModel" D cA ad A := ⟨B0.exec, B0.bytes, hml, findClass_of_methodNamed B0.named, (fun w hw => atoms_spec (ws := zu_ws zm_Mod_lost zb_Mod_lost 6 (some .long)) B0.pre w (List.mem_cons_of_mem _ hw)), hST⟩
  have hl := lv_entry ([.ref (ad 95), .int a1, .int a2]) (n := 6) (Nat.le_of_ble_eq_true rfl)
  rw [lg_entry_eq]
  generalize (lg_sl ([.ref (ad 95), .int a1, .int a2]) ++ List.replicate (6 - (lg_sl ([.ref (ad 95), .int a1, .int a2])).length) Slot.unset).toArray = ls at hl ⊢
  exact zl_Mod_lost B B0.returns B0.notSynchronized s.heap [] ls hP va_S.rf hl  hf
theorem zw_Mod_lost {p : Program} {l : Launch} {e : Env} {R : Room} {s : State} {m : MethodId} {args : Array Value} {below : List Frame} {meth : Method} {c : Code} {H : Heap} {locs : List Loc} {cells slots : Nat} {Q : State → Prop} {cc : ByteArray} {pc nL : Nat} {ls : Array Slot} {rest st0 : List Value} {D : va_G} {cA : Nat → ClassId} {ad : Nat → Nat} {A : Nat → Prop} {X : IX} {Y : LX} {own : String} {index : Nat} {a1 : Int32} {a2 : Int32} {v1 : Int64} {X1 : IX} {Y1 : LX} (B : zu_B p s m args c cc nL own D cA ad A) (hP : va_P D zu_cl (zu_pic cA ad X Y) H) (hS : va_S A s.heap H locs) (hq : fn_Mod_lost a1 a2 X Y = some (v1, X1, Y1)) (m1 : Cond.methodLink own index zm_Mod_lost ∈ zu_TB) (hR1 : 6 + 1 ≤ R.frames) (hR2 : 8 + (6 + 11) + 143 ≤ R.locals) (hsz : ls.size = nL) (hst : st0 = .int a2 :: .int a1 :: .ref (ad 95) :: rest) (hw : (rest.map fun v => v.category).sum ≤ 8) (hdg : decode cc pc = .ok (.invokevirtual index, 3)) (h00 : cells ≤ R.cells ∧ slots ≤ R.slots) (kk : ∀ (H1 : Heap) (locs1 : List Loc), va_P D zu_cl (zu_pic cA ad X1 Y1) H1 → va_S A s.heap H1 locs1 → W p l e R s m args below meth c H1 locs1 cells slots Q (F0 m (pc + 3) ls (.long v1 :: rest))) : W p l e R s m args below meth c H locs cells slots Q (F0 m pc ls st0) := by
  subst hst
  exact zr_cVl (As := [.int a1, .int a2]) (rest := rest) (n := 2) (C := "StonePostModel") (T := zt_Mod) (N := 23) B hP hS (zC_Mod_lost l  hq) (K := 7) rfl (by decide) (by decide) rfl rfl m1 zq_1102 zq_1103 zq_8 zq_1104 (by decide +kernel) ⟨hR1, hR2⟩ rfl rfl rfl hsz rfl hw hdg h00 kk
abbrev zR_Mod_likeliest : Room := { frames := 6, cells := 0, slots := 0, locals := 143 }
theorem zd_Mod_likeliest_0 : decode zb_Mod_likeliest 0 = .ok (.iload_n 1, 1) := by decide +kernel
theorem zd_Mod_likeliest_1 : decode zb_Mod_likeliest 1 = .ok (.iload_n 2, 1) := by decide +kernel
theorem zd_Mod_likeliest_2 : decode zb_Mod_likeliest 2 = .ok (.bipush 15, 2) := by decide +kernel
theorem zd_Mod_likeliest_4 : decode zb_Mod_likeliest 4 = .ok (.invokestatic 172, 3) := by decide +kernel
theorem zd_Mod_likeliest_7 : decode zb_Mod_likeliest 7 = .ok (.ifCond .ne 10, 3) := by decide +kernel
theorem zd_Mod_likeliest_10 : decode zb_Mod_likeliest 10 = .ok (.aload_n 0, 1) := by decide +kernel
theorem zd_Mod_likeliest_11 : decode zb_Mod_likeliest 11 = .ok (.ldc 50, 2) := by decide +kernel
theorem zd_Mod_likeliest_13 : decode zb_Mod_likeliest 13 = .ok (.invokevirtual 64, 3) := by decide +kernel
theorem zd_Mod_likeliest_16 : decode zb_Mod_likeliest 16 = .ok (.ireturn, 1) := by decide +kernel
theorem zd_Mod_likeliest_17 : decode zb_Mod_likeliest 17 = .ok (.aload_n 0, 1) := by decide +kernel
theorem zd_Mod_likeliest_18 : decode zb_Mod_likeliest 18 = .ok (.iload_n 1, 1) := by decide +kernel
theorem zd_Mod_likeliest_19 : decode zb_Mod_likeliest 19 = .ok (.iload_n 2, 1) := by decide +kernel
theorem zd_Mod_likeliest_20 : decode zb_Mod_likeliest 20 = .ok (.invokevirtual 168, 3) := by decide +kernel
theorem zd_Mod_likeliest_23 : decode zb_Mod_likeliest 23 = .ok (.iconst 0, 1) := by decide +kernel
theorem zd_Mod_likeliest_24 : decode zb_Mod_likeliest 24 = .ok (.istore_n 3, 1) := by decide +kernel
theorem zd_Mod_likeliest_25 : decode zb_Mod_likeliest 25 = .ok (.iconst 1, 1) := by decide +kernel
theorem zd_Mod_likeliest_26 : decode zb_Mod_likeliest 26 = .ok (.istore 4, 2) := by decide +kernel
theorem zd_Mod_likeliest_28 : decode zb_Mod_likeliest 28 = .ok (.iload 4, 2) := by decide +kernel
theorem zd_Mod_likeliest_30 : decode zb_Mod_likeliest 30 = .ok (.bipush 24, 2) := by decide +kernel
theorem zd_Mod_likeliest_32 : decode zb_Mod_likeliest 32 = .ok (.if_icmp .ge 33, 3) := by decide +kernel
theorem zd_Mod_likeliest_35 : decode zb_Mod_likeliest 35 = .ok (.aload_n 0, 1) := by decide +kernel
theorem zd_Mod_likeliest_36 : decode zb_Mod_likeliest 36 = .ok (.getfield 22, 3) := by decide +kernel
theorem zd_Mod_likeliest_39 : decode zb_Mod_likeliest 39 = .ok (.iload 4, 2) := by decide +kernel
theorem zd_Mod_likeliest_41 : decode zb_Mod_likeliest 41 = .ok (.laload, 1) := by decide +kernel
theorem zd_Mod_likeliest_42 : decode zb_Mod_likeliest 42 = .ok (.aload_n 0, 1) := by decide +kernel
theorem zd_Mod_likeliest_43 : decode zb_Mod_likeliest 43 = .ok (.getfield 22, 3) := by decide +kernel
theorem zd_Mod_likeliest_46 : decode zb_Mod_likeliest 46 = .ok (.iload_n 3, 1) := by decide +kernel
theorem zd_Mod_likeliest_47 : decode zb_Mod_likeliest 47 = .ok (.laload, 1) := by decide +kernel
theorem zd_Mod_likeliest_48 : decode zb_Mod_likeliest 48 = .ok (.lcmp, 1) := by decide +kernel
theorem zd_Mod_likeliest_49 : decode zb_Mod_likeliest 49 = .ok (.ifCond .le 8, 3) := by decide +kernel
theorem zd_Mod_likeliest_52 : decode zb_Mod_likeliest 52 = .ok (.iload 4, 2) := by decide +kernel
theorem zd_Mod_likeliest_54 : decode zb_Mod_likeliest 54 = .ok (.goto 4, 3) := by decide +kernel
theorem zd_Mod_likeliest_57 : decode zb_Mod_likeliest 57 = .ok (.iload_n 3, 1) := by decide +kernel
theorem zd_Mod_likeliest_58 : decode zb_Mod_likeliest 58 = .ok (.istore_n 3, 1) := by decide +kernel
theorem zd_Mod_likeliest_59 : decode zb_Mod_likeliest 59 = .ok (.iinc 4 1, 3) := by decide +kernel
theorem zd_Mod_likeliest_62 : decode zb_Mod_likeliest 62 = .ok (.goto (-34), 3) := by decide +kernel
theorem zd_Mod_likeliest_65 : decode zb_Mod_likeliest 65 = .ok (.iload_n 3, 1) := by decide +kernel
theorem zd_Mod_likeliest_66 : decode zb_Mod_likeliest 66 = .ok (.ireturn, 1) := by decide +kernel
set_option maxHeartbeats 4000000 in
theorem zl_Mod_likeliest_L58 {p : Program} {l : Launch} {e : Env} {s : State} {m : MethodId} {args : Array Value} {below : List Frame} {meth : Method} {c : Code} {D : va_G} {cA : Nat → ClassId} {ad : Nat → Nat} {A : Nat → Prop} (B : zu_B p s m args c zb_Mod_likeliest 5 "StonePostModel" D cA ad A) (hret : meth.sig.returnType = (some .int)) (hlk : meth.locks = false) {res : Int32 × IX × LX} {k28 : Int32 → Int32 → IX → LX → Option (Int32 × IX × LX)} (hk28 : ∀ (x3 : Int32) (x4 : Int32) (X : IX) (Y : LX) (H : Heap) (locs : List Loc) (ls : Array Slot), va_P D zu_cl (zu_pic cA ad X Y) H → va_S A s.heap H locs → lv_has ls 5 [(0, .ref (ad 95)), (3, .int x3), (4, .int x4)] → k28 x3 x4 X Y = some res → W p l e zR_Mod_likeliest s m args below meth c H locs 0 0 (MQ below (zu_Qi D cA ad A res.1 res.2.1 res.2.2) args s 0 0 A) (F0 m 28 ls [])) (x4 : Int32) (y0 : Int32) (X : IX) (Y : LX) (H : Heap) (locs : List Loc) (ls : Array Slot) (hP : va_P D zu_cl (zu_pic cA ad X Y) H) (hS : va_S A s.heap H locs) (hl : lv_has ls 5 [(0, .ref (ad 95)), (4, .int x4)]) (hf : fn_Mod_likeliest_L58 k28 x4 y0 X Y = some res) : W p l e zR_Mod_likeliest s m args below meth c H locs 0 0 (MQ below (zu_Qi D cA ad A res.1 res.2.1 res.2.2) args s 0 0 A) (F0 m 58 ls [.int y0]) := by
  obtain ⟨hx, hb, hml, hown, hts, hST⟩ := id B
  unfold fn_Mod_likeliest_L58 at hf
  refine lv_istore_n (lv' := [(3, .int y0), (0, .ref (ad 95)), (4, .int x4)]) hx hb zd_Mod_likeliest_58 rfl hl (by decide) rfl (fun ls hl => ?_)
  obtain ⟨v14, ev14, hf⟩ := zu_nx_e hf
  refine lv_iinc (v := v14) (lv' := [(4, .int v14), (3, .int y0), (0, .ref (ad 95))]) hx hb zd_Mod_likeliest_59 hl (k := 2) rfl (by rw [ev14]; rfl) (by decide) rfl (fun ls hl => ?_)
  clear ev14
  refine lv_goto (tgt := 28) hx hb zd_Mod_likeliest_62 (by decide) ?_
  exact hk28 y0 v14 X Y _ _ _ hP hS (lv_sub hl [2, 1, 0] rfl) hf
set_option maxHeartbeats 4000000 in
theorem zl_Mod_likeliest_B28 {p : Program} {l : Launch} {e : Env} {s : State} {m : MethodId} {args : Array Value} {below : List Frame} {meth : Method} {c : Code} {D : va_G} {cA : Nat → ClassId} {ad : Nat → Nat} {A : Nat → Prop} (B : zu_B p s m args c zb_Mod_likeliest 5 "StonePostModel" D cA ad A) (hret : meth.sig.returnType = (some .int)) (hlk : meth.locks = false) {res : Int32 × IX × LX} {k28 : Int32 → Int32 → IX → LX → Option (Int32 × IX × LX)} (hk28 : ∀ (x3 : Int32) (x4 : Int32) (X : IX) (Y : LX) (H : Heap) (locs : List Loc) (ls : Array Slot), va_P D zu_cl (zu_pic cA ad X Y) H → va_S A s.heap H locs → lv_has ls 5 [(0, .ref (ad 95)), (3, .int x3), (4, .int x4)] → k28 x3 x4 X Y = some res → W p l e zR_Mod_likeliest s m args below meth c H locs 0 0 (MQ below (zu_Qi D cA ad A res.1 res.2.1 res.2.2) args s 0 0 A) (F0 m 28 ls [])) (x3 : Int32) (x4 : Int32) (X : IX) (Y : LX) (H : Heap) (locs : List Loc) (ls : Array Slot) (hP : va_P D zu_cl (zu_pic cA ad X Y) H) (hS : va_S A s.heap H locs) (hl : lv_has ls 5 [(0, .ref (ad 95)), (3, .int x3), (4, .int x4)]) (hf : fn_Mod_likeliest_B28 k28 x3 x4 X Y = some res) : W p l e zR_Mod_likeliest s m args below meth c H locs 0 0 (MQ below (zu_Qi D cA ad A res.1 res.2.1 res.2.2) args s 0 0 A) (F0 m 28 ls []) := by
  obtain ⟨hx, hb, hml, hown, hts, hST⟩ := id B
  unfold fn_Mod_likeliest_B28 at hf
  refine lv_iload hx hb zd_Mod_likeliest_28 (lv_at hl 2 rfl) ?_
  refine lv_bipush (v := 24) hx hb zd_Mod_likeliest_30 (by decide) ?_
  refine lv_icmp_ge (tgt := 65) hx hb zd_Mod_likeliest_32 (by decide) (fun c10 => ?_) (fun c10 => ?_)
  · have hf := zu_t c10 hf
    refine lv_iload_n hx hb zd_Mod_likeliest_65 rfl (lv_at hl 1 rfl) ?_
    obtain rfl := Option.some.inj hf
    exact zr_iret hx hb hret hlk hP hS zd_Mod_likeliest_66
  · have hf := zu_f c10 hf
    refine lv_aload_n hx hb zd_Mod_likeliest_35 rfl (lv_at hl 0 rfl) ?_
    refine zg_Mod_parts B hP rfl zq_870 zd_Mod_likeliest_36 ?_
    refine lv_iload hx hb zd_Mod_likeliest_39 (lv_at hl 2 rfl) ?_
    obtain ⟨hg11, hf⟩ := zu_gd_e hf
    refine zr_lald rfl B hP rfl (by decide) rfl hg11 zd_Mod_likeliest_41 ?_
    refine lv_aload_n hx hb zd_Mod_likeliest_42 rfl (lv_at hl 0 rfl) ?_
    refine zg_Mod_parts B hP rfl zq_870 zd_Mod_likeliest_43 ?_
    refine lv_iload_n hx hb zd_Mod_likeliest_46 rfl (lv_at hl 1 rfl) ?_
    obtain ⟨hg12, hf⟩ := zu_gd_e hf
    refine zr_lald rfl B hP rfl (by decide) rfl hg12 zd_Mod_likeliest_47 ?_
    refine W.lcmp hx hb zd_Mod_likeliest_48 ?_
    refine lv_if_le (tgt := 57) hx hb zd_Mod_likeliest_49 (by decide) (fun c13 => ?_) (fun c13 => ?_)
    · have hf := zu_t c13 hf
      refine lv_iload_n hx hb zd_Mod_likeliest_57 rfl (lv_at hl 1 rfl) ?_
      exact zl_Mod_likeliest_L58 B hret hlk hk28 x4 x3 X Y _ _ _ hP hS (lv_sub hl [0, 2] rfl) hf
    · have hf := zu_f c13 hf
      refine lv_iload hx hb zd_Mod_likeliest_52 (lv_at hl 2 rfl) ?_
      refine lv_goto (tgt := 58) hx hb zd_Mod_likeliest_54 (by decide) ?_
      exact zl_Mod_likeliest_L58 B hret hlk hk28 x4 x4 X Y _ _ _ hP hS (lv_sub hl [0, 2] rfl) hf
theorem zl_Mod_likeliest_L28 {p : Program} {l : Launch} {e : Env} {s : State} {m : MethodId} {args : Array Value} {below : List Frame} {meth : Method} {c : Code} {D : va_G} {cA : Nat → ClassId} {ad : Nat → Nat} {A : Nat → Prop} (B : zu_B p s m args c zb_Mod_likeliest 5 "StonePostModel" D cA ad A) (hret : meth.sig.returnType = (some .int)) (hlk : meth.locks = false) {res : Int32 × IX × LX} : ∀ (n : Nat) (x3 : Int32) (x4 : Int32) (X : IX) (Y : LX) (H : Heap) (locs : List Loc) (ls : Array Slot), va_P D zu_cl (zu_pic cA ad X Y) H → va_S A s.heap H locs → lv_has ls 5 [(0, .ref (ad 95)), (3, .int x3), (4, .int x4)] → fn_Mod_likeliest_L28 n x3 x4 X Y = some res → W p l e zR_Mod_likeliest s m args below meth c H locs 0 0 (MQ below (zu_Qi D cA ad A res.1 res.2.1 res.2.2) args s 0 0 A) (F0 m 28 ls []) := by
  intro n
  induction n with
  | zero =>
    intro x3 x4 X Y H locs ls hP hS hl hf
    exact (Option.some_ne_none _ hf.symm).elim
  | succ n ih =>
    intro x3 x4 X Y H locs ls hP hS hl hf
    exact zl_Mod_likeliest_B28 B hret hlk ih x3 x4 X Y H locs ls hP hS hl  hf
set_option maxHeartbeats 4000000 in
theorem zl_Mod_likeliest {p : Program} {l : Launch} {e : Env} {s : State} {m : MethodId} {args : Array Value} {below : List Frame} {meth : Method} {c : Code} {D : va_G} {cA : Nat → ClassId} {ad : Nat → Nat} {A : Nat → Prop} (B : zu_B p s m args c zb_Mod_likeliest 5 "StonePostModel" D cA ad A) (hret : meth.sig.returnType = (some .int)) (hlk : meth.locks = false) {res : Int32 × IX × LX} {a1 : Int32} {a2 : Int32} {X : IX} {Y : LX} (H : Heap) (locs : List Loc) (ls : Array Slot) (hP : va_P D zu_cl (zu_pic cA ad X Y) H) (hS : va_S A s.heap H locs) (hl : lv_has ls 5 [(0, .ref (ad 95)), (1, .int a1), (2, .int a2)]) (hf : fn_Mod_likeliest a1 a2 X Y = some res) : W p l e zR_Mod_likeliest s m args below meth c H locs 0 0 (MQ below (zu_Qi D cA ad A res.1 res.2.1 res.2.2) args s 0 0 A) (F0 m 0 ls []) := by
  obtain ⟨hx, hb, hml, hown, hts, hST⟩ := id B
  unfold fn_Mod_likeliest at hf
  refine lv_iload_n hx hb zd_Mod_likeliest_0 rfl (lv_at hl 1 rfl) ?_
  refine lv_iload_n hx hb zd_Mod_likeliest_1 rfl (lv_at hl 2 rfl) ?_
  refine lv_bipush (v := 15) hx hb zd_Mod_likeliest_2 (by decide) ?_
  obtain ⟨v1, hq2, hf⟩ := zu_b1_e hf
  refine zw_Mod_isOdds (rest := []) B hP hS hq2 zq_1094 (Nat.le_of_ble_eq_true rfl) (Nat.le_of_ble_eq_true rfl) hl.1 rfl (Nat.le_of_ble_eq_true rfl) zd_Mod_likeliest_4 (by decide) (fun H locs hP hS => ?_)
  clear hq2
  refine lv_if_ne (tgt := 17) hx hb zd_Mod_likeliest_7 (by decide) (fun c3 => ?_) (fun c3 => ?_)
  · have hf := zu_f c3 hf
    refine lv_aload_n hx hb zd_Mod_likeliest_17 rfl (lv_at hl 0 rfl) ?_
    refine lv_iload_n hx hb zd_Mod_likeliest_18 rfl (lv_at hl 1 rfl) ?_
    refine lv_iload_n hx hb zd_Mod_likeliest_19 rfl (lv_at hl 2 rfl) ?_
    obtain ⟨X4, Y5, hq6, hf⟩ := zu_b2_e hf
    refine zw_Mod_findParts (rest := []) B hP hS hq6 zq_1097 (Nat.le_of_ble_eq_true rfl) (Nat.le_of_ble_eq_true rfl) hl.1 rfl (Nat.le_of_ble_eq_true rfl) zd_Mod_likeliest_20 (by decide) (fun H locs hP hS => ?_)
    clear hq6
    refine lv_iconst (v := 0) hx hb zd_Mod_likeliest_23 (by decide) ?_
    refine lv_istore_n (lv' := [(3, .int (0 : Int32)), (0, .ref (ad 95)), (1, .int a1), (2, .int a2)]) hx hb zd_Mod_likeliest_24 rfl hl (by decide) rfl (fun ls hl => ?_)
    refine lv_iconst (v := 1) hx hb zd_Mod_likeliest_25 (by decide) ?_
    refine lv_istore (lv' := [(4, .int (1 : Int32)), (3, .int (0 : Int32)), (0, .ref (ad 95)), (1, .int a1), (2, .int a2)]) hx hb zd_Mod_likeliest_26 hl (by decide) rfl (fun ls hl => ?_)
    exact zl_Mod_likeliest_L28 B hret hlk 400 (0 : Int32) (1 : Int32) X4 Y5 _ _ _ hP hS (lv_sub hl [2, 1, 0] rfl) hf
  · have hf := zu_t c3 hf
    refine lv_aload_n hx hb zd_Mod_likeliest_10 rfl (lv_at hl 0 rfl) ?_
    refine lv_ldc (v := -1000001) hx hb hown (hts _ zq_943) zd_Mod_likeliest_11 ?_
    obtain ⟨v7, X8, hq9, hf⟩ := zu_b2_e hf
    refine zw_Mod_finds (rest := []) B hP hS hq9 zq_944 (Nat.le_of_ble_eq_true rfl) (Nat.le_of_ble_eq_true rfl) hl.1 rfl (Nat.le_of_ble_eq_true rfl) zd_Mod_likeliest_13 (by decide) (fun H locs hP hS => ?_)
    clear hq9
    obtain rfl := Option.some.inj hf
    exact zr_iret hx hb hret hlk hP hS zd_Mod_likeliest_16
theorem zC_Mod_likeliest (l : Launch) {D : va_G} {cA : Nat → ClassId} {ad : Nat → Nat} {A : Nat → Prop} {a1 : Int32} {a2 : Int32} {X : IX} {Y : LX} {res : Int32 × IX × LX} (hf : fn_Mod_likeliest a1 a2 X Y = some res) : Met l zm_Mod_likeliest (zu_ws zm_Mod_likeliest zb_Mod_likeliest 5 (some .int)) zR_Mod_likeliest (va_Pc [.ref (ad 95), .int a1, .int a2] (zu_Pre D cA ad A X Y)) (zu_Qi D cA ad A res.1 res.2.1 res.2.2) 0 0 A := by
  refine Met.ofW (cc := zb_Mod_likeliest) (maxL := 5) (ret := (some .int)) (by decide +kernel) rfl ?_
  intro p e s m args below meth c s₁ B0 hml hv
  obtain ⟨rfl, hP, hST⟩ := hv
  have B : zu_B p s m _ c zb_Mod_likeliest 5 "StonePostModel" D cA ad A := ⟨B0.exec, B0.bytes, hml, findClass_of_methodNamed B0.named, (fun w hw => atoms_spec (ws := zu_ws zm_Mod_likeliest zb_Mod_likeliest 5 (some .int)) B0.pre w (List.mem_cons_of_mem _ hw)), hST⟩
  have hl := lv_entry ([.ref (ad 95), .int a1, .int a2]) (n := 5) (Nat.le_of_ble_eq_true rfl)
  rw [lg_entry_eq]
  generalize (lg_sl ([.ref (ad 95), .int a1, .int a2]) ++ List.replicate (5 - (lg_sl ([.ref (ad 95), .int a1, .int a2])).length) Slot.unset).toArray = ls at hl ⊢
  exact zl_Mod_likeliest B B0.returns B0.notSynchronized s.heap [] ls hP va_S.rf hl  hf
theorem zw_Mod_likeliest {p : Program} {l : Launch} {e : Env} {R : Room} {s : State} {m : MethodId} {args : Array Value} {below : List Frame} {meth : Method} {c : Code} {H : Heap} {locs : List Loc} {cells slots : Nat} {Q : State → Prop} {cc : ByteArray} {pc nL : Nat} {ls : Array Slot} {rest st0 : List Value} {D : va_G} {cA : Nat → ClassId} {ad : Nat → Nat} {A : Nat → Prop} {X : IX} {Y : LX} {own : String} {index : Nat} {a1 : Int32} {a2 : Int32} {v1 : Int32} {X1 : IX} {Y1 : LX} (B : zu_B p s m args c cc nL own D cA ad A) (hP : va_P D zu_cl (zu_pic cA ad X Y) H) (hS : va_S A s.heap H locs) (hq : fn_Mod_likeliest a1 a2 X Y = some (v1, X1, Y1)) (m1 : Cond.methodLink own index zm_Mod_likeliest ∈ zu_TB) (hR1 : 6 + 1 ≤ R.frames) (hR2 : 8 + (5 + 11) + 143 ≤ R.locals) (hsz : ls.size = nL) (hst : st0 = .int a2 :: .int a1 :: .ref (ad 95) :: rest) (hw : (rest.map fun v => v.category).sum ≤ 8) (hdg : decode cc pc = .ok (.invokevirtual index, 3)) (h00 : cells ≤ R.cells ∧ slots ≤ R.slots) (kk : ∀ (H1 : Heap) (locs1 : List Loc), va_P D zu_cl (zu_pic cA ad X1 Y1) H1 → va_S A s.heap H1 locs1 → W p l e R s m args below meth c H1 locs1 cells slots Q (F0 m (pc + 3) ls (.int v1 :: rest))) : W p l e R s m args below meth c H locs cells slots Q (F0 m pc ls st0) := by
  subst hst
  exact zr_cVi (As := [.int a1, .int a2]) (rest := rest) (n := 2) (C := "StonePostModel") (T := zt_Mod) (N := 23) B hP hS (zC_Mod_likeliest l  hq) (K := 7) rfl (by decide) (by decide) rfl rfl m1 zq_1106 zq_1107 zq_8 zq_1108 (by decide +kernel) ⟨hR1, hR2⟩ rfl rfl rfl hsz rfl hw hdg h00 kk
abbrev zR_Mod_ways : Room := { frames := 5, cells := 0, slots := 0, locals := 119 }
theorem zd_Mod_ways_0 : decode zb_Mod_ways 0 = .ok (.aload_n 0, 1) := by decide +kernel
theorem zd_Mod_ways_1 : decode zb_Mod_ways 1 = .ok (.iload_n 1, 1) := by decide +kernel
theorem zd_Mod_ways_2 : decode zb_Mod_ways 2 = .ok (.iload_n 2, 1) := by decide +kernel
theorem zd_Mod_ways_3 : decode zb_Mod_ways 3 = .ok (.iload_n 3, 1) := by decide +kernel
theorem zd_Mod_ways_4 : decode zb_Mod_ways 4 = .ok (.invokevirtual 148, 3) := by decide +kernel
theorem zd_Mod_ways_7 : decode zb_Mod_ways 7 = .ok (.aload_n 0, 1) := by decide +kernel
theorem zd_Mod_ways_8 : decode zb_Mod_ways 8 = .ok (.getfield 136, 3) := by decide +kernel
theorem zd_Mod_ways_11 : decode zb_Mod_ways 11 = .ok (.ifCond .le 12, 3) := by decide +kernel
theorem zd_Mod_ways_14 : decode zb_Mod_ways 14 = .ok (.iconst 1, 1) := by decide +kernel
theorem zd_Mod_ways_15 : decode zb_Mod_ways 15 = .ok (.aload_n 0, 1) := by decide +kernel
theorem zd_Mod_ways_16 : decode zb_Mod_ways 16 = .ok (.getfield 129, 3) := by decide +kernel
theorem zd_Mod_ways_19 : decode zb_Mod_ways 19 = .ok (.ishl, 1) := by decide +kernel
theorem zd_Mod_ways_20 : decode zb_Mod_ways 20 = .ok (.goto 4, 3) := by decide +kernel
theorem zd_Mod_ways_23 : decode zb_Mod_ways 23 = .ok (.iconst 0, 1) := by decide +kernel
theorem zd_Mod_ways_24 : decode zb_Mod_ways 24 = .ok (.aload_n 0, 1) := by decide +kernel
theorem zd_Mod_ways_25 : decode zb_Mod_ways 25 = .ok (.getfield 136, 3) := by decide +kernel
theorem zd_Mod_ways_28 : decode zb_Mod_ways 28 = .ok (.bipush 12, 2) := by decide +kernel
theorem zd_Mod_ways_30 : decode zb_Mod_ways 30 = .ok (.if_icmp .ge 12, 3) := by decide +kernel
theorem zd_Mod_ways_33 : decode zb_Mod_ways 33 = .ok (.iconst 1, 1) := by decide +kernel
theorem zd_Mod_ways_34 : decode zb_Mod_ways 34 = .ok (.aload_n 0, 1) := by decide +kernel
theorem zd_Mod_ways_35 : decode zb_Mod_ways 35 = .ok (.getfield 133, 3) := by decide +kernel
theorem zd_Mod_ways_38 : decode zb_Mod_ways 38 = .ok (.ishl, 1) := by decide +kernel
theorem zd_Mod_ways_39 : decode zb_Mod_ways 39 = .ok (.goto 4, 3) := by decide +kernel
theorem zd_Mod_ways_42 : decode zb_Mod_ways 42 = .ok (.iconst 0, 1) := by decide +kernel
theorem zd_Mod_ways_43 : decode zb_Mod_ways 43 = .ok (.ior, 1) := by decide +kernel
theorem zd_Mod_ways_44 : decode zb_Mod_ways 44 = .ok (.ireturn, 1) := by decide +kernel
set_option maxHeartbeats 4000000 in
theorem zl_Mod_ways_L43 {p : Program} {l : Launch} {e : Env} {s : State} {m : MethodId} {args : Array Value} {below : List Frame} {meth : Method} {c : Code} {D : va_G} {cA : Nat → ClassId} {ad : Nat → Nat} {A : Nat → Prop} (B : zu_B p s m args c zb_Mod_ways 4 "StonePostModel" D cA ad A) (hret : meth.sig.returnType = (some .int)) (hlk : meth.locks = false) {Y : LX} {res : Int32 × IX} (y0 : Int32) (y1 : Int32) (X : IX) (H : Heap) (locs : List Loc) (ls : Array Slot) (hP : va_P D zu_cl (zu_pic cA ad X Y) H) (hS : va_S A s.heap H locs) (hl : lv_has ls 4 []) (hf : fn_Mod_ways_L43 y0 y1 X = some res) : W p l e zR_Mod_ways s m args below meth c H locs 0 0 (MQ below (zu_Qi D cA ad A res.1 res.2 Y) args s 0 0 A) (F0 m 43 ls [.int y0, .int y1]) := by
  obtain ⟨hx, hb, hml, hown, hts, hST⟩ := id B
  unfold fn_Mod_ways_L43 at hf
  refine lv_ior hx hb zd_Mod_ways_43 ?_
  obtain rfl := Option.some.inj hf
  exact zr_iret hx hb hret hlk hP hS zd_Mod_ways_44
set_option maxHeartbeats 4000000 in
theorem zl_Mod_ways_L24 {p : Program} {l : Launch} {e : Env} {s : State} {m : MethodId} {args : Array Value} {below : List Frame} {meth : Method} {c : Code} {D : va_G} {cA : Nat → ClassId} {ad : Nat → Nat} {A : Nat → Prop} (B : zu_B p s m args c zb_Mod_ways 4 "StonePostModel" D cA ad A) (hret : meth.sig.returnType = (some .int)) (hlk : meth.locks = false) {Y : LX} {res : Int32 × IX} (y0 : Int32) (X : IX) (H : Heap) (locs : List Loc) (ls : Array Slot) (hP : va_P D zu_cl (zu_pic cA ad X Y) H) (hS : va_S A s.heap H locs) (hl : lv_has ls 4 [(0, .ref (ad 95))]) (hf : fn_Mod_ways_L24 y0 X = some res) : W p l e zR_Mod_ways s m args below meth c H locs 0 0 (MQ below (zu_Qi D cA ad A res.1 res.2 Y) args s 0 0 A) (F0 m 24 ls [.int y0]) := by
  obtain ⟨hx, hb, hml, hown, hts, hST⟩ := id B
  unfold fn_Mod_ways_L24 at hf
  refine lv_aload_n hx hb zd_Mod_ways_24 rfl (lv_at hl 0 rfl) ?_
  refine zg_Mod_twelfths B hP rfl zq_867 zd_Mod_ways_25 ?_
  refine lv_bipush (v := 12) hx hb zd_Mod_ways_28 (by decide) ?_
  refine lv_icmp_ge (tgt := 42) hx hb zd_Mod_ways_30 (by decide) (fun c4 => ?_) (fun c4 => ?_)
  · have hf := zu_t c4 hf
    refine lv_iconst (v := 0) hx hb zd_Mod_ways_42 (by decide) ?_
    exact zl_Mod_ways_L43 B hret hlk (0 : Int32) y0 X _ _ _ hP hS (lv_sub hl [] rfl) hf
  · have hf := zu_f c4 hf
    refine lv_iconst (v := 1) hx hb zd_Mod_ways_33 (by decide) ?_
    refine lv_aload_n hx hb zd_Mod_ways_34 rfl (lv_at hl 0 rfl) ?_
    refine zg_Mod_second B hP rfl zq_868 zd_Mod_ways_35 ?_
    refine lv_ishl hx hb zd_Mod_ways_38 ?_
    refine lv_goto (tgt := 43) hx hb zd_Mod_ways_39 (by decide) ?_
    exact zl_Mod_ways_L43 B hret hlk ((1 : Int32) <<< ((X 95 7) &&& 31)) y0 X _ _ _ hP hS (lv_sub hl [] rfl) hf
set_option maxHeartbeats 4000000 in
theorem zl_Mod_ways {p : Program} {l : Launch} {e : Env} {s : State} {m : MethodId} {args : Array Value} {below : List Frame} {meth : Method} {c : Code} {D : va_G} {cA : Nat → ClassId} {ad : Nat → Nat} {A : Nat → Prop} (B : zu_B p s m args c zb_Mod_ways 4 "StonePostModel" D cA ad A) (hret : meth.sig.returnType = (some .int)) (hlk : meth.locks = false) {Y : LX} {res : Int32 × IX} {a1 : Int32} {a2 : Int32} {a3 : Int32} {X : IX} (H : Heap) (locs : List Loc) (ls : Array Slot) (hP : va_P D zu_cl (zu_pic cA ad X Y) H) (hS : va_S A s.heap H locs) (hl : lv_has ls 4 [(0, .ref (ad 95)), (1, .int a1), (2, .int a2), (3, .int a3)]) (hf : fn_Mod_ways a1 a2 a3 X = some res) : W p l e zR_Mod_ways s m args below meth c H locs 0 0 (MQ below (zu_Qi D cA ad A res.1 res.2 Y) args s 0 0 A) (F0 m 0 ls []) := by
  obtain ⟨hx, hb, hml, hown, hts, hST⟩ := id B
  unfold fn_Mod_ways at hf
  refine lv_aload_n hx hb zd_Mod_ways_0 rfl (lv_at hl 0 rfl) ?_
  refine lv_iload_n hx hb zd_Mod_ways_1 rfl (lv_at hl 1 rfl) ?_
  refine lv_iload_n hx hb zd_Mod_ways_2 rfl (lv_at hl 2 rfl) ?_
  refine lv_iload_n hx hb zd_Mod_ways_3 rfl (lv_at hl 3 rfl) ?_
  obtain ⟨X1, hq2, hf⟩ := zu_b1_e hf
  refine zw_Mod_goes (rest := []) B hP hS hq2 zq_1075 (Nat.le_of_ble_eq_true rfl) (Nat.le_of_ble_eq_true rfl) hl.1 rfl (Nat.le_of_ble_eq_true rfl) zd_Mod_ways_4 (by decide) (fun H locs hP hS => ?_)
  clear hq2
  refine lv_aload_n hx hb zd_Mod_ways_7 rfl (lv_at hl 0 rfl) ?_
  refine zg_Mod_twelfths B hP rfl zq_867 zd_Mod_ways_8 ?_
  refine lv_if_le (tgt := 23) hx hb zd_Mod_ways_11 (by decide) (fun c3 => ?_) (fun c3 => ?_)
  · have hf := zu_t c3 hf
    refine lv_iconst (v := 0) hx hb zd_Mod_ways_23 (by decide) ?_
    exact zl_Mod_ways_L24 B hret hlk (0 : Int32) X1 _ _ _ hP hS (lv_sub hl [0] rfl) hf
  · have hf := zu_f c3 hf
    refine lv_iconst (v := 1) hx hb zd_Mod_ways_14 (by decide) ?_
    refine lv_aload_n hx hb zd_Mod_ways_15 rfl (lv_at hl 0 rfl) ?_
    refine zg_Mod_first B hP rfl zq_866 zd_Mod_ways_16 ?_
    refine lv_ishl hx hb zd_Mod_ways_19 ?_
    refine lv_goto (tgt := 24) hx hb zd_Mod_ways_20 (by decide) ?_
    exact zl_Mod_ways_L24 B hret hlk ((1 : Int32) <<< ((X1 95 5) &&& 31)) X1 _ _ _ hP hS (lv_sub hl [0] rfl) hf
theorem zC_Mod_ways (l : Launch) {D : va_G} {cA : Nat → ClassId} {ad : Nat → Nat} {A : Nat → Prop} {a1 : Int32} {a2 : Int32} {a3 : Int32} {X : IX} {Y : LX} {res : Int32 × IX} (hf : fn_Mod_ways a1 a2 a3 X = some res) : Met l zm_Mod_ways (zu_ws zm_Mod_ways zb_Mod_ways 4 (some .int)) zR_Mod_ways (va_Pc [.ref (ad 95), .int a1, .int a2, .int a3] (zu_Pre D cA ad A X Y)) (zu_Qi D cA ad A res.1 res.2 Y) 0 0 A := by
  refine Met.ofW (cc := zb_Mod_ways) (maxL := 4) (ret := (some .int)) (by decide +kernel) rfl ?_
  intro p e s m args below meth c s₁ B0 hml hv
  obtain ⟨rfl, hP, hST⟩ := hv
  have B : zu_B p s m _ c zb_Mod_ways 4 "StonePostModel" D cA ad A := ⟨B0.exec, B0.bytes, hml, findClass_of_methodNamed B0.named, (fun w hw => atoms_spec (ws := zu_ws zm_Mod_ways zb_Mod_ways 4 (some .int)) B0.pre w (List.mem_cons_of_mem _ hw)), hST⟩
  have hl := lv_entry ([.ref (ad 95), .int a1, .int a2, .int a3]) (n := 4) (Nat.le_of_ble_eq_true rfl)
  rw [lg_entry_eq]
  generalize (lg_sl ([.ref (ad 95), .int a1, .int a2, .int a3]) ++ List.replicate (4 - (lg_sl ([.ref (ad 95), .int a1, .int a2, .int a3])).length) Slot.unset).toArray = ls at hl ⊢
  exact zl_Mod_ways B B0.returns B0.notSynchronized s.heap [] ls hP va_S.rf hl  hf
theorem zw_Mod_ways {p : Program} {l : Launch} {e : Env} {R : Room} {s : State} {m : MethodId} {args : Array Value} {below : List Frame} {meth : Method} {c : Code} {H : Heap} {locs : List Loc} {cells slots : Nat} {Q : State → Prop} {cc : ByteArray} {pc nL : Nat} {ls : Array Slot} {rest st0 : List Value} {D : va_G} {cA : Nat → ClassId} {ad : Nat → Nat} {A : Nat → Prop} {X : IX} {Y : LX} {own : String} {index : Nat} {a1 : Int32} {a2 : Int32} {a3 : Int32} {v1 : Int32} {X1 : IX} (B : zu_B p s m args c cc nL own D cA ad A) (hP : va_P D zu_cl (zu_pic cA ad X Y) H) (hS : va_S A s.heap H locs) (hq : fn_Mod_ways a1 a2 a3 X = some (v1, X1)) (m1 : Cond.methodLink own index zm_Mod_ways ∈ zu_TB) (hR1 : 5 + 1 ≤ R.frames) (hR2 : 8 + (4 + 11) + 119 ≤ R.locals) (hsz : ls.size = nL) (hst : st0 = .int a3 :: .int a2 :: .int a1 :: .ref (ad 95) :: rest) (hw : (rest.map fun v => v.category).sum ≤ 8) (hdg : decode cc pc = .ok (.invokevirtual index, 3)) (h00 : cells ≤ R.cells ∧ slots ≤ R.slots) (kk : ∀ (H1 : Heap) (locs1 : List Loc), va_P D zu_cl (zu_pic cA ad X1 Y) H1 → va_S A s.heap H1 locs1 → W p l e R s m args below meth c H1 locs1 cells slots Q (F0 m (pc + 3) ls (.int v1 :: rest))) : W p l e R s m args below meth c H locs cells slots Q (F0 m pc ls st0) := by
  subst hst
  exact zr_cVi (As := [.int a1, .int a2, .int a3]) (rest := rest) (n := 3) (C := "StonePostModel") (T := zt_Mod) (N := 23) B hP hS (zC_Mod_ways l  hq) (K := 7) rfl (by decide) (by decide) rfl rfl m1 zq_1126 zqP_40 zq_8 zq_1127 (by decide +kernel) ⟨hR1, hR2⟩ rfl rfl rfl hsz rfl hw hdg h00 kk
abbrev zR_Mod_stepped : Room := { frames := 6, cells := 0, slots := 0, locals := 142 }
theorem zd_Mod_stepped_0 : decode zb_Mod_stepped 0 = .ok (.iconst 0, 1) := by decide +kernel
theorem zd_Mod_stepped_1 : decode zb_Mod_stepped 1 = .ok (.istore 5, 2) := by decide +kernel
theorem zd_Mod_stepped_3 : decode zb_Mod_stepped 3 = .ok (.iconst 0, 1) := by decide +kernel
theorem zd_Mod_stepped_4 : decode zb_Mod_stepped 4 = .ok (.istore 6, 2) := by decide +kernel
theorem zd_Mod_stepped_6 : decode zb_Mod_stepped 6 = .ok (.iload 6, 2) := by decide +kernel
theorem zd_Mod_stepped_8 : decode zb_Mod_stepped 8 = .ok (.bipush 24, 2) := by decide +kernel
theorem zd_Mod_stepped_10 : decode zb_Mod_stepped 10 = .ok (.if_icmp .ge 55, 3) := by decide +kernel
theorem zd_Mod_stepped_13 : decode zb_Mod_stepped 13 = .ok (.iload_n 1, 1) := by decide +kernel
theorem zd_Mod_stepped_14 : decode zb_Mod_stepped 14 = .ok (.iload 6, 2) := by decide +kernel
theorem zd_Mod_stepped_16 : decode zb_Mod_stepped 16 = .ok (.invokestatic 175, 3) := by decide +kernel
theorem zd_Mod_stepped_19 : decode zb_Mod_stepped 19 = .ok (.ifCond .eq 40, 3) := by decide +kernel
theorem zd_Mod_stepped_22 : decode zb_Mod_stepped 22 = .ok (.iload 5, 2) := by decide +kernel
theorem zd_Mod_stepped_24 : decode zb_Mod_stepped 24 = .ok (.iload_n 3, 1) := by decide +kernel
theorem zd_Mod_stepped_25 : decode zb_Mod_stepped 25 = .ok (.ifCond .eq 23, 3) := by decide +kernel
theorem zd_Mod_stepped_28 : decode zb_Mod_stepped 28 = .ok (.aload_n 0, 1) := by decide +kernel
theorem zd_Mod_stepped_29 : decode zb_Mod_stepped 29 = .ok (.iload 6, 2) := by decide +kernel
theorem zd_Mod_stepped_31 : decode zb_Mod_stepped 31 = .ok (.iload_n 2, 1) := by decide +kernel
theorem zd_Mod_stepped_32 : decode zb_Mod_stepped 32 = .ok (.iconst 0, 1) := by decide +kernel
theorem zd_Mod_stepped_33 : decode zb_Mod_stepped 33 = .ok (.invokevirtual 178, 3) := by decide +kernel
theorem zd_Mod_stepped_36 : decode zb_Mod_stepped 36 = .ok (.aload_n 0, 1) := by decide +kernel
theorem zd_Mod_stepped_37 : decode zb_Mod_stepped 37 = .ok (.iload 6, 2) := by decide +kernel
theorem zd_Mod_stepped_39 : decode zb_Mod_stepped 39 = .ok (.iload_n 2, 1) := by decide +kernel
theorem zd_Mod_stepped_40 : decode zb_Mod_stepped 40 = .ok (.iconst 1, 1) := by decide +kernel
theorem zd_Mod_stepped_41 : decode zb_Mod_stepped 41 = .ok (.invokevirtual 178, 3) := by decide +kernel
theorem zd_Mod_stepped_44 : decode zb_Mod_stepped 44 = .ok (.ior, 1) := by decide +kernel
theorem zd_Mod_stepped_45 : decode zb_Mod_stepped 45 = .ok (.goto 11, 3) := by decide +kernel
theorem zd_Mod_stepped_48 : decode zb_Mod_stepped 48 = .ok (.aload_n 0, 1) := by decide +kernel
theorem zd_Mod_stepped_49 : decode zb_Mod_stepped 49 = .ok (.iload 6, 2) := by decide +kernel
theorem zd_Mod_stepped_51 : decode zb_Mod_stepped 51 = .ok (.iload_n 2, 1) := by decide +kernel
theorem zd_Mod_stepped_52 : decode zb_Mod_stepped 52 = .ok (.iconst (-1), 1) := by decide +kernel
theorem zd_Mod_stepped_53 : decode zb_Mod_stepped 53 = .ok (.invokevirtual 178, 3) := by decide +kernel
theorem zd_Mod_stepped_56 : decode zb_Mod_stepped 56 = .ok (.ior, 1) := by decide +kernel
theorem zd_Mod_stepped_57 : decode zb_Mod_stepped 57 = .ok (.istore 5, 2) := by decide +kernel
theorem zd_Mod_stepped_59 : decode zb_Mod_stepped 59 = .ok (.iinc 6 1, 3) := by decide +kernel
theorem zd_Mod_stepped_62 : decode zb_Mod_stepped 62 = .ok (.goto (-56), 3) := by decide +kernel
theorem zd_Mod_stepped_65 : decode zb_Mod_stepped 65 = .ok (.iload 5, 2) := by decide +kernel
theorem zd_Mod_stepped_67 : decode zb_Mod_stepped 67 = .ok (.iload 4, 2) := by decide +kernel
theorem zd_Mod_stepped_69 : decode zb_Mod_stepped 69 = .ok (.iconst (-1), 1) := by decide +kernel
theorem zd_Mod_stepped_70 : decode zb_Mod_stepped 70 = .ok (.ixor, 1) := by decide +kernel
theorem zd_Mod_stepped_71 : decode zb_Mod_stepped 71 = .ok (.iand, 1) := by decide +kernel
theorem zd_Mod_stepped_72 : decode zb_Mod_stepped 72 = .ok (.ireturn, 1) := by decide +kernel
set_option maxHeartbeats 4000000 in
theorem zl_Mod_stepped_L59 {p : Program} {l : Launch} {e : Env} {s : State} {m : MethodId} {args : Array Value} {below : List Frame} {meth : Method} {c : Code} {D : va_G} {cA : Nat → ClassId} {ad : Nat → Nat} {A : Nat → Prop} (B : zu_B p s m args c zb_Mod_stepped 7 "StonePostModel" D cA ad A) (hret : meth.sig.returnType = (some .int)) (hlk : meth.locks = false) {Y : LX} {res : Int32 × IX} {k6 : Int32 → Int32 → Int32 → Int32 → Int32 → Int32 → IX → Option (Int32 × IX)} (hk6 : ∀ (x1 : Int32) (x2 : Int32) (x3 : Int32) (x4 : Int32) (x5 : Int32) (x6 : Int32) (X : IX) (H : Heap) (locs : List Loc) (ls : Array Slot), va_P D zu_cl (zu_pic cA ad X Y) H → va_S A s.heap H locs → lv_has ls 7 [(0, .ref (ad 95)), (1, .int x1), (2, .int x2), (3, .int x3), (4, .int x4), (5, .int x5), (6, .int x6)] → k6 x1 x2 x3 x4 x5 x6 X = some res → W p l e zR_Mod_stepped s m args below meth c H locs 0 0 (MQ below (zu_Qi D cA ad A res.1 res.2 Y) args s 0 0 A) (F0 m 6 ls [])) (x1 : Int32) (x2 : Int32) (x3 : Int32) (x4 : Int32) (x5 : Int32) (x6 : Int32) (X : IX) (H : Heap) (locs : List Loc) (ls : Array Slot) (hP : va_P D zu_cl (zu_pic cA ad X Y) H) (hS : va_S A s.heap H locs) (hl : lv_has ls 7 [(0, .ref (ad 95)), (1, .int x1), (2, .int x2), (3, .int x3), (4, .int x4), (5, .int x5), (6, .int x6)]) (hf : fn_Mod_stepped_L59 k6 x1 x2 x3 x4 x5 x6 X = some res) : W p l e zR_Mod_stepped s m args below meth c H locs 0 0 (MQ below (zu_Qi D cA ad A res.1 res.2 Y) args s 0 0 A) (F0 m 59 ls []) := by
  obtain ⟨hx, hb, hml, hown, hts, hST⟩ := id B
  unfold fn_Mod_stepped_L59 at hf
  obtain ⟨v15, ev15, hf⟩ := zu_nx_e hf
  refine lv_iinc (v := v15) (lv' := [(6, .int v15), (0, .ref (ad 95)), (1, .int x1), (2, .int x2), (3, .int x3), (4, .int x4), (5, .int x5)]) hx hb zd_Mod_stepped_59 hl (k := 6) rfl (by rw [ev15]; rfl) (by decide) rfl (fun ls hl => ?_)
  clear ev15
  refine lv_goto (tgt := 6) hx hb zd_Mod_stepped_62 (by decide) ?_
  exact hk6 x1 x2 x3 x4 x5 v15 X _ _ _ hP hS (lv_sub hl [1, 2, 3, 4, 5, 6, 0] rfl) hf
set_option maxHeartbeats 4000000 in
theorem zl_Mod_stepped_L56 {p : Program} {l : Launch} {e : Env} {s : State} {m : MethodId} {args : Array Value} {below : List Frame} {meth : Method} {c : Code} {D : va_G} {cA : Nat → ClassId} {ad : Nat → Nat} {A : Nat → Prop} (B : zu_B p s m args c zb_Mod_stepped 7 "StonePostModel" D cA ad A) (hret : meth.sig.returnType = (some .int)) (hlk : meth.locks = false) {Y : LX} {res : Int32 × IX} {k6 : Int32 → Int32 → Int32 → Int32 → Int32 → Int32 → IX → Option (Int32 × IX)} (hk6 : ∀ (x1 : Int32) (x2 : Int32) (x3 : Int32) (x4 : Int32) (x5 : Int32) (x6 : Int32) (X : IX) (H : Heap) (locs : List Loc) (ls : Array Slot), va_P D zu_cl (zu_pic cA ad X Y) H → va_S A s.heap H locs → lv_has ls 7 [(0, .ref (ad 95)), (1, .int x1), (2, .int x2), (3, .int x3), (4, .int x4), (5, .int x5), (6, .int x6)] → k6 x1 x2 x3 x4 x5 x6 X = some res → W p l e zR_Mod_stepped s m args below meth c H locs 0 0 (MQ below (zu_Qi D cA ad A res.1 res.2 Y) args s 0 0 A) (F0 m 6 ls [])) (x1 : Int32) (x2 : Int32) (x3 : Int32) (x4 : Int32) (x6 : Int32) (y0 : Int32) (y1 : Int32) (X : IX) (H : Heap) (locs : List Loc) (ls : Array Slot) (hP : va_P D zu_cl (zu_pic cA ad X Y) H) (hS : va_S A s.heap H locs) (hl : lv_has ls 7 [(0, .ref (ad 95)), (1, .int x1), (2, .int x2), (3, .int x3), (4, .int x4), (6, .int x6)]) (hf : fn_Mod_stepped_L56 k6 x1 x2 x3 x4 x6 y0 y1 X = some res) : W p l e zR_Mod_stepped s m args below meth c H locs 0 0 (MQ below (zu_Qi D cA ad A res.1 res.2 Y) args s 0 0 A) (F0 m 56 ls [.int y0, .int y1]) := by
  obtain ⟨hx, hb, hml, hown, hts, hST⟩ := id B
  unfold fn_Mod_stepped_L56 at hf
  refine lv_ior hx hb zd_Mod_stepped_56 ?_
  refine zr_nxi hf (fun v16 hf => ?_)
  refine lv_istore (lv' := [(5, .int v16), (0, .ref (ad 95)), (1, .int x1), (2, .int x2), (3, .int x3), (4, .int x4), (6, .int x6)]) hx hb zd_Mod_stepped_57 hl (by decide) rfl (fun ls hl => ?_)
  exact zl_Mod_stepped_L59 B hret hlk hk6 x1 x2 x3 x4 v16 x6 X _ _ _ hP hS (lv_sub hl [1, 2, 3, 4, 5, 0, 6] rfl) hf
set_option maxHeartbeats 4000000 in
theorem zl_Mod_stepped_B6 {p : Program} {l : Launch} {e : Env} {s : State} {m : MethodId} {args : Array Value} {below : List Frame} {meth : Method} {c : Code} {D : va_G} {cA : Nat → ClassId} {ad : Nat → Nat} {A : Nat → Prop} (B : zu_B p s m args c zb_Mod_stepped 7 "StonePostModel" D cA ad A) (hret : meth.sig.returnType = (some .int)) (hlk : meth.locks = false) {Y : LX} {res : Int32 × IX} {k6 : Int32 → Int32 → Int32 → Int32 → Int32 → Int32 → IX → Option (Int32 × IX)} (hk6 : ∀ (x1 : Int32) (x2 : Int32) (x3 : Int32) (x4 : Int32) (x5 : Int32) (x6 : Int32) (X : IX) (H : Heap) (locs : List Loc) (ls : Array Slot), va_P D zu_cl (zu_pic cA ad X Y) H → va_S A s.heap H locs → lv_has ls 7 [(0, .ref (ad 95)), (1, .int x1), (2, .int x2), (3, .int x3), (4, .int x4), (5, .int x5), (6, .int x6)] → k6 x1 x2 x3 x4 x5 x6 X = some res → W p l e zR_Mod_stepped s m args below meth c H locs 0 0 (MQ below (zu_Qi D cA ad A res.1 res.2 Y) args s 0 0 A) (F0 m 6 ls [])) (x1 : Int32) (x2 : Int32) (x3 : Int32) (x4 : Int32) (x5 : Int32) (x6 : Int32) (X : IX) (H : Heap) (locs : List Loc) (ls : Array Slot) (hP : va_P D zu_cl (zu_pic cA ad X Y) H) (hS : va_S A s.heap H locs) (hl : lv_has ls 7 [(0, .ref (ad 95)), (1, .int x1), (2, .int x2), (3, .int x3), (4, .int x4), (5, .int x5), (6, .int x6)]) (hf : fn_Mod_stepped_B6 k6 x1 x2 x3 x4 x5 x6 X = some res) : W p l e zR_Mod_stepped s m args below meth c H locs 0 0 (MQ below (zu_Qi D cA ad A res.1 res.2 Y) args s 0 0 A) (F0 m 6 ls []) := by
  obtain ⟨hx, hb, hml, hown, hts, hST⟩ := id B
  unfold fn_Mod_stepped_B6 at hf
  refine lv_iload hx hb zd_Mod_stepped_6 (lv_at hl 6 rfl) ?_
  refine lv_bipush (v := 24) hx hb zd_Mod_stepped_8 (by decide) ?_
  refine lv_icmp_ge (tgt := 65) hx hb zd_Mod_stepped_10 (by decide) (fun c1 => ?_) (fun c1 => ?_)
  · have hf := zu_t c1 hf
    refine lv_iload hx hb zd_Mod_stepped_65 (lv_at hl 5 rfl) ?_
    refine lv_iload hx hb zd_Mod_stepped_67 (lv_at hl 4 rfl) ?_
    refine lv_iconst (v := -1) hx hb zd_Mod_stepped_69 (by decide) ?_
    refine lv_ixor hx hb zd_Mod_stepped_70 ?_
    refine lv_iand hx hb zd_Mod_stepped_71 ?_
    obtain rfl := Option.some.inj hf
    exact zr_iret hx hb hret hlk hP hS zd_Mod_stepped_72
  · have hf := zu_f c1 hf
    refine lv_iload_n hx hb zd_Mod_stepped_13 rfl (lv_at hl 1 rfl) ?_
    refine lv_iload hx hb zd_Mod_stepped_14 (lv_at hl 6 rfl) ?_
    obtain ⟨v2, hq3, hf⟩ := zu_b1_e hf
    refine zw_Mod_has (rest := []) B hP hS hq3 zq_1117 (Nat.le_of_ble_eq_true rfl) (Nat.le_of_ble_eq_true rfl) hl.1 rfl (Nat.le_of_ble_eq_true rfl) zd_Mod_stepped_16 (by decide) (fun H locs hP hS => ?_)
    clear hq3
    refine lv_if_eq (tgt := 59) hx hb zd_Mod_stepped_19 (by decide) (fun c4 => ?_) (fun c4 => ?_)
    · have hf := zu_t c4 hf
      exact zl_Mod_stepped_L59 B hret hlk hk6 x1 x2 x3 x4 x5 x6 X _ _ _ hP hS (lv_sub hl [0, 1, 2, 3, 4, 5, 6] rfl) hf
    · have hf := zu_f c4 hf
      refine lv_iload hx hb zd_Mod_stepped_22 (lv_at hl 5 rfl) ?_
      refine lv_iload_n hx hb zd_Mod_stepped_24 rfl (lv_at hl 3 rfl) ?_
      refine lv_if_eq (tgt := 48) hx hb zd_Mod_stepped_25 (by decide) (fun c5 => ?_) (fun c5 => ?_)
      · have hf := zu_t c5 hf
        refine lv_aload_n hx hb zd_Mod_stepped_48 rfl (lv_at hl 0 rfl) ?_
        refine lv_iload hx hb zd_Mod_stepped_49 (lv_at hl 6 rfl) ?_
        refine lv_iload_n hx hb zd_Mod_stepped_51 rfl (lv_at hl 2 rfl) ?_
        refine lv_iconst (v := -1) hx hb zd_Mod_stepped_52 (by decide) ?_
        obtain ⟨v6, X7, hq8, hf⟩ := zu_b2_e hf
        refine zw_Mod_ways (rest := [.int x5]) B hP hS hq8 zq_1124 (Nat.le_of_ble_eq_true rfl) (Nat.le_of_ble_eq_true rfl) hl.1 rfl (Nat.le_of_ble_eq_true rfl) zd_Mod_stepped_53 (by decide) (fun H locs hP hS => ?_)
        clear hq8
        exact zl_Mod_stepped_L56 B hret hlk hk6 x1 x2 x3 x4 x6 v6 x5 X7 _ _ _ hP hS (lv_sub hl [0, 1, 2, 3, 4, 6] rfl) hf
      · have hf := zu_f c5 hf
        refine lv_aload_n hx hb zd_Mod_stepped_28 rfl (lv_at hl 0 rfl) ?_
        refine lv_iload hx hb zd_Mod_stepped_29 (lv_at hl 6 rfl) ?_
        refine lv_iload_n hx hb zd_Mod_stepped_31 rfl (lv_at hl 2 rfl) ?_
        refine lv_iconst (v := 0) hx hb zd_Mod_stepped_32 (by decide) ?_
        obtain ⟨v9, X10, hq11, hf⟩ := zu_b2_e hf
        refine zw_Mod_ways (rest := [.int x5]) B hP hS hq11 zq_1124 (Nat.le_of_ble_eq_true rfl) (Nat.le_of_ble_eq_true rfl) hl.1 rfl (Nat.le_of_ble_eq_true rfl) zd_Mod_stepped_33 (by decide) (fun H locs hP hS => ?_)
        clear hq11
        refine lv_aload_n hx hb zd_Mod_stepped_36 rfl (lv_at hl 0 rfl) ?_
        refine lv_iload hx hb zd_Mod_stepped_37 (lv_at hl 6 rfl) ?_
        refine lv_iload_n hx hb zd_Mod_stepped_39 rfl (lv_at hl 2 rfl) ?_
        refine lv_iconst (v := 1) hx hb zd_Mod_stepped_40 (by decide) ?_
        obtain ⟨v12, X13, hq14, hf⟩ := zu_b2_e hf
        refine zw_Mod_ways (rest := [.int v9, .int x5]) B hP hS hq14 zq_1124 (Nat.le_of_ble_eq_true rfl) (Nat.le_of_ble_eq_true rfl) hl.1 rfl (Nat.le_of_ble_eq_true rfl) zd_Mod_stepped_41 (by decide) (fun H locs hP hS => ?_)
        clear hq14
        refine lv_ior hx hb zd_Mod_stepped_44 ?_
        refine lv_goto (tgt := 56) hx hb zd_Mod_stepped_45 (by decide) ?_
        exact zl_Mod_stepped_L56 B hret hlk hk6 x1 x2 x3 x4 x6 (v9 ||| v12) x5 X13 _ _ _ hP hS (lv_sub hl [0, 1, 2, 3, 4, 6] rfl) hf
theorem zl_Mod_stepped_L6 {p : Program} {l : Launch} {e : Env} {s : State} {m : MethodId} {args : Array Value} {below : List Frame} {meth : Method} {c : Code} {D : va_G} {cA : Nat → ClassId} {ad : Nat → Nat} {A : Nat → Prop} (B : zu_B p s m args c zb_Mod_stepped 7 "StonePostModel" D cA ad A) (hret : meth.sig.returnType = (some .int)) (hlk : meth.locks = false) {Y : LX} {res : Int32 × IX} : ∀ (n : Nat) (x1 : Int32) (x2 : Int32) (x3 : Int32) (x4 : Int32) (x5 : Int32) (x6 : Int32) (X : IX) (H : Heap) (locs : List Loc) (ls : Array Slot), va_P D zu_cl (zu_pic cA ad X Y) H → va_S A s.heap H locs → lv_has ls 7 [(0, .ref (ad 95)), (1, .int x1), (2, .int x2), (3, .int x3), (4, .int x4), (5, .int x5), (6, .int x6)] → fn_Mod_stepped_L6 n x1 x2 x3 x4 x5 x6 X = some res → W p l e zR_Mod_stepped s m args below meth c H locs 0 0 (MQ below (zu_Qi D cA ad A res.1 res.2 Y) args s 0 0 A) (F0 m 6 ls []) := by
  intro n
  induction n with
  | zero =>
    intro x1 x2 x3 x4 x5 x6 X H locs ls hP hS hl hf
    exact (Option.some_ne_none _ hf.symm).elim
  | succ n ih =>
    intro x1 x2 x3 x4 x5 x6 X H locs ls hP hS hl hf
    exact zl_Mod_stepped_B6 B hret hlk ih x1 x2 x3 x4 x5 x6 X H locs ls hP hS hl  hf
set_option maxHeartbeats 4000000 in
theorem zl_Mod_stepped {p : Program} {l : Launch} {e : Env} {s : State} {m : MethodId} {args : Array Value} {below : List Frame} {meth : Method} {c : Code} {D : va_G} {cA : Nat → ClassId} {ad : Nat → Nat} {A : Nat → Prop} (B : zu_B p s m args c zb_Mod_stepped 7 "StonePostModel" D cA ad A) (hret : meth.sig.returnType = (some .int)) (hlk : meth.locks = false) {Y : LX} {res : Int32 × IX} {a1 : Int32} {a2 : Int32} {a3 : Int32} {a4 : Int32} {X : IX} (H : Heap) (locs : List Loc) (ls : Array Slot) (hP : va_P D zu_cl (zu_pic cA ad X Y) H) (hS : va_S A s.heap H locs) (hl : lv_has ls 7 [(0, .ref (ad 95)), (1, .int a1), (2, .int a2), (3, .int a3), (4, .int a4)]) (hf : fn_Mod_stepped a1 a2 a3 a4 X = some res) : W p l e zR_Mod_stepped s m args below meth c H locs 0 0 (MQ below (zu_Qi D cA ad A res.1 res.2 Y) args s 0 0 A) (F0 m 0 ls []) := by
  obtain ⟨hx, hb, hml, hown, hts, hST⟩ := id B
  unfold fn_Mod_stepped at hf
  refine lv_iconst (v := 0) hx hb zd_Mod_stepped_0 (by decide) ?_
  refine lv_istore (lv' := [(5, .int (0 : Int32)), (0, .ref (ad 95)), (1, .int a1), (2, .int a2), (3, .int a3), (4, .int a4)]) hx hb zd_Mod_stepped_1 hl (by decide) rfl (fun ls hl => ?_)
  refine lv_iconst (v := 0) hx hb zd_Mod_stepped_3 (by decide) ?_
  refine lv_istore (lv' := [(6, .int (0 : Int32)), (5, .int (0 : Int32)), (0, .ref (ad 95)), (1, .int a1), (2, .int a2), (3, .int a3), (4, .int a4)]) hx hb zd_Mod_stepped_4 hl (by decide) rfl (fun ls hl => ?_)
  exact zl_Mod_stepped_L6 B hret hlk 400 a1 a2 a3 a4 (0 : Int32) (0 : Int32) X _ _ _ hP hS (lv_sub hl [2, 3, 4, 5, 6, 1, 0] rfl) hf
theorem zC_Mod_stepped (l : Launch) {D : va_G} {cA : Nat → ClassId} {ad : Nat → Nat} {A : Nat → Prop} {a1 : Int32} {a2 : Int32} {a3 : Int32} {a4 : Int32} {X : IX} {Y : LX} {res : Int32 × IX} (hf : fn_Mod_stepped a1 a2 a3 a4 X = some res) : Met l zm_Mod_stepped (zu_ws zm_Mod_stepped zb_Mod_stepped 7 (some .int)) zR_Mod_stepped (va_Pc [.ref (ad 95), .int a1, .int a2, .int a3, .int a4] (zu_Pre D cA ad A X Y)) (zu_Qi D cA ad A res.1 res.2 Y) 0 0 A := by
  refine Met.ofW (cc := zb_Mod_stepped) (maxL := 7) (ret := (some .int)) (by decide +kernel) rfl ?_
  intro p e s m args below meth c s₁ B0 hml hv
  obtain ⟨rfl, hP, hST⟩ := hv
  have B : zu_B p s m _ c zb_Mod_stepped 7 "StonePostModel" D cA ad A := ⟨B0.exec, B0.bytes, hml, findClass_of_methodNamed B0.named, (fun w hw => atoms_spec (ws := zu_ws zm_Mod_stepped zb_Mod_stepped 7 (some .int)) B0.pre w (List.mem_cons_of_mem _ hw)), hST⟩
  have hl := lv_entry ([.ref (ad 95), .int a1, .int a2, .int a3, .int a4]) (n := 7) (Nat.le_of_ble_eq_true rfl)
  rw [lg_entry_eq]
  generalize (lg_sl ([.ref (ad 95), .int a1, .int a2, .int a3, .int a4]) ++ List.replicate (7 - (lg_sl ([.ref (ad 95), .int a1, .int a2, .int a3, .int a4])).length) Slot.unset).toArray = ls at hl ⊢
  exact zl_Mod_stepped B B0.returns B0.notSynchronized s.heap [] ls hP va_S.rf hl  hf
theorem zw_Mod_stepped {p : Program} {l : Launch} {e : Env} {R : Room} {s : State} {m : MethodId} {args : Array Value} {below : List Frame} {meth : Method} {c : Code} {H : Heap} {locs : List Loc} {cells slots : Nat} {Q : State → Prop} {cc : ByteArray} {pc nL : Nat} {ls : Array Slot} {rest st0 : List Value} {D : va_G} {cA : Nat → ClassId} {ad : Nat → Nat} {A : Nat → Prop} {X : IX} {Y : LX} {own : String} {index : Nat} {a1 : Int32} {a2 : Int32} {a3 : Int32} {a4 : Int32} {v1 : Int32} {X1 : IX} (B : zu_B p s m args c cc nL own D cA ad A) (hP : va_P D zu_cl (zu_pic cA ad X Y) H) (hS : va_S A s.heap H locs) (hq : fn_Mod_stepped a1 a2 a3 a4 X = some (v1, X1)) (m1 : Cond.methodLink own index zm_Mod_stepped ∈ zu_TB) (hR1 : 6 + 1 ≤ R.frames) (hR2 : 8 + (7 + 11) + 142 ≤ R.locals) (hsz : ls.size = nL) (hst : st0 = .int a4 :: .int a3 :: .int a2 :: .int a1 :: .ref (ad 95) :: rest) (hw : (rest.map fun v => v.category).sum ≤ 8) (hdg : decode cc pc = .ok (.invokevirtual index, 3)) (h00 : cells ≤ R.cells ∧ slots ≤ R.slots) (kk : ∀ (H1 : Heap) (locs1 : List Loc), va_P D zu_cl (zu_pic cA ad X1 Y) H1 → va_S A s.heap H1 locs1 → W p l e R s m args below meth c H1 locs1 cells slots Q (F0 m (pc + 3) ls (.int v1 :: rest))) : W p l e R s m args below meth c H locs cells slots Q (F0 m pc ls st0) := by
  subst hst
  exact zr_cVi (As := [.int a1, .int a2, .int a3, .int a4]) (rest := rest) (n := 4) (C := "StonePostModel") (T := zt_Mod) (N := 23) B hP hS (zC_Mod_stepped l  hq) (K := 7) rfl (by decide) (by decide) rfl rfl m1 zq_1122 zqP_39 zq_8 zq_1123 (by decide +kernel) ⟨hR1, hR2⟩ rfl rfl rfl hsz rfl hw hdg h00 kk
abbrev zR_Mod_fewestOf : Room := { frames := 7, cells := 0, slots := 0, locals := 168 }
theorem zd_Mod_fewestOf_0 : decode zb_Mod_fewestOf 0 = .ok (.iconst 1, 1) := by decide +kernel
theorem zd_Mod_fewestOf_1 : decode zb_Mod_fewestOf 1 = .ok (.iload_n 1, 1) := by decide +kernel
theorem zd_Mod_fewestOf_2 : decode zb_Mod_fewestOf 2 = .ok (.ishl, 1) := by decide +kernel
theorem zd_Mod_fewestOf_3 : decode zb_Mod_fewestOf 3 = .ok (.istore_n 3, 1) := by decide +kernel
theorem zd_Mod_fewestOf_4 : decode zb_Mod_fewestOf 4 = .ok (.iconst 0, 1) := by decide +kernel
theorem zd_Mod_fewestOf_5 : decode zb_Mod_fewestOf 5 = .ok (.istore 4, 2) := by decide +kernel
theorem zd_Mod_fewestOf_7 : decode zb_Mod_fewestOf 7 = .ok (.iload 4, 2) := by decide +kernel
theorem zd_Mod_fewestOf_9 : decode zb_Mod_fewestOf 9 = .ok (.bipush 61, 2) := by decide +kernel
theorem zd_Mod_fewestOf_11 : decode zb_Mod_fewestOf 11 = .ok (.if_icmp .ge 36, 3) := by decide +kernel
theorem zd_Mod_fewestOf_14 : decode zb_Mod_fewestOf 14 = .ok (.iload_n 3, 1) := by decide +kernel
theorem zd_Mod_fewestOf_15 : decode zb_Mod_fewestOf 15 = .ok (.aload_n 0, 1) := by decide +kernel
theorem zd_Mod_fewestOf_16 : decode zb_Mod_fewestOf 16 = .ok (.getfield 7, 3) := by decide +kernel
theorem zd_Mod_fewestOf_19 : decode zb_Mod_fewestOf 19 = .ok (.iconst 3, 1) := by decide +kernel
theorem zd_Mod_fewestOf_20 : decode zb_Mod_fewestOf 20 = .ok (.iaload, 1) := by decide +kernel
theorem zd_Mod_fewestOf_21 : decode zb_Mod_fewestOf 21 = .ok (.invokestatic 175, 3) := by decide +kernel
theorem zd_Mod_fewestOf_24 : decode zb_Mod_fewestOf 24 = .ok (.ifCond .ne 23, 3) := by decide +kernel
theorem zd_Mod_fewestOf_27 : decode zb_Mod_fewestOf 27 = .ok (.aload_n 0, 1) := by decide +kernel
theorem zd_Mod_fewestOf_28 : decode zb_Mod_fewestOf 28 = .ok (.iload_n 3, 1) := by decide +kernel
theorem zd_Mod_fewestOf_29 : decode zb_Mod_fewestOf 29 = .ok (.aload_n 0, 1) := by decide +kernel
theorem zd_Mod_fewestOf_30 : decode zb_Mod_fewestOf 30 = .ok (.iload 4, 2) := by decide +kernel
theorem zd_Mod_fewestOf_32 : decode zb_Mod_fewestOf 32 = .ok (.invokevirtual 145, 3) := by decide +kernel
theorem zd_Mod_fewestOf_35 : decode zb_Mod_fewestOf 35 = .ok (.iload_n 2, 1) := by decide +kernel
theorem zd_Mod_fewestOf_36 : decode zb_Mod_fewestOf 36 = .ok (.iconst 0, 1) := by decide +kernel
theorem zd_Mod_fewestOf_37 : decode zb_Mod_fewestOf 37 = .ok (.invokevirtual 181, 3) := by decide +kernel
theorem zd_Mod_fewestOf_40 : decode zb_Mod_fewestOf 40 = .ok (.istore_n 3, 1) := by decide +kernel
theorem zd_Mod_fewestOf_41 : decode zb_Mod_fewestOf 41 = .ok (.iinc 4 1, 3) := by decide +kernel
theorem zd_Mod_fewestOf_44 : decode zb_Mod_fewestOf 44 = .ok (.goto (-37), 3) := by decide +kernel
theorem zd_Mod_fewestOf_47 : decode zb_Mod_fewestOf 47 = .ok (.iload 4, 2) := by decide +kernel
theorem zd_Mod_fewestOf_49 : decode zb_Mod_fewestOf 49 = .ok (.bipush 60, 2) := by decide +kernel
theorem zd_Mod_fewestOf_51 : decode zb_Mod_fewestOf 51 = .ok (.if_icmp .le 12, 3) := by decide +kernel
theorem zd_Mod_fewestOf_54 : decode zb_Mod_fewestOf 54 = .ok (.aload_n 0, 1) := by decide +kernel
theorem zd_Mod_fewestOf_55 : decode zb_Mod_fewestOf 55 = .ok (.ldc 128, 2) := by decide +kernel
theorem zd_Mod_fewestOf_57 : decode zb_Mod_fewestOf 57 = .ok (.invokevirtual 64, 3) := by decide +kernel
theorem zd_Mod_fewestOf_60 : decode zb_Mod_fewestOf 60 = .ok (.goto 5, 3) := by decide +kernel
theorem zd_Mod_fewestOf_63 : decode zb_Mod_fewestOf 63 = .ok (.iload 4, 2) := by decide +kernel
theorem zd_Mod_fewestOf_65 : decode zb_Mod_fewestOf 65 = .ok (.ireturn, 1) := by decide +kernel
set_option maxHeartbeats 4000000 in
theorem zl_Mod_fewestOf_L65 {p : Program} {l : Launch} {e : Env} {s : State} {m : MethodId} {args : Array Value} {below : List Frame} {meth : Method} {c : Code} {D : va_G} {cA : Nat → ClassId} {ad : Nat → Nat} {A : Nat → Prop} (B : zu_B p s m args c zb_Mod_fewestOf 5 "StonePostModel" D cA ad A) (hret : meth.sig.returnType = (some .int)) (hlk : meth.locks = false) {Y : LX} {res : Int32 × IX} (y0 : Int32) (X : IX) (H : Heap) (locs : List Loc) (ls : Array Slot) (hP : va_P D zu_cl (zu_pic cA ad X Y) H) (hS : va_S A s.heap H locs) (hl : lv_has ls 5 []) (hf : fn_Mod_fewestOf_L65 y0 X = some res) : W p l e zR_Mod_fewestOf s m args below meth c H locs 0 0 (MQ below (zu_Qi D cA ad A res.1 res.2 Y) args s 0 0 A) (F0 m 65 ls [.int y0]) := by
  obtain ⟨hx, hb, hml, hown, hts, hST⟩ := id B
  unfold fn_Mod_fewestOf_L65 at hf
  obtain rfl := Option.some.inj hf
  exact zr_iret hx hb hret hlk hP hS zd_Mod_fewestOf_65
set_option maxHeartbeats 4000000 in
theorem zl_Mod_fewestOf_L47 {p : Program} {l : Launch} {e : Env} {s : State} {m : MethodId} {args : Array Value} {below : List Frame} {meth : Method} {c : Code} {D : va_G} {cA : Nat → ClassId} {ad : Nat → Nat} {A : Nat → Prop} (B : zu_B p s m args c zb_Mod_fewestOf 5 "StonePostModel" D cA ad A) (hret : meth.sig.returnType = (some .int)) (hlk : meth.locks = false) {Y : LX} {res : Int32 × IX} (x4 : Int32) (X : IX) (H : Heap) (locs : List Loc) (ls : Array Slot) (hP : va_P D zu_cl (zu_pic cA ad X Y) H) (hS : va_S A s.heap H locs) (hl : lv_has ls 5 [(0, .ref (ad 95)), (4, .int x4)]) (hf : fn_Mod_fewestOf_L47 x4 X = some res) : W p l e zR_Mod_fewestOf s m args below meth c H locs 0 0 (MQ below (zu_Qi D cA ad A res.1 res.2 Y) args s 0 0 A) (F0 m 47 ls []) := by
  obtain ⟨hx, hb, hml, hown, hts, hST⟩ := id B
  unfold fn_Mod_fewestOf_L47 at hf
  refine lv_iload hx hb zd_Mod_fewestOf_47 (lv_at hl 1 rfl) ?_
  refine lv_bipush (v := 60) hx hb zd_Mod_fewestOf_49 (by decide) ?_
  refine lv_icmp_le (tgt := 63) hx hb zd_Mod_fewestOf_51 (by decide) (fun c12 => ?_) (fun c12 => ?_)
  · have hf := zu_t c12 hf
    refine lv_iload hx hb zd_Mod_fewestOf_63 (lv_at hl 1 rfl) ?_
    exact zl_Mod_fewestOf_L65 B hret hlk x4 X _ _ _ hP hS (lv_sub hl [] rfl) hf
  · have hf := zu_f c12 hf
    refine lv_aload_n hx hb zd_Mod_fewestOf_54 rfl (lv_at hl 0 rfl) ?_
    refine lv_ldc (v := -1000004) hx hb hown (hts _ zq_1041) zd_Mod_fewestOf_55 ?_
    obtain ⟨v13, X14, hq15, hf⟩ := zu_b2_e hf
    refine zw_Mod_finds (rest := []) B hP hS hq15 zq_944 (Nat.le_of_ble_eq_true rfl) (Nat.le_of_ble_eq_true rfl) hl.1 rfl (Nat.le_of_ble_eq_true rfl) zd_Mod_fewestOf_57 (by decide) (fun H locs hP hS => ?_)
    clear hq15
    refine lv_goto (tgt := 65) hx hb zd_Mod_fewestOf_60 (by decide) ?_
    exact zl_Mod_fewestOf_L65 B hret hlk v13 X14 _ _ _ hP hS (lv_sub hl [] rfl) hf
set_option maxHeartbeats 4000000 in
theorem zl_Mod_fewestOf_B7 {p : Program} {l : Launch} {e : Env} {s : State} {m : MethodId} {args : Array Value} {below : List Frame} {meth : Method} {c : Code} {D : va_G} {cA : Nat → ClassId} {ad : Nat → Nat} {A : Nat → Prop} (B : zu_B p s m args c zb_Mod_fewestOf 5 "StonePostModel" D cA ad A) (hret : meth.sig.returnType = (some .int)) (hlk : meth.locks = false) {Y : LX} {res : Int32 × IX} {k7 : Int32 → Int32 → Int32 → IX → Option (Int32 × IX)} (hk7 : ∀ (x2 : Int32) (x3 : Int32) (x4 : Int32) (X : IX) (H : Heap) (locs : List Loc) (ls : Array Slot), va_P D zu_cl (zu_pic cA ad X Y) H → va_S A s.heap H locs → lv_has ls 5 [(0, .ref (ad 95)), (2, .int x2), (3, .int x3), (4, .int x4)] → k7 x2 x3 x4 X = some res → W p l e zR_Mod_fewestOf s m args below meth c H locs 0 0 (MQ below (zu_Qi D cA ad A res.1 res.2 Y) args s 0 0 A) (F0 m 7 ls [])) (x2 : Int32) (x3 : Int32) (x4 : Int32) (X : IX) (H : Heap) (locs : List Loc) (ls : Array Slot) (hP : va_P D zu_cl (zu_pic cA ad X Y) H) (hS : va_S A s.heap H locs) (hl : lv_has ls 5 [(0, .ref (ad 95)), (2, .int x2), (3, .int x3), (4, .int x4)]) (hf : fn_Mod_fewestOf_B7 k7 x2 x3 x4 X = some res) : W p l e zR_Mod_fewestOf s m args below meth c H locs 0 0 (MQ below (zu_Qi D cA ad A res.1 res.2 Y) args s 0 0 A) (F0 m 7 ls []) := by
  obtain ⟨hx, hb, hml, hown, hts, hST⟩ := id B
  unfold fn_Mod_fewestOf_B7 at hf
  refine lv_iload hx hb zd_Mod_fewestOf_7 (lv_at hl 3 rfl) ?_
  refine lv_bipush (v := 61) hx hb zd_Mod_fewestOf_9 (by decide) ?_
  refine lv_icmp_ge (tgt := 47) hx hb zd_Mod_fewestOf_11 (by decide) (fun c2 => ?_) (fun c2 => ?_)
  · have hf := zu_t c2 hf
    exact zl_Mod_fewestOf_L47 B hret hlk x4 X _ _ _ hP hS (lv_sub hl [0, 3] rfl) hf
  · have hf := zu_f c2 hf
    refine lv_iload_n hx hb zd_Mod_fewestOf_14 rfl (lv_at hl 2 rfl) ?_
    refine lv_aload_n hx hb zd_Mod_fewestOf_15 rfl (lv_at hl 0 rfl) ?_
    refine zg_Mod_s B hP rfl zq_861 zd_Mod_fewestOf_16 ?_
    refine lv_iconst (v := 3) hx hb zd_Mod_fewestOf_19 (by decide) ?_
    refine zr_iald (j := 3) (by decide) B hP rfl (by decide) rfl (by decide) zd_Mod_fewestOf_20 ?_
    obtain ⟨v3, hq4, hf⟩ := zu_b1_e hf
    refine zw_Mod_has (rest := []) B hP hS hq4 zq_1117 (Nat.le_of_ble_eq_true rfl) (Nat.le_of_ble_eq_true rfl) hl.1 rfl (Nat.le_of_ble_eq_true rfl) zd_Mod_fewestOf_21 (by decide) (fun H locs hP hS => ?_)
    clear hq4
    refine lv_if_ne (tgt := 47) hx hb zd_Mod_fewestOf_24 (by decide) (fun c5 => ?_) (fun c5 => ?_)
    · have hf := zu_f c5 hf
      exact zl_Mod_fewestOf_L47 B hret hlk x4 X _ _ _ hP hS (lv_sub hl [0, 3] rfl) hf
    · have hf := zu_t c5 hf
      refine lv_aload_n hx hb zd_Mod_fewestOf_27 rfl (lv_at hl 0 rfl) ?_
      refine lv_iload_n hx hb zd_Mod_fewestOf_28 rfl (lv_at hl 2 rfl) ?_
      refine lv_aload_n hx hb zd_Mod_fewestOf_29 rfl (lv_at hl 0 rfl) ?_
      refine lv_iload hx hb zd_Mod_fewestOf_30 (lv_at hl 3 rfl) ?_
      obtain ⟨v6, ehq7, hf⟩ := zu_nx_e hf
      have hq7 := ehq7.symm
      refine zw_Mod_clockIn (rest := [.int x3, .ref (ad 95)]) B hP hS hq7 zq_1071 (Nat.le_of_ble_eq_true rfl) (Nat.le_of_ble_eq_true rfl) hl.1 rfl (Nat.le_of_ble_eq_true rfl) zd_Mod_fewestOf_32 (by decide) (fun H locs hP hS => ?_)
      clear hq7 ehq7
      refine lv_iload_n hx hb zd_Mod_fewestOf_35 rfl (lv_at hl 1 rfl) ?_
      refine lv_iconst (v := 0) hx hb zd_Mod_fewestOf_36 (by decide) ?_
      obtain ⟨v8, X9, hq10, hf⟩ := zu_b2_e hf
      refine zw_Mod_stepped (rest := []) B hP hS hq10 zq_1120 (Nat.le_of_ble_eq_true rfl) (Nat.le_of_ble_eq_true rfl) hl.1 rfl (Nat.le_of_ble_eq_true rfl) zd_Mod_fewestOf_37 (by decide) (fun H locs hP hS => ?_)
      clear hq10
      refine lv_istore_n (lv' := [(3, .int v8), (0, .ref (ad 95)), (2, .int x2), (4, .int x4)]) hx hb zd_Mod_fewestOf_40 rfl hl (by decide) rfl (fun ls hl => ?_)
      obtain ⟨v11, ev11, hf⟩ := zu_nx_e hf
      refine lv_iinc (v := v11) (lv' := [(4, .int v11), (3, .int v8), (0, .ref (ad 95)), (2, .int x2)]) hx hb zd_Mod_fewestOf_41 hl (k := 3) rfl (by rw [ev11]; rfl) (by decide) rfl (fun ls hl => ?_)
      clear ev11
      refine lv_goto (tgt := 7) hx hb zd_Mod_fewestOf_44 (by decide) ?_
      exact hk7 x2 v8 v11 X9 _ _ _ hP hS (lv_sub hl [2, 3, 1, 0] rfl) hf
theorem zl_Mod_fewestOf_L7 {p : Program} {l : Launch} {e : Env} {s : State} {m : MethodId} {args : Array Value} {below : List Frame} {meth : Method} {c : Code} {D : va_G} {cA : Nat → ClassId} {ad : Nat → Nat} {A : Nat → Prop} (B : zu_B p s m args c zb_Mod_fewestOf 5 "StonePostModel" D cA ad A) (hret : meth.sig.returnType = (some .int)) (hlk : meth.locks = false) {Y : LX} {res : Int32 × IX} : ∀ (n : Nat) (x2 : Int32) (x3 : Int32) (x4 : Int32) (X : IX) (H : Heap) (locs : List Loc) (ls : Array Slot), va_P D zu_cl (zu_pic cA ad X Y) H → va_S A s.heap H locs → lv_has ls 5 [(0, .ref (ad 95)), (2, .int x2), (3, .int x3), (4, .int x4)] → fn_Mod_fewestOf_L7 n x2 x3 x4 X = some res → W p l e zR_Mod_fewestOf s m args below meth c H locs 0 0 (MQ below (zu_Qi D cA ad A res.1 res.2 Y) args s 0 0 A) (F0 m 7 ls []) := by
  intro n
  induction n with
  | zero =>
    intro x2 x3 x4 X H locs ls hP hS hl hf
    exact (Option.some_ne_none _ hf.symm).elim
  | succ n ih =>
    intro x2 x3 x4 X H locs ls hP hS hl hf
    exact zl_Mod_fewestOf_B7 B hret hlk ih x2 x3 x4 X H locs ls hP hS hl  hf
set_option maxHeartbeats 4000000 in
theorem zl_Mod_fewestOf {p : Program} {l : Launch} {e : Env} {s : State} {m : MethodId} {args : Array Value} {below : List Frame} {meth : Method} {c : Code} {D : va_G} {cA : Nat → ClassId} {ad : Nat → Nat} {A : Nat → Prop} (B : zu_B p s m args c zb_Mod_fewestOf 5 "StonePostModel" D cA ad A) (hret : meth.sig.returnType = (some .int)) (hlk : meth.locks = false) {Y : LX} {res : Int32 × IX} {a1 : Int32} {a2 : Int32} {X : IX} (H : Heap) (locs : List Loc) (ls : Array Slot) (hP : va_P D zu_cl (zu_pic cA ad X Y) H) (hS : va_S A s.heap H locs) (hl : lv_has ls 5 [(0, .ref (ad 95)), (1, .int a1), (2, .int a2)]) (hf : fn_Mod_fewestOf a1 a2 X = some res) : W p l e zR_Mod_fewestOf s m args below meth c H locs 0 0 (MQ below (zu_Qi D cA ad A res.1 res.2 Y) args s 0 0 A) (F0 m 0 ls []) := by
  obtain ⟨hx, hb, hml, hown, hts, hST⟩ := id B
  unfold fn_Mod_fewestOf at hf
  refine lv_iconst (v := 1) hx hb zd_Mod_fewestOf_0 (by decide) ?_
  refine lv_iload_n hx hb zd_Mod_fewestOf_1 rfl (lv_at hl 1 rfl) ?_
  refine lv_ishl hx hb zd_Mod_fewestOf_2 ?_
  refine zr_nxi hf (fun v1 hf => ?_)
  refine lv_istore_n (lv' := [(3, .int v1), (0, .ref (ad 95)), (1, .int a1), (2, .int a2)]) hx hb zd_Mod_fewestOf_3 rfl hl (by decide) rfl (fun ls hl => ?_)
  refine lv_iconst (v := 0) hx hb zd_Mod_fewestOf_4 (by decide) ?_
  refine lv_istore (lv' := [(4, .int (0 : Int32)), (3, .int v1), (0, .ref (ad 95)), (1, .int a1), (2, .int a2)]) hx hb zd_Mod_fewestOf_5 hl (by decide) rfl (fun ls hl => ?_)
  exact zl_Mod_fewestOf_L7 B hret hlk 400 a2 v1 (0 : Int32) X _ _ _ hP hS (lv_sub hl [2, 4, 1, 0] rfl) hf
theorem zC_Mod_fewestOf (l : Launch) {D : va_G} {cA : Nat → ClassId} {ad : Nat → Nat} {A : Nat → Prop} {a1 : Int32} {a2 : Int32} {X : IX} {Y : LX} {res : Int32 × IX} (hf : fn_Mod_fewestOf a1 a2 X = some res) : Met l zm_Mod_fewestOf (zu_ws zm_Mod_fewestOf zb_Mod_fewestOf 5 (some .int)) zR_Mod_fewestOf (va_Pc [.ref (ad 95), .int a1, .int a2] (zu_Pre D cA ad A X Y)) (zu_Qi D cA ad A res.1 res.2 Y) 0 0 A := by
  refine Met.ofW (cc := zb_Mod_fewestOf) (maxL := 5) (ret := (some .int)) (by decide +kernel) rfl ?_
  intro p e s m args below meth c s₁ B0 hml hv
  obtain ⟨rfl, hP, hST⟩ := hv
  have B : zu_B p s m _ c zb_Mod_fewestOf 5 "StonePostModel" D cA ad A := ⟨B0.exec, B0.bytes, hml, findClass_of_methodNamed B0.named, (fun w hw => atoms_spec (ws := zu_ws zm_Mod_fewestOf zb_Mod_fewestOf 5 (some .int)) B0.pre w (List.mem_cons_of_mem _ hw)), hST⟩
  have hl := lv_entry ([.ref (ad 95), .int a1, .int a2]) (n := 5) (Nat.le_of_ble_eq_true rfl)
  rw [lg_entry_eq]
  generalize (lg_sl ([.ref (ad 95), .int a1, .int a2]) ++ List.replicate (5 - (lg_sl ([.ref (ad 95), .int a1, .int a2])).length) Slot.unset).toArray = ls at hl ⊢
  exact zl_Mod_fewestOf B B0.returns B0.notSynchronized s.heap [] ls hP va_S.rf hl  hf
theorem zw_Mod_fewestOf {p : Program} {l : Launch} {e : Env} {R : Room} {s : State} {m : MethodId} {args : Array Value} {below : List Frame} {meth : Method} {c : Code} {H : Heap} {locs : List Loc} {cells slots : Nat} {Q : State → Prop} {cc : ByteArray} {pc nL : Nat} {ls : Array Slot} {rest st0 : List Value} {D : va_G} {cA : Nat → ClassId} {ad : Nat → Nat} {A : Nat → Prop} {X : IX} {Y : LX} {own : String} {index : Nat} {a1 : Int32} {a2 : Int32} {v1 : Int32} {X1 : IX} (B : zu_B p s m args c cc nL own D cA ad A) (hP : va_P D zu_cl (zu_pic cA ad X Y) H) (hS : va_S A s.heap H locs) (hq : fn_Mod_fewestOf a1 a2 X = some (v1, X1)) (m1 : Cond.methodLink own index zm_Mod_fewestOf ∈ zu_TB) (hR1 : 7 + 1 ≤ R.frames) (hR2 : 8 + (5 + 11) + 168 ≤ R.locals) (hsz : ls.size = nL) (hst : st0 = .int a2 :: .int a1 :: .ref (ad 95) :: rest) (hw : (rest.map fun v => v.category).sum ≤ 8) (hdg : decode cc pc = .ok (.invokevirtual index, 3)) (h00 : cells ≤ R.cells ∧ slots ≤ R.slots) (kk : ∀ (H1 : Heap) (locs1 : List Loc), va_P D zu_cl (zu_pic cA ad X1 Y) H1 → va_S A s.heap H1 locs1 → W p l e R s m args below meth c H1 locs1 cells slots Q (F0 m (pc + 3) ls (.int v1 :: rest))) : W p l e R s m args below meth c H locs cells slots Q (F0 m pc ls st0) := by
  subst hst
  exact zr_cVi (As := [.int a1, .int a2]) (rest := rest) (n := 2) (C := "StonePostModel") (T := zt_Mod) (N := 23) B hP hS (zC_Mod_fewestOf l  hq) (K := 7) rfl (by decide) (by decide) rfl rfl m1 zq_1115 zqP_38 zq_8 zq_1116 (by decide +kernel) ⟨hR1, hR2⟩ rfl rfl rfl hsz rfl hw hdg h00 kk
abbrev zR_Mod_fewest : Room := { frames := 8, cells := 0, slots := 0, locals := 192 }
theorem zd_Mod_fewest_0 : decode zb_Mod_fewest 0 = .ok (.iload_n 1, 1) := by decide +kernel
theorem zd_Mod_fewest_1 : decode zb_Mod_fewest 1 = .ok (.invokestatic 58, 3) := by decide +kernel
theorem zd_Mod_fewest_4 : decode zb_Mod_fewest 4 = .ok (.ifCond .eq 12, 3) := by decide +kernel
theorem zd_Mod_fewest_7 : decode zb_Mod_fewest 7 = .ok (.aload_n 0, 1) := by decide +kernel
theorem zd_Mod_fewest_8 : decode zb_Mod_fewest 8 = .ok (.iload_n 1, 1) := by decide +kernel
theorem zd_Mod_fewest_9 : decode zb_Mod_fewest 9 = .ok (.iconst 0, 1) := by decide +kernel
theorem zd_Mod_fewest_10 : decode zb_Mod_fewest 10 = .ok (.invokevirtual 185, 3) := by decide +kernel
theorem zd_Mod_fewest_13 : decode zb_Mod_fewest 13 = .ok (.goto 9, 3) := by decide +kernel
theorem zd_Mod_fewest_16 : decode zb_Mod_fewest 16 = .ok (.aload_n 0, 1) := by decide +kernel
theorem zd_Mod_fewest_17 : decode zb_Mod_fewest 17 = .ok (.ldc 50, 2) := by decide +kernel
theorem zd_Mod_fewest_19 : decode zb_Mod_fewest 19 = .ok (.invokevirtual 64, 3) := by decide +kernel
theorem zd_Mod_fewest_22 : decode zb_Mod_fewest 22 = .ok (.ireturn, 1) := by decide +kernel
set_option maxHeartbeats 4000000 in
theorem zl_Mod_fewest_L22 {p : Program} {l : Launch} {e : Env} {s : State} {m : MethodId} {args : Array Value} {below : List Frame} {meth : Method} {c : Code} {D : va_G} {cA : Nat → ClassId} {ad : Nat → Nat} {A : Nat → Prop} (B : zu_B p s m args c zb_Mod_fewest 2 "StonePostModel" D cA ad A) (hret : meth.sig.returnType = (some .int)) (hlk : meth.locks = false) {Y : LX} {res : Int32 × IX} (y0 : Int32) (X : IX) (H : Heap) (locs : List Loc) (ls : Array Slot) (hP : va_P D zu_cl (zu_pic cA ad X Y) H) (hS : va_S A s.heap H locs) (hl : lv_has ls 2 []) (hf : fn_Mod_fewest_L22 y0 X = some res) : W p l e zR_Mod_fewest s m args below meth c H locs 0 0 (MQ below (zu_Qi D cA ad A res.1 res.2 Y) args s 0 0 A) (F0 m 22 ls [.int y0]) := by
  obtain ⟨hx, hb, hml, hown, hts, hST⟩ := id B
  unfold fn_Mod_fewest_L22 at hf
  obtain rfl := Option.some.inj hf
  exact zr_iret hx hb hret hlk hP hS zd_Mod_fewest_22
set_option maxHeartbeats 4000000 in
theorem zl_Mod_fewest {p : Program} {l : Launch} {e : Env} {s : State} {m : MethodId} {args : Array Value} {below : List Frame} {meth : Method} {c : Code} {D : va_G} {cA : Nat → ClassId} {ad : Nat → Nat} {A : Nat → Prop} (B : zu_B p s m args c zb_Mod_fewest 2 "StonePostModel" D cA ad A) (hret : meth.sig.returnType = (some .int)) (hlk : meth.locks = false) {Y : LX} {res : Int32 × IX} {a1 : Int32} {X : IX} (H : Heap) (locs : List Loc) (ls : Array Slot) (hP : va_P D zu_cl (zu_pic cA ad X Y) H) (hS : va_S A s.heap H locs) (hl : lv_has ls 2 [(0, .ref (ad 95)), (1, .int a1)]) (hf : fn_Mod_fewest a1 X = some res) : W p l e zR_Mod_fewest s m args below meth c H locs 0 0 (MQ below (zu_Qi D cA ad A res.1 res.2 Y) args s 0 0 A) (F0 m 0 ls []) := by
  obtain ⟨hx, hb, hml, hown, hts, hST⟩ := id B
  unfold fn_Mod_fewest at hf
  refine lv_iload_n hx hb zd_Mod_fewest_0 rfl (lv_at hl 1 rfl) ?_
  obtain ⟨v1, hq2, hf⟩ := zu_b1_e hf
  refine zw_Mod_isCell (rest := []) B hP hS hq2 zq_935 (Nat.le_of_ble_eq_true rfl) (Nat.le_of_ble_eq_true rfl) hl.1 rfl (Nat.le_of_ble_eq_true rfl) zd_Mod_fewest_1 (by decide) (fun H locs hP hS => ?_)
  clear hq2
  refine lv_if_eq (tgt := 16) hx hb zd_Mod_fewest_4 (by decide) (fun c3 => ?_) (fun c3 => ?_)
  · have hf := zu_t c3 hf
    refine lv_aload_n hx hb zd_Mod_fewest_16 rfl (lv_at hl 0 rfl) ?_
    refine lv_ldc (v := -1000001) hx hb hown (hts _ zq_943) zd_Mod_fewest_17 ?_
    obtain ⟨v4, X5, hq6, hf⟩ := zu_b2_e hf
    refine zw_Mod_finds (rest := []) B hP hS hq6 zq_944 (Nat.le_of_ble_eq_true rfl) (Nat.le_of_ble_eq_true rfl) hl.1 rfl (Nat.le_of_ble_eq_true rfl) zd_Mod_fewest_19 (by decide) (fun H locs hP hS => ?_)
    clear hq6
    exact zl_Mod_fewest_L22 B hret hlk v4 X5 _ _ _ hP hS (lv_sub hl [] rfl) hf
  · have hf := zu_f c3 hf
    refine lv_aload_n hx hb zd_Mod_fewest_7 rfl (lv_at hl 0 rfl) ?_
    refine lv_iload_n hx hb zd_Mod_fewest_8 rfl (lv_at hl 1 rfl) ?_
    refine lv_iconst (v := 0) hx hb zd_Mod_fewest_9 (by decide) ?_
    obtain ⟨v7, X8, hq9, hf⟩ := zu_b2_e hf
    refine zw_Mod_fewestOf (rest := []) B hP hS hq9 zq_1113 (Nat.le_of_ble_eq_true rfl) (Nat.le_of_ble_eq_true rfl) hl.1 rfl (Nat.le_of_ble_eq_true rfl) zd_Mod_fewest_10 (by decide) (fun H locs hP hS => ?_)
    clear hq9
    refine lv_goto (tgt := 22) hx hb zd_Mod_fewest_13 (by decide) ?_
    exact zl_Mod_fewest_L22 B hret hlk v7 X8 _ _ _ hP hS (lv_sub hl [] rfl) hf
theorem zC_Mod_fewest (l : Launch) {D : va_G} {cA : Nat → ClassId} {ad : Nat → Nat} {A : Nat → Prop} {a1 : Int32} {X : IX} {Y : LX} {res : Int32 × IX} (hf : fn_Mod_fewest a1 X = some res) : Met l zm_Mod_fewest (zu_ws zm_Mod_fewest zb_Mod_fewest 2 (some .int)) zR_Mod_fewest (va_Pc [.ref (ad 95), .int a1] (zu_Pre D cA ad A X Y)) (zu_Qi D cA ad A res.1 res.2 Y) 0 0 A := by
  refine Met.ofW (cc := zb_Mod_fewest) (maxL := 2) (ret := (some .int)) (by decide +kernel) rfl ?_
  intro p e s m args below meth c s₁ B0 hml hv
  obtain ⟨rfl, hP, hST⟩ := hv
  have B : zu_B p s m _ c zb_Mod_fewest 2 "StonePostModel" D cA ad A := ⟨B0.exec, B0.bytes, hml, findClass_of_methodNamed B0.named, (fun w hw => atoms_spec (ws := zu_ws zm_Mod_fewest zb_Mod_fewest 2 (some .int)) B0.pre w (List.mem_cons_of_mem _ hw)), hST⟩
  have hl := lv_entry ([.ref (ad 95), .int a1]) (n := 2) (Nat.le_of_ble_eq_true rfl)
  rw [lg_entry_eq]
  generalize (lg_sl ([.ref (ad 95), .int a1]) ++ List.replicate (2 - (lg_sl ([.ref (ad 95), .int a1])).length) Slot.unset).toArray = ls at hl ⊢
  exact zl_Mod_fewest B B0.returns B0.notSynchronized s.heap [] ls hP va_S.rf hl  hf
theorem zw_Mod_fewest {p : Program} {l : Launch} {e : Env} {R : Room} {s : State} {m : MethodId} {args : Array Value} {below : List Frame} {meth : Method} {c : Code} {H : Heap} {locs : List Loc} {cells slots : Nat} {Q : State → Prop} {cc : ByteArray} {pc nL : Nat} {ls : Array Slot} {rest st0 : List Value} {D : va_G} {cA : Nat → ClassId} {ad : Nat → Nat} {A : Nat → Prop} {X : IX} {Y : LX} {own : String} {index : Nat} {a1 : Int32} {v1 : Int32} {X1 : IX} (B : zu_B p s m args c cc nL own D cA ad A) (hP : va_P D zu_cl (zu_pic cA ad X Y) H) (hS : va_S A s.heap H locs) (hq : fn_Mod_fewest a1 X = some (v1, X1)) (m1 : Cond.methodLink own index zm_Mod_fewest ∈ zu_TB) (hR1 : 8 + 1 ≤ R.frames) (hR2 : 8 + (2 + 11) + 192 ≤ R.locals) (hsz : ls.size = nL) (hst : st0 = .int a1 :: .ref (ad 95) :: rest) (hw : (rest.map fun v => v.category).sum ≤ 8) (hdg : decode cc pc = .ok (.invokevirtual index, 3)) (h00 : cells ≤ R.cells ∧ slots ≤ R.slots) (kk : ∀ (H1 : Heap) (locs1 : List Loc), va_P D zu_cl (zu_pic cA ad X1 Y) H1 → va_S A s.heap H1 locs1 → W p l e R s m args below meth c H1 locs1 cells slots Q (F0 m (pc + 3) ls (.int v1 :: rest))) : W p l e R s m args below meth c H locs cells slots Q (F0 m pc ls st0) := by
  subst hst
  exact zr_cVi (As := [.int a1]) (rest := rest) (n := 1) (C := "StonePostModel") (T := zt_Mod) (N := 23) B hP hS (zC_Mod_fewest l  hq) (K := 7) rfl (by decide) (by decide) rfl rfl m1 zq_1110 zq_1111 zq_8 zq_1112 (by decide +kernel) ⟨hR1, hR2⟩ rfl rfl rfl hsz rfl hw hdg h00 kk
abbrev zR_Mod_free : Room := { frames := 8, cells := 0, slots := 0, locals := 192 }
theorem zd_Mod_free_0 : decode zb_Mod_free 0 = .ok (.iload_n 1, 1) := by decide +kernel
theorem zd_Mod_free_1 : decode zb_Mod_free 1 = .ok (.invokestatic 58, 3) := by decide +kernel
theorem zd_Mod_free_4 : decode zb_Mod_free 4 = .ok (.ifCond .eq 12, 3) := by decide +kernel
theorem zd_Mod_free_7 : decode zb_Mod_free 7 = .ok (.aload_n 0, 1) := by decide +kernel
theorem zd_Mod_free_8 : decode zb_Mod_free 8 = .ok (.iload_n 1, 1) := by decide +kernel
theorem zd_Mod_free_9 : decode zb_Mod_free 9 = .ok (.iconst 1, 1) := by decide +kernel
theorem zd_Mod_free_10 : decode zb_Mod_free 10 = .ok (.invokevirtual 185, 3) := by decide +kernel
theorem zd_Mod_free_13 : decode zb_Mod_free 13 = .ok (.goto 9, 3) := by decide +kernel
theorem zd_Mod_free_16 : decode zb_Mod_free 16 = .ok (.aload_n 0, 1) := by decide +kernel
theorem zd_Mod_free_17 : decode zb_Mod_free 17 = .ok (.ldc 50, 2) := by decide +kernel
theorem zd_Mod_free_19 : decode zb_Mod_free 19 = .ok (.invokevirtual 64, 3) := by decide +kernel
theorem zd_Mod_free_22 : decode zb_Mod_free 22 = .ok (.ireturn, 1) := by decide +kernel
set_option maxHeartbeats 4000000 in
theorem zl_Mod_free_L22 {p : Program} {l : Launch} {e : Env} {s : State} {m : MethodId} {args : Array Value} {below : List Frame} {meth : Method} {c : Code} {D : va_G} {cA : Nat → ClassId} {ad : Nat → Nat} {A : Nat → Prop} (B : zu_B p s m args c zb_Mod_free 2 "StonePostModel" D cA ad A) (hret : meth.sig.returnType = (some .int)) (hlk : meth.locks = false) {Y : LX} {res : Int32 × IX} (y0 : Int32) (X : IX) (H : Heap) (locs : List Loc) (ls : Array Slot) (hP : va_P D zu_cl (zu_pic cA ad X Y) H) (hS : va_S A s.heap H locs) (hl : lv_has ls 2 []) (hf : fn_Mod_free_L22 y0 X = some res) : W p l e zR_Mod_free s m args below meth c H locs 0 0 (MQ below (zu_Qi D cA ad A res.1 res.2 Y) args s 0 0 A) (F0 m 22 ls [.int y0]) := by
  obtain ⟨hx, hb, hml, hown, hts, hST⟩ := id B
  unfold fn_Mod_free_L22 at hf
  obtain rfl := Option.some.inj hf
  exact zr_iret hx hb hret hlk hP hS zd_Mod_free_22
set_option maxHeartbeats 4000000 in
theorem zl_Mod_free {p : Program} {l : Launch} {e : Env} {s : State} {m : MethodId} {args : Array Value} {below : List Frame} {meth : Method} {c : Code} {D : va_G} {cA : Nat → ClassId} {ad : Nat → Nat} {A : Nat → Prop} (B : zu_B p s m args c zb_Mod_free 2 "StonePostModel" D cA ad A) (hret : meth.sig.returnType = (some .int)) (hlk : meth.locks = false) {Y : LX} {res : Int32 × IX} {a1 : Int32} {X : IX} (H : Heap) (locs : List Loc) (ls : Array Slot) (hP : va_P D zu_cl (zu_pic cA ad X Y) H) (hS : va_S A s.heap H locs) (hl : lv_has ls 2 [(0, .ref (ad 95)), (1, .int a1)]) (hf : fn_Mod_free a1 X = some res) : W p l e zR_Mod_free s m args below meth c H locs 0 0 (MQ below (zu_Qi D cA ad A res.1 res.2 Y) args s 0 0 A) (F0 m 0 ls []) := by
  obtain ⟨hx, hb, hml, hown, hts, hST⟩ := id B
  unfold fn_Mod_free at hf
  refine lv_iload_n hx hb zd_Mod_free_0 rfl (lv_at hl 1 rfl) ?_
  obtain ⟨v1, hq2, hf⟩ := zu_b1_e hf
  refine zw_Mod_isCell (rest := []) B hP hS hq2 zq_935 (Nat.le_of_ble_eq_true rfl) (Nat.le_of_ble_eq_true rfl) hl.1 rfl (Nat.le_of_ble_eq_true rfl) zd_Mod_free_1 (by decide) (fun H locs hP hS => ?_)
  clear hq2
  refine lv_if_eq (tgt := 16) hx hb zd_Mod_free_4 (by decide) (fun c3 => ?_) (fun c3 => ?_)
  · have hf := zu_t c3 hf
    refine lv_aload_n hx hb zd_Mod_free_16 rfl (lv_at hl 0 rfl) ?_
    refine lv_ldc (v := -1000001) hx hb hown (hts _ zq_943) zd_Mod_free_17 ?_
    obtain ⟨v4, X5, hq6, hf⟩ := zu_b2_e hf
    refine zw_Mod_finds (rest := []) B hP hS hq6 zq_944 (Nat.le_of_ble_eq_true rfl) (Nat.le_of_ble_eq_true rfl) hl.1 rfl (Nat.le_of_ble_eq_true rfl) zd_Mod_free_19 (by decide) (fun H locs hP hS => ?_)
    clear hq6
    exact zl_Mod_free_L22 B hret hlk v4 X5 _ _ _ hP hS (lv_sub hl [] rfl) hf
  · have hf := zu_f c3 hf
    refine lv_aload_n hx hb zd_Mod_free_7 rfl (lv_at hl 0 rfl) ?_
    refine lv_iload_n hx hb zd_Mod_free_8 rfl (lv_at hl 1 rfl) ?_
    refine lv_iconst (v := 1) hx hb zd_Mod_free_9 (by decide) ?_
    obtain ⟨v7, X8, hq9, hf⟩ := zu_b2_e hf
    refine zw_Mod_fewestOf (rest := []) B hP hS hq9 zq_1113 (Nat.le_of_ble_eq_true rfl) (Nat.le_of_ble_eq_true rfl) hl.1 rfl (Nat.le_of_ble_eq_true rfl) zd_Mod_free_10 (by decide) (fun H locs hP hS => ?_)
    clear hq9
    refine lv_goto (tgt := 22) hx hb zd_Mod_free_13 (by decide) ?_
    exact zl_Mod_free_L22 B hret hlk v7 X8 _ _ _ hP hS (lv_sub hl [] rfl) hf
theorem zC_Mod_free (l : Launch) {D : va_G} {cA : Nat → ClassId} {ad : Nat → Nat} {A : Nat → Prop} {a1 : Int32} {X : IX} {Y : LX} {res : Int32 × IX} (hf : fn_Mod_free a1 X = some res) : Met l zm_Mod_free (zu_ws zm_Mod_free zb_Mod_free 2 (some .int)) zR_Mod_free (va_Pc [.ref (ad 95), .int a1] (zu_Pre D cA ad A X Y)) (zu_Qi D cA ad A res.1 res.2 Y) 0 0 A := by
  refine Met.ofW (cc := zb_Mod_free) (maxL := 2) (ret := (some .int)) (by decide +kernel) rfl ?_
  intro p e s m args below meth c s₁ B0 hml hv
  obtain ⟨rfl, hP, hST⟩ := hv
  have B : zu_B p s m _ c zb_Mod_free 2 "StonePostModel" D cA ad A := ⟨B0.exec, B0.bytes, hml, findClass_of_methodNamed B0.named, (fun w hw => atoms_spec (ws := zu_ws zm_Mod_free zb_Mod_free 2 (some .int)) B0.pre w (List.mem_cons_of_mem _ hw)), hST⟩
  have hl := lv_entry ([.ref (ad 95), .int a1]) (n := 2) (Nat.le_of_ble_eq_true rfl)
  rw [lg_entry_eq]
  generalize (lg_sl ([.ref (ad 95), .int a1]) ++ List.replicate (2 - (lg_sl ([.ref (ad 95), .int a1])).length) Slot.unset).toArray = ls at hl ⊢
  exact zl_Mod_free B B0.returns B0.notSynchronized s.heap [] ls hP va_S.rf hl  hf
theorem zw_Mod_free {p : Program} {l : Launch} {e : Env} {R : Room} {s : State} {m : MethodId} {args : Array Value} {below : List Frame} {meth : Method} {c : Code} {H : Heap} {locs : List Loc} {cells slots : Nat} {Q : State → Prop} {cc : ByteArray} {pc nL : Nat} {ls : Array Slot} {rest st0 : List Value} {D : va_G} {cA : Nat → ClassId} {ad : Nat → Nat} {A : Nat → Prop} {X : IX} {Y : LX} {own : String} {index : Nat} {a1 : Int32} {v1 : Int32} {X1 : IX} (B : zu_B p s m args c cc nL own D cA ad A) (hP : va_P D zu_cl (zu_pic cA ad X Y) H) (hS : va_S A s.heap H locs) (hq : fn_Mod_free a1 X = some (v1, X1)) (m1 : Cond.methodLink own index zm_Mod_free ∈ zu_TB) (hR1 : 8 + 1 ≤ R.frames) (hR2 : 8 + (2 + 11) + 192 ≤ R.locals) (hsz : ls.size = nL) (hst : st0 = .int a1 :: .ref (ad 95) :: rest) (hw : (rest.map fun v => v.category).sum ≤ 8) (hdg : decode cc pc = .ok (.invokevirtual index, 3)) (h00 : cells ≤ R.cells ∧ slots ≤ R.slots) (kk : ∀ (H1 : Heap) (locs1 : List Loc), va_P D zu_cl (zu_pic cA ad X1 Y) H1 → va_S A s.heap H1 locs1 → W p l e R s m args below meth c H1 locs1 cells slots Q (F0 m (pc + 3) ls (.int v1 :: rest))) : W p l e R s m args below meth c H locs cells slots Q (F0 m pc ls st0) := by
  subst hst
  exact zr_cVi (As := [.int a1]) (rest := rest) (n := 1) (C := "StonePostModel") (T := zt_Mod) (N := 23) B hP hS (zC_Mod_free l  hq) (K := 7) rfl (by decide) (by decide) rfl rfl m1 zq_1129 zq_1130 zq_8 zq_1131 (by decide +kernel) ⟨hR1, hR2⟩ rfl rfl rfl hsz rfl hw hdg h00 kk
abbrev zR_Mod_mayBe : Room := { frames := 7, cells := 0, slots := 0, locals := 168 }
theorem zd_Mod_mayBe_0 : decode zb_Mod_mayBe 0 = .ok (.iconst 1, 1) := by decide +kernel
theorem zd_Mod_mayBe_1 : decode zb_Mod_mayBe 1 = .ok (.iload_n 1, 1) := by decide +kernel
theorem zd_Mod_mayBe_2 : decode zb_Mod_mayBe 2 = .ok (.ishl, 1) := by decide +kernel
theorem zd_Mod_mayBe_3 : decode zb_Mod_mayBe 3 = .ok (.istore 4, 2) := by decide +kernel
theorem zd_Mod_mayBe_5 : decode zb_Mod_mayBe 5 = .ok (.iconst 0, 1) := by decide +kernel
theorem zd_Mod_mayBe_6 : decode zb_Mod_mayBe 6 = .ok (.istore 5, 2) := by decide +kernel
theorem zd_Mod_mayBe_8 : decode zb_Mod_mayBe 8 = .ok (.iload 5, 2) := by decide +kernel
theorem zd_Mod_mayBe_10 : decode zb_Mod_mayBe 10 = .ok (.iload_n 2, 1) := by decide +kernel
theorem zd_Mod_mayBe_11 : decode zb_Mod_mayBe 11 = .ok (.if_icmp .ge 25, 3) := by decide +kernel
theorem zd_Mod_mayBe_14 : decode zb_Mod_mayBe 14 = .ok (.aload_n 0, 1) := by decide +kernel
theorem zd_Mod_mayBe_15 : decode zb_Mod_mayBe 15 = .ok (.iload 4, 2) := by decide +kernel
theorem zd_Mod_mayBe_17 : decode zb_Mod_mayBe 17 = .ok (.aload_n 0, 1) := by decide +kernel
theorem zd_Mod_mayBe_18 : decode zb_Mod_mayBe 18 = .ok (.iload 5, 2) := by decide +kernel
theorem zd_Mod_mayBe_20 : decode zb_Mod_mayBe 20 = .ok (.invokevirtual 145, 3) := by decide +kernel
theorem zd_Mod_mayBe_23 : decode zb_Mod_mayBe 23 = .ok (.iconst 0, 1) := by decide +kernel
theorem zd_Mod_mayBe_24 : decode zb_Mod_mayBe 24 = .ok (.iload_n 3, 1) := by decide +kernel
theorem zd_Mod_mayBe_25 : decode zb_Mod_mayBe 25 = .ok (.invokevirtual 181, 3) := by decide +kernel
theorem zd_Mod_mayBe_28 : decode zb_Mod_mayBe 28 = .ok (.istore 4, 2) := by decide +kernel
theorem zd_Mod_mayBe_30 : decode zb_Mod_mayBe 30 = .ok (.iinc 5 1, 3) := by decide +kernel
theorem zd_Mod_mayBe_33 : decode zb_Mod_mayBe 33 = .ok (.goto (-25), 3) := by decide +kernel
theorem zd_Mod_mayBe_36 : decode zb_Mod_mayBe 36 = .ok (.iload 4, 2) := by decide +kernel
theorem zd_Mod_mayBe_38 : decode zb_Mod_mayBe 38 = .ok (.ireturn, 1) := by decide +kernel
set_option maxHeartbeats 4000000 in
theorem zl_Mod_mayBe_B8 {p : Program} {l : Launch} {e : Env} {s : State} {m : MethodId} {args : Array Value} {below : List Frame} {meth : Method} {c : Code} {D : va_G} {cA : Nat → ClassId} {ad : Nat → Nat} {A : Nat → Prop} (B : zu_B p s m args c zb_Mod_mayBe 6 "StonePostModel" D cA ad A) (hret : meth.sig.returnType = (some .int)) (hlk : meth.locks = false) {Y : LX} {res : Int32 × IX} {k8 : Int32 → Int32 → Int32 → Int32 → IX → Option (Int32 × IX)} (hk8 : ∀ (x2 : Int32) (x3 : Int32) (x4 : Int32) (x5 : Int32) (X : IX) (H : Heap) (locs : List Loc) (ls : Array Slot), va_P D zu_cl (zu_pic cA ad X Y) H → va_S A s.heap H locs → lv_has ls 6 [(0, .ref (ad 95)), (2, .int x2), (3, .int x3), (4, .int x4), (5, .int x5)] → k8 x2 x3 x4 x5 X = some res → W p l e zR_Mod_mayBe s m args below meth c H locs 0 0 (MQ below (zu_Qi D cA ad A res.1 res.2 Y) args s 0 0 A) (F0 m 8 ls [])) (x2 : Int32) (x3 : Int32) (x4 : Int32) (x5 : Int32) (X : IX) (H : Heap) (locs : List Loc) (ls : Array Slot) (hP : va_P D zu_cl (zu_pic cA ad X Y) H) (hS : va_S A s.heap H locs) (hl : lv_has ls 6 [(0, .ref (ad 95)), (2, .int x2), (3, .int x3), (4, .int x4), (5, .int x5)]) (hf : fn_Mod_mayBe_B8 k8 x2 x3 x4 x5 X = some res) : W p l e zR_Mod_mayBe s m args below meth c H locs 0 0 (MQ below (zu_Qi D cA ad A res.1 res.2 Y) args s 0 0 A) (F0 m 8 ls []) := by
  obtain ⟨hx, hb, hml, hown, hts, hST⟩ := id B
  unfold fn_Mod_mayBe_B8 at hf
  refine lv_iload hx hb zd_Mod_mayBe_8 (lv_at hl 4 rfl) ?_
  refine lv_iload_n hx hb zd_Mod_mayBe_10 rfl (lv_at hl 1 rfl) ?_
  refine lv_icmp_ge (tgt := 36) hx hb zd_Mod_mayBe_11 (by decide) (fun c2 => ?_) (fun c2 => ?_)
  · have hf := zu_t c2 hf
    refine lv_iload hx hb zd_Mod_mayBe_36 (lv_at hl 3 rfl) ?_
    obtain rfl := Option.some.inj hf
    exact zr_iret hx hb hret hlk hP hS zd_Mod_mayBe_38
  · have hf := zu_f c2 hf
    refine lv_aload_n hx hb zd_Mod_mayBe_14 rfl (lv_at hl 0 rfl) ?_
    refine lv_iload hx hb zd_Mod_mayBe_15 (lv_at hl 3 rfl) ?_
    refine lv_aload_n hx hb zd_Mod_mayBe_17 rfl (lv_at hl 0 rfl) ?_
    refine lv_iload hx hb zd_Mod_mayBe_18 (lv_at hl 4 rfl) ?_
    obtain ⟨v3, ehq4, hf⟩ := zu_nx_e hf
    have hq4 := ehq4.symm
    refine zw_Mod_clockIn (rest := [.int x4, .ref (ad 95)]) B hP hS hq4 zq_1071 (Nat.le_of_ble_eq_true rfl) (Nat.le_of_ble_eq_true rfl) hl.1 rfl (Nat.le_of_ble_eq_true rfl) zd_Mod_mayBe_20 (by decide) (fun H locs hP hS => ?_)
    clear hq4 ehq4
    refine lv_iconst (v := 0) hx hb zd_Mod_mayBe_23 (by decide) ?_
    refine lv_iload_n hx hb zd_Mod_mayBe_24 rfl (lv_at hl 2 rfl) ?_
    obtain ⟨v5, X6, hq7, hf⟩ := zu_b2_e hf
    refine zw_Mod_stepped (rest := []) B hP hS hq7 zq_1120 (Nat.le_of_ble_eq_true rfl) (Nat.le_of_ble_eq_true rfl) hl.1 rfl (Nat.le_of_ble_eq_true rfl) zd_Mod_mayBe_25 (by decide) (fun H locs hP hS => ?_)
    clear hq7
    refine lv_istore (lv' := [(4, .int v5), (0, .ref (ad 95)), (2, .int x2), (3, .int x3), (5, .int x5)]) hx hb zd_Mod_mayBe_28 hl (by decide) rfl (fun ls hl => ?_)
    obtain ⟨v8, ev8, hf⟩ := zu_nx_e hf
    refine lv_iinc (v := v8) (lv' := [(5, .int v8), (4, .int v5), (0, .ref (ad 95)), (2, .int x2), (3, .int x3)]) hx hb zd_Mod_mayBe_30 hl (k := 4) rfl (by rw [ev8]; rfl) (by decide) rfl (fun ls hl => ?_)
    clear ev8
    refine lv_goto (tgt := 8) hx hb zd_Mod_mayBe_33 (by decide) ?_
    exact hk8 x2 x3 v5 v8 X6 _ _ _ hP hS (lv_sub hl [2, 3, 4, 1, 0] rfl) hf
theorem zl_Mod_mayBe_L8 {p : Program} {l : Launch} {e : Env} {s : State} {m : MethodId} {args : Array Value} {below : List Frame} {meth : Method} {c : Code} {D : va_G} {cA : Nat → ClassId} {ad : Nat → Nat} {A : Nat → Prop} (B : zu_B p s m args c zb_Mod_mayBe 6 "StonePostModel" D cA ad A) (hret : meth.sig.returnType = (some .int)) (hlk : meth.locks = false) {Y : LX} {res : Int32 × IX} : ∀ (n : Nat) (x2 : Int32) (x3 : Int32) (x4 : Int32) (x5 : Int32) (X : IX) (H : Heap) (locs : List Loc) (ls : Array Slot), va_P D zu_cl (zu_pic cA ad X Y) H → va_S A s.heap H locs → lv_has ls 6 [(0, .ref (ad 95)), (2, .int x2), (3, .int x3), (4, .int x4), (5, .int x5)] → fn_Mod_mayBe_L8 n x2 x3 x4 x5 X = some res → W p l e zR_Mod_mayBe s m args below meth c H locs 0 0 (MQ below (zu_Qi D cA ad A res.1 res.2 Y) args s 0 0 A) (F0 m 8 ls []) := by
  intro n
  induction n with
  | zero =>
    intro x2 x3 x4 x5 X H locs ls hP hS hl hf
    exact (Option.some_ne_none _ hf.symm).elim
  | succ n ih =>
    intro x2 x3 x4 x5 X H locs ls hP hS hl hf
    exact zl_Mod_mayBe_B8 B hret hlk ih x2 x3 x4 x5 X H locs ls hP hS hl  hf
set_option maxHeartbeats 4000000 in
theorem zl_Mod_mayBe {p : Program} {l : Launch} {e : Env} {s : State} {m : MethodId} {args : Array Value} {below : List Frame} {meth : Method} {c : Code} {D : va_G} {cA : Nat → ClassId} {ad : Nat → Nat} {A : Nat → Prop} (B : zu_B p s m args c zb_Mod_mayBe 6 "StonePostModel" D cA ad A) (hret : meth.sig.returnType = (some .int)) (hlk : meth.locks = false) {Y : LX} {res : Int32 × IX} {a1 : Int32} {a2 : Int32} {a3 : Int32} {X : IX} (H : Heap) (locs : List Loc) (ls : Array Slot) (hP : va_P D zu_cl (zu_pic cA ad X Y) H) (hS : va_S A s.heap H locs) (hl : lv_has ls 6 [(0, .ref (ad 95)), (1, .int a1), (2, .int a2), (3, .int a3)]) (hf : fn_Mod_mayBe a1 a2 a3 X = some res) : W p l e zR_Mod_mayBe s m args below meth c H locs 0 0 (MQ below (zu_Qi D cA ad A res.1 res.2 Y) args s 0 0 A) (F0 m 0 ls []) := by
  obtain ⟨hx, hb, hml, hown, hts, hST⟩ := id B
  unfold fn_Mod_mayBe at hf
  refine lv_iconst (v := 1) hx hb zd_Mod_mayBe_0 (by decide) ?_
  refine lv_iload_n hx hb zd_Mod_mayBe_1 rfl (lv_at hl 1 rfl) ?_
  refine lv_ishl hx hb zd_Mod_mayBe_2 ?_
  refine zr_nxi hf (fun v1 hf => ?_)
  refine lv_istore (lv' := [(4, .int v1), (0, .ref (ad 95)), (1, .int a1), (2, .int a2), (3, .int a3)]) hx hb zd_Mod_mayBe_3 hl (by decide) rfl (fun ls hl => ?_)
  refine lv_iconst (v := 0) hx hb zd_Mod_mayBe_5 (by decide) ?_
  refine lv_istore (lv' := [(5, .int (0 : Int32)), (4, .int v1), (0, .ref (ad 95)), (1, .int a1), (2, .int a2), (3, .int a3)]) hx hb zd_Mod_mayBe_6 hl (by decide) rfl (fun ls hl => ?_)
  exact zl_Mod_mayBe_L8 B hret hlk 400 a2 a3 v1 (0 : Int32) X _ _ _ hP hS (lv_sub hl [2, 4, 5, 1, 0] rfl) hf
theorem zC_Mod_mayBe (l : Launch) {D : va_G} {cA : Nat → ClassId} {ad : Nat → Nat} {A : Nat → Prop} {a1 : Int32} {a2 : Int32} {a3 : Int32} {X : IX} {Y : LX} {res : Int32 × IX} (hf : fn_Mod_mayBe a1 a2 a3 X = some res) : Met l zm_Mod_mayBe (zu_ws zm_Mod_mayBe zb_Mod_mayBe 6 (some .int)) zR_Mod_mayBe (va_Pc [.ref (ad 95), .int a1, .int a2, .int a3] (zu_Pre D cA ad A X Y)) (zu_Qi D cA ad A res.1 res.2 Y) 0 0 A := by
  refine Met.ofW (cc := zb_Mod_mayBe) (maxL := 6) (ret := (some .int)) (by decide +kernel) rfl ?_
  intro p e s m args below meth c s₁ B0 hml hv
  obtain ⟨rfl, hP, hST⟩ := hv
  have B : zu_B p s m _ c zb_Mod_mayBe 6 "StonePostModel" D cA ad A := ⟨B0.exec, B0.bytes, hml, findClass_of_methodNamed B0.named, (fun w hw => atoms_spec (ws := zu_ws zm_Mod_mayBe zb_Mod_mayBe 6 (some .int)) B0.pre w (List.mem_cons_of_mem _ hw)), hST⟩
  have hl := lv_entry ([.ref (ad 95), .int a1, .int a2, .int a3]) (n := 6) (Nat.le_of_ble_eq_true rfl)
  rw [lg_entry_eq]
  generalize (lg_sl ([.ref (ad 95), .int a1, .int a2, .int a3]) ++ List.replicate (6 - (lg_sl ([.ref (ad 95), .int a1, .int a2, .int a3])).length) Slot.unset).toArray = ls at hl ⊢
  exact zl_Mod_mayBe B B0.returns B0.notSynchronized s.heap [] ls hP va_S.rf hl  hf
theorem zw_Mod_mayBe {p : Program} {l : Launch} {e : Env} {R : Room} {s : State} {m : MethodId} {args : Array Value} {below : List Frame} {meth : Method} {c : Code} {H : Heap} {locs : List Loc} {cells slots : Nat} {Q : State → Prop} {cc : ByteArray} {pc nL : Nat} {ls : Array Slot} {rest st0 : List Value} {D : va_G} {cA : Nat → ClassId} {ad : Nat → Nat} {A : Nat → Prop} {X : IX} {Y : LX} {own : String} {index : Nat} {a1 : Int32} {a2 : Int32} {a3 : Int32} {v1 : Int32} {X1 : IX} (B : zu_B p s m args c cc nL own D cA ad A) (hP : va_P D zu_cl (zu_pic cA ad X Y) H) (hS : va_S A s.heap H locs) (hq : fn_Mod_mayBe a1 a2 a3 X = some (v1, X1)) (m1 : Cond.methodLink own index zm_Mod_mayBe ∈ zu_TB) (hR1 : 7 + 1 ≤ R.frames) (hR2 : 8 + (6 + 11) + 168 ≤ R.locals) (hsz : ls.size = nL) (hst : st0 = .int a3 :: .int a2 :: .int a1 :: .ref (ad 95) :: rest) (hw : (rest.map fun v => v.category).sum ≤ 8) (hdg : decode cc pc = .ok (.invokevirtual index, 3)) (h00 : cells ≤ R.cells ∧ slots ≤ R.slots) (kk : ∀ (H1 : Heap) (locs1 : List Loc), va_P D zu_cl (zu_pic cA ad X1 Y) H1 → va_S A s.heap H1 locs1 → W p l e R s m args below meth c H1 locs1 cells slots Q (F0 m (pc + 3) ls (.int v1 :: rest))) : W p l e R s m args below meth c H locs cells slots Q (F0 m pc ls st0) := by
  subst hst
  exact zr_cVi (As := [.int a1, .int a2, .int a3]) (rest := rest) (n := 3) (C := "StonePostModel") (T := zt_Mod) (N := 23) B hP hS (zC_Mod_mayBe l  hq) (K := 7) rfl (by decide) (by decide) rfl rfl m1 zq_1138 zqP_41 zq_8 zq_1139 (by decide +kernel) ⟨hR1, hR2⟩ rfl rfl rfl hsz rfl hw hdg h00 kk
abbrev zR_Mod_may : Room := { frames := 8, cells := 0, slots := 0, locals := 193 }
theorem zd_Mod_may_0 : decode zb_Mod_may 0 = .ok (.iload_n 1, 1) := by decide +kernel
theorem zd_Mod_may_1 : decode zb_Mod_may 1 = .ok (.iload_n 2, 1) := by decide +kernel
theorem zd_Mod_may_2 : decode zb_Mod_may 2 = .ok (.bipush 60, 2) := by decide +kernel
theorem zd_Mod_may_4 : decode zb_Mod_may 4 = .ok (.invokestatic 172, 3) := by decide +kernel
theorem zd_Mod_may_7 : decode zb_Mod_may 7 = .ok (.ifCond .eq 13, 3) := by decide +kernel
theorem zd_Mod_may_10 : decode zb_Mod_may 10 = .ok (.aload_n 0, 1) := by decide +kernel
theorem zd_Mod_may_11 : decode zb_Mod_may 11 = .ok (.iload_n 1, 1) := by decide +kernel
theorem zd_Mod_may_12 : decode zb_Mod_may 12 = .ok (.iload_n 2, 1) := by decide +kernel
theorem zd_Mod_may_13 : decode zb_Mod_may 13 = .ok (.iconst 0, 1) := by decide +kernel
theorem zd_Mod_may_14 : decode zb_Mod_may 14 = .ok (.invokevirtual 189, 3) := by decide +kernel
theorem zd_Mod_may_17 : decode zb_Mod_may 17 = .ok (.goto 9, 3) := by decide +kernel
theorem zd_Mod_may_20 : decode zb_Mod_may 20 = .ok (.aload_n 0, 1) := by decide +kernel
theorem zd_Mod_may_21 : decode zb_Mod_may 21 = .ok (.ldc 50, 2) := by decide +kernel
theorem zd_Mod_may_23 : decode zb_Mod_may 23 = .ok (.invokevirtual 64, 3) := by decide +kernel
theorem zd_Mod_may_26 : decode zb_Mod_may 26 = .ok (.ireturn, 1) := by decide +kernel
set_option maxHeartbeats 4000000 in
theorem zl_Mod_may_L26 {p : Program} {l : Launch} {e : Env} {s : State} {m : MethodId} {args : Array Value} {below : List Frame} {meth : Method} {c : Code} {D : va_G} {cA : Nat → ClassId} {ad : Nat → Nat} {A : Nat → Prop} (B : zu_B p s m args c zb_Mod_may 3 "StonePostModel" D cA ad A) (hret : meth.sig.returnType = (some .int)) (hlk : meth.locks = false) {Y : LX} {res : Int32 × IX} (y0 : Int32) (X : IX) (H : Heap) (locs : List Loc) (ls : Array Slot) (hP : va_P D zu_cl (zu_pic cA ad X Y) H) (hS : va_S A s.heap H locs) (hl : lv_has ls 3 []) (hf : fn_Mod_may_L26 y0 X = some res) : W p l e zR_Mod_may s m args below meth c H locs 0 0 (MQ below (zu_Qi D cA ad A res.1 res.2 Y) args s 0 0 A) (F0 m 26 ls [.int y0]) := by
  obtain ⟨hx, hb, hml, hown, hts, hST⟩ := id B
  unfold fn_Mod_may_L26 at hf
  obtain rfl := Option.some.inj hf
  exact zr_iret hx hb hret hlk hP hS zd_Mod_may_26
set_option maxHeartbeats 4000000 in
theorem zl_Mod_may {p : Program} {l : Launch} {e : Env} {s : State} {m : MethodId} {args : Array Value} {below : List Frame} {meth : Method} {c : Code} {D : va_G} {cA : Nat → ClassId} {ad : Nat → Nat} {A : Nat → Prop} (B : zu_B p s m args c zb_Mod_may 3 "StonePostModel" D cA ad A) (hret : meth.sig.returnType = (some .int)) (hlk : meth.locks = false) {Y : LX} {res : Int32 × IX} {a1 : Int32} {a2 : Int32} {X : IX} (H : Heap) (locs : List Loc) (ls : Array Slot) (hP : va_P D zu_cl (zu_pic cA ad X Y) H) (hS : va_S A s.heap H locs) (hl : lv_has ls 3 [(0, .ref (ad 95)), (1, .int a1), (2, .int a2)]) (hf : fn_Mod_may a1 a2 X = some res) : W p l e zR_Mod_may s m args below meth c H locs 0 0 (MQ below (zu_Qi D cA ad A res.1 res.2 Y) args s 0 0 A) (F0 m 0 ls []) := by
  obtain ⟨hx, hb, hml, hown, hts, hST⟩ := id B
  unfold fn_Mod_may at hf
  refine lv_iload_n hx hb zd_Mod_may_0 rfl (lv_at hl 1 rfl) ?_
  refine lv_iload_n hx hb zd_Mod_may_1 rfl (lv_at hl 2 rfl) ?_
  refine lv_bipush (v := 60) hx hb zd_Mod_may_2 (by decide) ?_
  obtain ⟨v1, hq2, hf⟩ := zu_b1_e hf
  refine zw_Mod_isOdds (rest := []) B hP hS hq2 zq_1094 (Nat.le_of_ble_eq_true rfl) (Nat.le_of_ble_eq_true rfl) hl.1 rfl (Nat.le_of_ble_eq_true rfl) zd_Mod_may_4 (by decide) (fun H locs hP hS => ?_)
  clear hq2
  refine lv_if_eq (tgt := 20) hx hb zd_Mod_may_7 (by decide) (fun c3 => ?_) (fun c3 => ?_)
  · have hf := zu_t c3 hf
    refine lv_aload_n hx hb zd_Mod_may_20 rfl (lv_at hl 0 rfl) ?_
    refine lv_ldc (v := -1000001) hx hb hown (hts _ zq_943) zd_Mod_may_21 ?_
    obtain ⟨v4, X5, hq6, hf⟩ := zu_b2_e hf
    refine zw_Mod_finds (rest := []) B hP hS hq6 zq_944 (Nat.le_of_ble_eq_true rfl) (Nat.le_of_ble_eq_true rfl) hl.1 rfl (Nat.le_of_ble_eq_true rfl) zd_Mod_may_23 (by decide) (fun H locs hP hS => ?_)
    clear hq6
    exact zl_Mod_may_L26 B hret hlk v4 X5 _ _ _ hP hS (lv_sub hl [] rfl) hf
  · have hf := zu_f c3 hf
    refine lv_aload_n hx hb zd_Mod_may_10 rfl (lv_at hl 0 rfl) ?_
    refine lv_iload_n hx hb zd_Mod_may_11 rfl (lv_at hl 1 rfl) ?_
    refine lv_iload_n hx hb zd_Mod_may_12 rfl (lv_at hl 2 rfl) ?_
    refine lv_iconst (v := 0) hx hb zd_Mod_may_13 (by decide) ?_
    obtain ⟨v7, X8, hq9, hf⟩ := zu_b2_e hf
    refine zw_Mod_mayBe (rest := []) B hP hS hq9 zq_1136 (Nat.le_of_ble_eq_true rfl) (Nat.le_of_ble_eq_true rfl) hl.1 rfl (Nat.le_of_ble_eq_true rfl) zd_Mod_may_14 (by decide) (fun H locs hP hS => ?_)
    clear hq9
    refine lv_goto (tgt := 26) hx hb zd_Mod_may_17 (by decide) ?_
    exact zl_Mod_may_L26 B hret hlk v7 X8 _ _ _ hP hS (lv_sub hl [] rfl) hf
theorem zC_Mod_may (l : Launch) {D : va_G} {cA : Nat → ClassId} {ad : Nat → Nat} {A : Nat → Prop} {a1 : Int32} {a2 : Int32} {X : IX} {Y : LX} {res : Int32 × IX} (hf : fn_Mod_may a1 a2 X = some res) : Met l zm_Mod_may (zu_ws zm_Mod_may zb_Mod_may 3 (some .int)) zR_Mod_may (va_Pc [.ref (ad 95), .int a1, .int a2] (zu_Pre D cA ad A X Y)) (zu_Qi D cA ad A res.1 res.2 Y) 0 0 A := by
  refine Met.ofW (cc := zb_Mod_may) (maxL := 3) (ret := (some .int)) (by decide +kernel) rfl ?_
  intro p e s m args below meth c s₁ B0 hml hv
  obtain ⟨rfl, hP, hST⟩ := hv
  have B : zu_B p s m _ c zb_Mod_may 3 "StonePostModel" D cA ad A := ⟨B0.exec, B0.bytes, hml, findClass_of_methodNamed B0.named, (fun w hw => atoms_spec (ws := zu_ws zm_Mod_may zb_Mod_may 3 (some .int)) B0.pre w (List.mem_cons_of_mem _ hw)), hST⟩
  have hl := lv_entry ([.ref (ad 95), .int a1, .int a2]) (n := 3) (Nat.le_of_ble_eq_true rfl)
  rw [lg_entry_eq]
  generalize (lg_sl ([.ref (ad 95), .int a1, .int a2]) ++ List.replicate (3 - (lg_sl ([.ref (ad 95), .int a1, .int a2])).length) Slot.unset).toArray = ls at hl ⊢
  exact zl_Mod_may B B0.returns B0.notSynchronized s.heap [] ls hP va_S.rf hl  hf
theorem zw_Mod_may {p : Program} {l : Launch} {e : Env} {R : Room} {s : State} {m : MethodId} {args : Array Value} {below : List Frame} {meth : Method} {c : Code} {H : Heap} {locs : List Loc} {cells slots : Nat} {Q : State → Prop} {cc : ByteArray} {pc nL : Nat} {ls : Array Slot} {rest st0 : List Value} {D : va_G} {cA : Nat → ClassId} {ad : Nat → Nat} {A : Nat → Prop} {X : IX} {Y : LX} {own : String} {index : Nat} {a1 : Int32} {a2 : Int32} {v1 : Int32} {X1 : IX} (B : zu_B p s m args c cc nL own D cA ad A) (hP : va_P D zu_cl (zu_pic cA ad X Y) H) (hS : va_S A s.heap H locs) (hq : fn_Mod_may a1 a2 X = some (v1, X1)) (m1 : Cond.methodLink own index zm_Mod_may ∈ zu_TB) (hR1 : 8 + 1 ≤ R.frames) (hR2 : 8 + (3 + 11) + 193 ≤ R.locals) (hsz : ls.size = nL) (hst : st0 = .int a2 :: .int a1 :: .ref (ad 95) :: rest) (hw : (rest.map fun v => v.category).sum ≤ 8) (hdg : decode cc pc = .ok (.invokevirtual index, 3)) (h00 : cells ≤ R.cells ∧ slots ≤ R.slots) (kk : ∀ (H1 : Heap) (locs1 : List Loc), va_P D zu_cl (zu_pic cA ad X1 Y) H1 → va_S A s.heap H1 locs1 → W p l e R s m args below meth c H1 locs1 cells slots Q (F0 m (pc + 3) ls (.int v1 :: rest))) : W p l e R s m args below meth c H locs cells slots Q (F0 m pc ls st0) := by
  subst hst
  exact zr_cVi (As := [.int a1, .int a2]) (rest := rest) (n := 2) (C := "StonePostModel") (T := zt_Mod) (N := 23) B hP hS (zC_Mod_may l  hq) (K := 7) rfl (by decide) (by decide) rfl rfl m1 zq_1133 zq_1134 zq_8 zq_1135 (by decide +kernel) ⟨hR1, hR2⟩ rfl rfl rfl hsz rfl hw hdg h00 kk
abbrev zR_Mod_worthBy : Room := { frames := 5, cells := 0, slots := 0, locals := 119 }
theorem zd_Mod_worthBy_0 : decode zb_Mod_worthBy 0 = .ok (.aload_n 0, 1) := by decide +kernel
theorem zd_Mod_worthBy_1 : decode zb_Mod_worthBy 1 = .ok (.iload_n 1, 1) := by decide +kernel
theorem zd_Mod_worthBy_2 : decode zb_Mod_worthBy 2 = .ok (.iload_n 2, 1) := by decide +kernel
theorem zd_Mod_worthBy_3 : decode zb_Mod_worthBy 3 = .ok (.iload_n 3, 1) := by decide +kernel
theorem zd_Mod_worthBy_4 : decode zb_Mod_worthBy 4 = .ok (.invokevirtual 148, 3) := by decide +kernel
theorem zd_Mod_worthBy_7 : decode zb_Mod_worthBy 7 = .ok (.aload_n 0, 1) := by decide +kernel
theorem zd_Mod_worthBy_8 : decode zb_Mod_worthBy 8 = .ok (.getfield 136, 3) := by decide +kernel
theorem zd_Mod_worthBy_11 : decode zb_Mod_worthBy 11 = .ok (.i2l, 1) := by decide +kernel
theorem zd_Mod_worthBy_12 : decode zb_Mod_worthBy 12 = .ok (.aload_n 0, 1) := by decide +kernel
theorem zd_Mod_worthBy_13 : decode zb_Mod_worthBy 13 = .ok (.getfield 29, 3) := by decide +kernel
theorem zd_Mod_worthBy_16 : decode zb_Mod_worthBy 16 = .ok (.aload_n 0, 1) := by decide +kernel
theorem zd_Mod_worthBy_17 : decode zb_Mod_worthBy 17 = .ok (.getfield 129, 3) := by decide +kernel
theorem zd_Mod_worthBy_20 : decode zb_Mod_worthBy 20 = .ok (.laload, 1) := by decide +kernel
theorem zd_Mod_worthBy_21 : decode zb_Mod_worthBy 21 = .ok (.lmul, 1) := by decide +kernel
theorem zd_Mod_worthBy_22 : decode zb_Mod_worthBy 22 = .ok (.bipush 12, 2) := by decide +kernel
theorem zd_Mod_worthBy_24 : decode zb_Mod_worthBy 24 = .ok (.aload_n 0, 1) := by decide +kernel
theorem zd_Mod_worthBy_25 : decode zb_Mod_worthBy 25 = .ok (.getfield 136, 3) := by decide +kernel
theorem zd_Mod_worthBy_28 : decode zb_Mod_worthBy 28 = .ok (.isub, 1) := by decide +kernel
theorem zd_Mod_worthBy_29 : decode zb_Mod_worthBy 29 = .ok (.i2l, 1) := by decide +kernel
theorem zd_Mod_worthBy_30 : decode zb_Mod_worthBy 30 = .ok (.aload_n 0, 1) := by decide +kernel
theorem zd_Mod_worthBy_31 : decode zb_Mod_worthBy 31 = .ok (.getfield 29, 3) := by decide +kernel
theorem zd_Mod_worthBy_34 : decode zb_Mod_worthBy 34 = .ok (.aload_n 0, 1) := by decide +kernel
theorem zd_Mod_worthBy_35 : decode zb_Mod_worthBy 35 = .ok (.getfield 133, 3) := by decide +kernel
theorem zd_Mod_worthBy_38 : decode zb_Mod_worthBy 38 = .ok (.laload, 1) := by decide +kernel
theorem zd_Mod_worthBy_39 : decode zb_Mod_worthBy 39 = .ok (.lmul, 1) := by decide +kernel
theorem zd_Mod_worthBy_40 : decode zb_Mod_worthBy 40 = .ok (.ladd, 1) := by decide +kernel
theorem zd_Mod_worthBy_41 : decode zb_Mod_worthBy 41 = .ok (.lreturn, 1) := by decide +kernel
set_option maxHeartbeats 4000000 in
theorem zl_Mod_worthBy {p : Program} {l : Launch} {e : Env} {s : State} {m : MethodId} {args : Array Value} {below : List Frame} {meth : Method} {c : Code} {D : va_G} {cA : Nat → ClassId} {ad : Nat → Nat} {A : Nat → Prop} (B : zu_B p s m args c zb_Mod_worthBy 4 "StonePostModel" D cA ad A) (hret : meth.sig.returnType = (some .long)) (hlk : meth.locks = false) {Y : LX} {res : Int64 × IX} {a1 : Int32} {a2 : Int32} {a3 : Int32} {X : IX} (H : Heap) (locs : List Loc) (ls : Array Slot) (hP : va_P D zu_cl (zu_pic cA ad X Y) H) (hS : va_S A s.heap H locs) (hl : lv_has ls 4 [(0, .ref (ad 95)), (1, .int a1), (2, .int a2), (3, .int a3)]) (hf : fn_Mod_worthBy Y a1 a2 a3 X = some res) : W p l e zR_Mod_worthBy s m args below meth c H locs 0 0 (MQ below (zu_Ql D cA ad A res.1 res.2 Y) args s 0 0 A) (F0 m 0 ls []) := by
  obtain ⟨hx, hb, hml, hown, hts, hST⟩ := id B
  unfold fn_Mod_worthBy at hf
  refine lv_aload_n hx hb zd_Mod_worthBy_0 rfl (lv_at hl 0 rfl) ?_
  refine lv_iload_n hx hb zd_Mod_worthBy_1 rfl (lv_at hl 1 rfl) ?_
  refine lv_iload_n hx hb zd_Mod_worthBy_2 rfl (lv_at hl 2 rfl) ?_
  refine lv_iload_n hx hb zd_Mod_worthBy_3 rfl (lv_at hl 3 rfl) ?_
  obtain ⟨X1, hq2, hf⟩ := zu_b1_e hf
  refine zw_Mod_goes (rest := []) B hP hS hq2 zq_1075 (Nat.le_of_ble_eq_true rfl) (Nat.le_of_ble_eq_true rfl) hl.1 rfl (Nat.le_of_ble_eq_true rfl) zd_Mod_worthBy_4 (by decide) (fun H locs hP hS => ?_)
  clear hq2
  refine lv_aload_n hx hb zd_Mod_worthBy_7 rfl (lv_at hl 0 rfl) ?_
  refine zg_Mod_twelfths B hP rfl zq_867 zd_Mod_worthBy_8 ?_
  refine lv_i2l hx hb zd_Mod_worthBy_11 rfl ?_
  refine lv_aload_n hx hb zd_Mod_worthBy_12 rfl (lv_at hl 0 rfl) ?_
  refine zg_Mod_worth B hP rfl zq_872 zd_Mod_worthBy_13 ?_
  refine lv_aload_n hx hb zd_Mod_worthBy_16 rfl (lv_at hl 0 rfl) ?_
  refine zg_Mod_first B hP rfl zq_866 zd_Mod_worthBy_17 ?_
  obtain ⟨hg3, hf⟩ := zu_gd_e hf
  refine zr_lald rfl B hP rfl (by decide) rfl hg3 zd_Mod_worthBy_20 ?_
  refine lv_lmul hx hb zd_Mod_worthBy_21 ?_
  refine lv_bipush (v := 12) hx hb zd_Mod_worthBy_22 (by decide) ?_
  refine lv_aload_n hx hb zd_Mod_worthBy_24 rfl (lv_at hl 0 rfl) ?_
  refine zg_Mod_twelfths B hP rfl zq_867 zd_Mod_worthBy_25 ?_
  refine lv_isub hx hb zd_Mod_worthBy_28 ?_
  refine lv_i2l hx hb zd_Mod_worthBy_29 rfl ?_
  refine lv_aload_n hx hb zd_Mod_worthBy_30 rfl (lv_at hl 0 rfl) ?_
  refine zg_Mod_worth B hP rfl zq_872 zd_Mod_worthBy_31 ?_
  refine lv_aload_n hx hb zd_Mod_worthBy_34 rfl (lv_at hl 0 rfl) ?_
  refine zg_Mod_second B hP rfl zq_868 zd_Mod_worthBy_35 ?_
  obtain ⟨hg4, hf⟩ := zu_gd_e hf
  refine zr_lald rfl B hP rfl (by decide) rfl hg4 zd_Mod_worthBy_38 ?_
  refine lv_lmul hx hb zd_Mod_worthBy_39 ?_
  refine lv_ladd hx hb zd_Mod_worthBy_40 ?_
  obtain rfl := Option.some.inj hf
  exact zr_lret hx hb hret hlk hP hS zd_Mod_worthBy_41
theorem zC_Mod_worthBy (l : Launch) {D : va_G} {cA : Nat → ClassId} {ad : Nat → Nat} {A : Nat → Prop} {a1 : Int32} {a2 : Int32} {a3 : Int32} {X : IX} {Y : LX} {res : Int64 × IX} (hf : fn_Mod_worthBy Y a1 a2 a3 X = some res) : Met l zm_Mod_worthBy (zu_ws zm_Mod_worthBy zb_Mod_worthBy 4 (some .long)) zR_Mod_worthBy (va_Pc [.ref (ad 95), .int a1, .int a2, .int a3] (zu_Pre D cA ad A X Y)) (zu_Ql D cA ad A res.1 res.2 Y) 0 0 A := by
  refine Met.ofW (cc := zb_Mod_worthBy) (maxL := 4) (ret := (some .long)) (by decide +kernel) rfl ?_
  intro p e s m args below meth c s₁ B0 hml hv
  obtain ⟨rfl, hP, hST⟩ := hv
  have B : zu_B p s m _ c zb_Mod_worthBy 4 "StonePostModel" D cA ad A := ⟨B0.exec, B0.bytes, hml, findClass_of_methodNamed B0.named, (fun w hw => atoms_spec (ws := zu_ws zm_Mod_worthBy zb_Mod_worthBy 4 (some .long)) B0.pre w (List.mem_cons_of_mem _ hw)), hST⟩
  have hl := lv_entry ([.ref (ad 95), .int a1, .int a2, .int a3]) (n := 4) (Nat.le_of_ble_eq_true rfl)
  rw [lg_entry_eq]
  generalize (lg_sl ([.ref (ad 95), .int a1, .int a2, .int a3]) ++ List.replicate (4 - (lg_sl ([.ref (ad 95), .int a1, .int a2, .int a3])).length) Slot.unset).toArray = ls at hl ⊢
  exact zl_Mod_worthBy B B0.returns B0.notSynchronized s.heap [] ls hP va_S.rf hl  hf
theorem zw_Mod_worthBy {p : Program} {l : Launch} {e : Env} {R : Room} {s : State} {m : MethodId} {args : Array Value} {below : List Frame} {meth : Method} {c : Code} {H : Heap} {locs : List Loc} {cells slots : Nat} {Q : State → Prop} {cc : ByteArray} {pc nL : Nat} {ls : Array Slot} {rest st0 : List Value} {D : va_G} {cA : Nat → ClassId} {ad : Nat → Nat} {A : Nat → Prop} {X : IX} {Y : LX} {own : String} {index : Nat} {a1 : Int32} {a2 : Int32} {a3 : Int32} {v1 : Int64} {X1 : IX} (B : zu_B p s m args c cc nL own D cA ad A) (hP : va_P D zu_cl (zu_pic cA ad X Y) H) (hS : va_S A s.heap H locs) (hq : fn_Mod_worthBy Y a1 a2 a3 X = some (v1, X1)) (m1 : Cond.methodLink own index zm_Mod_worthBy ∈ zu_TB) (hR1 : 5 + 1 ≤ R.frames) (hR2 : 8 + (4 + 11) + 119 ≤ R.locals) (hsz : ls.size = nL) (hst : st0 = .int a3 :: .int a2 :: .int a1 :: .ref (ad 95) :: rest) (hw : (rest.map fun v => v.category).sum ≤ 8) (hdg : decode cc pc = .ok (.invokevirtual index, 3)) (h00 : cells ≤ R.cells ∧ slots ≤ R.slots) (kk : ∀ (H1 : Heap) (locs1 : List Loc), va_P D zu_cl (zu_pic cA ad X1 Y) H1 → va_S A s.heap H1 locs1 → W p l e R s m args below meth c H1 locs1 cells slots Q (F0 m (pc + 3) ls (.long v1 :: rest))) : W p l e R s m args below meth c H locs cells slots Q (F0 m pc ls st0) := by
  subst hst
  exact zr_cVl (As := [.int a1, .int a2, .int a3]) (rest := rest) (n := 3) (C := "StonePostModel") (T := zt_Mod) (N := 23) B hP hS (zC_Mod_worthBy l  hq) (K := 7) rfl (by decide) (by decide) rfl rfl m1 zq_1150 zqP_43 zq_8 zq_1151 (by decide +kernel) ⟨hR1, hR2⟩ rfl rfl rfl hsz rfl hw hdg h00 kk
