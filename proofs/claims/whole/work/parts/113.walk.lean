abbrev zR_Mod_findWorth : Room := { frames := 6, cells := 0, slots := 0, locals := 142 }
theorem zd_Mod_findWorth_0 : decode zb_Mod_findWorth 0 = .ok (.iconst 0, 1) := by decide +kernel
theorem zd_Mod_findWorth_1 : decode zb_Mod_findWorth 1 = .ok (.istore_n 3, 1) := by decide +kernel
theorem zd_Mod_findWorth_2 : decode zb_Mod_findWorth 2 = .ok (.iload_n 3, 1) := by decide +kernel
theorem zd_Mod_findWorth_3 : decode zb_Mod_findWorth 3 = .ok (.bipush 24, 2) := by decide +kernel
theorem zd_Mod_findWorth_5 : decode zb_Mod_findWorth 5 = .ok (.if_icmp .ge 30, 3) := by decide +kernel
theorem zd_Mod_findWorth_8 : decode zb_Mod_findWorth 8 = .ok (.aload_n 0, 1) := by decide +kernel
theorem zd_Mod_findWorth_9 : decode zb_Mod_findWorth 9 = .ok (.getfield 29, 3) := by decide +kernel
theorem zd_Mod_findWorth_12 : decode zb_Mod_findWorth 12 = .ok (.iload_n 3, 1) := by decide +kernel
theorem zd_Mod_findWorth_13 : decode zb_Mod_findWorth 13 = .ok (.iload_n 3, 1) := by decide +kernel
theorem zd_Mod_findWorth_14 : decode zb_Mod_findWorth 14 = .ok (.aload_n 0, 1) := by decide +kernel
theorem zd_Mod_findWorth_15 : decode zb_Mod_findWorth 15 = .ok (.getfield 7, 3) := by decide +kernel
theorem zd_Mod_findWorth_18 : decode zb_Mod_findWorth 18 = .ok (.iconst 3, 1) := by decide +kernel
theorem zd_Mod_findWorth_19 : decode zb_Mod_findWorth 19 = .ok (.iaload, 1) := by decide +kernel
theorem zd_Mod_findWorth_20 : decode zb_Mod_findWorth 20 = .ok (.if_icmp .ne 7, 3) := by decide +kernel
theorem zd_Mod_findWorth_23 : decode zb_Mod_findWorth 23 = .ok (.lconst 1, 1) := by decide +kernel
theorem zd_Mod_findWorth_24 : decode zb_Mod_findWorth 24 = .ok (.goto 4, 3) := by decide +kernel
theorem zd_Mod_findWorth_27 : decode zb_Mod_findWorth 27 = .ok (.lconst 0, 1) := by decide +kernel
theorem zd_Mod_findWorth_28 : decode zb_Mod_findWorth 28 = .ok (.lastore, 1) := by decide +kernel
theorem zd_Mod_findWorth_29 : decode zb_Mod_findWorth 29 = .ok (.iinc 3 1, 3) := by decide +kernel
theorem zd_Mod_findWorth_32 : decode zb_Mod_findWorth 32 = .ok (.goto (-30), 3) := by decide +kernel
theorem zd_Mod_findWorth_35 : decode zb_Mod_findWorth 35 = .ok (.iload_n 2, 1) := by decide +kernel
theorem zd_Mod_findWorth_36 : decode zb_Mod_findWorth 36 = .ok (.iconst 1, 1) := by decide +kernel
theorem zd_Mod_findWorth_37 : decode zb_Mod_findWorth 37 = .ok (.isub, 1) := by decide +kernel
theorem zd_Mod_findWorth_38 : decode zb_Mod_findWorth 38 = .ok (.istore_n 3, 1) := by decide +kernel
theorem zd_Mod_findWorth_39 : decode zb_Mod_findWorth 39 = .ok (.iload_n 3, 1) := by decide +kernel
theorem zd_Mod_findWorth_40 : decode zb_Mod_findWorth 40 = .ok (.iload_n 1, 1) := by decide +kernel
theorem zd_Mod_findWorth_41 : decode zb_Mod_findWorth 41 = .ok (.if_icmp .lt 105, 3) := by decide +kernel
theorem zd_Mod_findWorth_44 : decode zb_Mod_findWorth 44 = .ok (.iconst 0, 1) := by decide +kernel
theorem zd_Mod_findWorth_45 : decode zb_Mod_findWorth 45 = .ok (.istore 4, 2) := by decide +kernel
theorem zd_Mod_findWorth_47 : decode zb_Mod_findWorth 47 = .ok (.iload 4, 2) := by decide +kernel
theorem zd_Mod_findWorth_49 : decode zb_Mod_findWorth 49 = .ok (.bipush 24, 2) := by decide +kernel
theorem zd_Mod_findWorth_51 : decode zb_Mod_findWorth 51 = .ok (.if_icmp .ge 59, 3) := by decide +kernel
theorem zd_Mod_findWorth_54 : decode zb_Mod_findWorth 54 = .ok (.aload_n 0, 1) := by decide +kernel
theorem zd_Mod_findWorth_55 : decode zb_Mod_findWorth 55 = .ok (.iload 4, 2) := by decide +kernel
theorem zd_Mod_findWorth_57 : decode zb_Mod_findWorth 57 = .ok (.aload_n 0, 1) := by decide +kernel
theorem zd_Mod_findWorth_58 : decode zb_Mod_findWorth 58 = .ok (.iload_n 3, 1) := by decide +kernel
theorem zd_Mod_findWorth_59 : decode zb_Mod_findWorth 59 = .ok (.invokevirtual 145, 3) := by decide +kernel
theorem zd_Mod_findWorth_62 : decode zb_Mod_findWorth 62 = .ok (.iconst 0, 1) := by decide +kernel
theorem zd_Mod_findWorth_63 : decode zb_Mod_findWorth 63 = .ok (.invokevirtual 192, 3) := by decide +kernel
theorem zd_Mod_findWorth_66 : decode zb_Mod_findWorth 66 = .ok (.lstore 5, 2) := by decide +kernel
theorem zd_Mod_findWorth_68 : decode zb_Mod_findWorth 68 = .ok (.aload_n 0, 1) := by decide +kernel
theorem zd_Mod_findWorth_69 : decode zb_Mod_findWorth 69 = .ok (.iload 4, 2) := by decide +kernel
theorem zd_Mod_findWorth_71 : decode zb_Mod_findWorth 71 = .ok (.aload_n 0, 1) := by decide +kernel
theorem zd_Mod_findWorth_72 : decode zb_Mod_findWorth 72 = .ok (.iload_n 3, 1) := by decide +kernel
theorem zd_Mod_findWorth_73 : decode zb_Mod_findWorth 73 = .ok (.invokevirtual 145, 3) := by decide +kernel
theorem zd_Mod_findWorth_76 : decode zb_Mod_findWorth 76 = .ok (.iconst 1, 1) := by decide +kernel
theorem zd_Mod_findWorth_77 : decode zb_Mod_findWorth 77 = .ok (.invokevirtual 192, 3) := by decide +kernel
theorem zd_Mod_findWorth_80 : decode zb_Mod_findWorth 80 = .ok (.lstore 7, 2) := by decide +kernel
theorem zd_Mod_findWorth_82 : decode zb_Mod_findWorth 82 = .ok (.aload_n 0, 1) := by decide +kernel
theorem zd_Mod_findWorth_83 : decode zb_Mod_findWorth 83 = .ok (.getfield 26, 3) := by decide +kernel
theorem zd_Mod_findWorth_86 : decode zb_Mod_findWorth 86 = .ok (.iload 4, 2) := by decide +kernel
theorem zd_Mod_findWorth_88 : decode zb_Mod_findWorth 88 = .ok (.lload 5, 2) := by decide +kernel
theorem zd_Mod_findWorth_90 : decode zb_Mod_findWorth 90 = .ok (.lload 7, 2) := by decide +kernel
theorem zd_Mod_findWorth_92 : decode zb_Mod_findWorth 92 = .ok (.lcmp, 1) := by decide +kernel
theorem zd_Mod_findWorth_93 : decode zb_Mod_findWorth 93 = .ok (.ifCond .ge 8, 3) := by decide +kernel
theorem zd_Mod_findWorth_96 : decode zb_Mod_findWorth 96 = .ok (.lload 7, 2) := by decide +kernel
theorem zd_Mod_findWorth_98 : decode zb_Mod_findWorth 98 = .ok (.goto 5, 3) := by decide +kernel
theorem zd_Mod_findWorth_101 : decode zb_Mod_findWorth 101 = .ok (.lload 5, 2) := by decide +kernel
theorem zd_Mod_findWorth_103 : decode zb_Mod_findWorth 103 = .ok (.lastore, 1) := by decide +kernel
theorem zd_Mod_findWorth_104 : decode zb_Mod_findWorth 104 = .ok (.iinc 4 1, 3) := by decide +kernel
theorem zd_Mod_findWorth_107 : decode zb_Mod_findWorth 107 = .ok (.goto (-60), 3) := by decide +kernel
theorem zd_Mod_findWorth_110 : decode zb_Mod_findWorth 110 = .ok (.iconst 0, 1) := by decide +kernel
theorem zd_Mod_findWorth_111 : decode zb_Mod_findWorth 111 = .ok (.istore 4, 2) := by decide +kernel
theorem zd_Mod_findWorth_113 : decode zb_Mod_findWorth 113 = .ok (.iload 4, 2) := by decide +kernel
theorem zd_Mod_findWorth_115 : decode zb_Mod_findWorth 115 = .ok (.bipush 24, 2) := by decide +kernel
theorem zd_Mod_findWorth_117 : decode zb_Mod_findWorth 117 = .ok (.if_icmp .ge 23, 3) := by decide +kernel
theorem zd_Mod_findWorth_120 : decode zb_Mod_findWorth 120 = .ok (.aload_n 0, 1) := by decide +kernel
theorem zd_Mod_findWorth_121 : decode zb_Mod_findWorth 121 = .ok (.getfield 29, 3) := by decide +kernel
theorem zd_Mod_findWorth_124 : decode zb_Mod_findWorth 124 = .ok (.iload 4, 2) := by decide +kernel
theorem zd_Mod_findWorth_126 : decode zb_Mod_findWorth 126 = .ok (.aload_n 0, 1) := by decide +kernel
theorem zd_Mod_findWorth_127 : decode zb_Mod_findWorth 127 = .ok (.getfield 26, 3) := by decide +kernel
theorem zd_Mod_findWorth_130 : decode zb_Mod_findWorth 130 = .ok (.iload 4, 2) := by decide +kernel
theorem zd_Mod_findWorth_132 : decode zb_Mod_findWorth 132 = .ok (.laload, 1) := by decide +kernel
theorem zd_Mod_findWorth_133 : decode zb_Mod_findWorth 133 = .ok (.lastore, 1) := by decide +kernel
theorem zd_Mod_findWorth_134 : decode zb_Mod_findWorth 134 = .ok (.iinc 4 1, 3) := by decide +kernel
theorem zd_Mod_findWorth_137 : decode zb_Mod_findWorth 137 = .ok (.goto (-24), 3) := by decide +kernel
theorem zd_Mod_findWorth_140 : decode zb_Mod_findWorth 140 = .ok (.iinc 3 (-1), 3) := by decide +kernel
theorem zd_Mod_findWorth_143 : decode zb_Mod_findWorth 143 = .ok (.goto (-104), 3) := by decide +kernel
theorem zd_Mod_findWorth_146 : decode zb_Mod_findWorth 146 = .ok (.return_, 1) := by decide +kernel
set_option maxHeartbeats 4000000 in
theorem zl_Mod_findWorth_B113 {p : Program} {l : Launch} {e : Env} {s : State} {m : MethodId} {args : Array Value} {below : List Frame} {meth : Method} {c : Code} {D : va_G} {cA : Nat → ClassId} {ad : Nat → Nat} {A : Nat → Prop} (B : zu_B p s m args c zb_Mod_findWorth 9 "StonePostModel" D cA ad A) (hret : meth.sig.returnType = none) (hlk : meth.locks = false) {res : IX × LX} {k39 : Int32 → Int32 → IX → LX → Option (IX × LX)} (hk39 : ∀ (x1 : Int32) (x3 : Int32) (X : IX) (Y : LX) (H : Heap) (locs : List Loc) (ls : Array Slot), va_P D zu_cl (zu_pic cA ad X Y) H → va_S A s.heap H locs → lv_has ls 9 [(0, .ref (ad 95)), (1, .int x1), (3, .int x3)] → k39 x1 x3 X Y = some res → W p l e zR_Mod_findWorth s m args below meth c H locs 0 0 (MQ below (zu_Qv D cA ad A res.1 res.2) args s 0 0 A) (F0 m 39 ls [])) {k113 : Int32 → Int32 → Int32 → IX → LX → Option (IX × LX)} (hk113 : ∀ (x1 : Int32) (x3 : Int32) (x4 : Int32) (X : IX) (Y : LX) (H : Heap) (locs : List Loc) (ls : Array Slot), va_P D zu_cl (zu_pic cA ad X Y) H → va_S A s.heap H locs → lv_has ls 9 [(0, .ref (ad 95)), (1, .int x1), (3, .int x3), (4, .int x4)] → k113 x1 x3 x4 X Y = some res → W p l e zR_Mod_findWorth s m args below meth c H locs 0 0 (MQ below (zu_Qv D cA ad A res.1 res.2) args s 0 0 A) (F0 m 113 ls [])) (x1 : Int32) (x3 : Int32) (x4 : Int32) (X : IX) (Y : LX) (H : Heap) (locs : List Loc) (ls : Array Slot) (hP : va_P D zu_cl (zu_pic cA ad X Y) H) (hS : va_S A s.heap H locs) (hl : lv_has ls 9 [(0, .ref (ad 95)), (1, .int x1), (3, .int x3), (4, .int x4)]) (hf : fn_Mod_findWorth_B113 k39 k113 x1 x3 x4 X Y = some res) : W p l e zR_Mod_findWorth s m args below meth c H locs 0 0 (MQ below (zu_Qv D cA ad A res.1 res.2) args s 0 0 A) (F0 m 113 ls []) := by
  obtain ⟨hx, hb, hml, hown, hts, hST⟩ := id B
  unfold fn_Mod_findWorth_B113 at hf
  refine lv_iload hx hb zd_Mod_findWorth_113 (lv_at hl 3 rfl) ?_
  refine lv_bipush (v := 24) hx hb zd_Mod_findWorth_115 (by decide) ?_
  refine lv_icmp_ge (tgt := 140) hx hb zd_Mod_findWorth_117 (by decide) (fun c20 => ?_) (fun c20 => ?_)
  · have hf := zu_t c20 hf
    obtain ⟨v21, ev21, hf⟩ := zu_nx_e hf
    refine lv_iinc (v := v21) (lv' := [(3, .int v21), (0, .ref (ad 95)), (1, .int x1), (4, .int x4)]) hx hb zd_Mod_findWorth_140 hl (k := 2) rfl (by rw [ev21]; rfl) (by decide) rfl (fun ls hl => ?_)
    clear ev21
    refine lv_goto (tgt := 39) hx hb zd_Mod_findWorth_143 (by decide) ?_
    exact hk39 x1 v21 X Y _ _ _ hP hS (lv_sub hl [1, 2, 0] rfl) hf
  · have hf := zu_f c20 hf
    refine lv_aload_n hx hb zd_Mod_findWorth_120 rfl (lv_at hl 0 rfl) ?_
    refine zg_Mod_worth B hP rfl zq_872 zd_Mod_findWorth_121 ?_
    refine lv_iload hx hb zd_Mod_findWorth_124 (lv_at hl 3 rfl) ?_
    refine lv_aload_n hx hb zd_Mod_findWorth_126 rfl (lv_at hl 0 rfl) ?_
    refine zg_Mod_then B hP rfl zq_871 zd_Mod_findWorth_127 ?_
    refine lv_iload hx hb zd_Mod_findWorth_130 (lv_at hl 3 rfl) ?_
    obtain ⟨hg22, hf⟩ := zu_gd_e hf
    refine zr_lald rfl B hP rfl (by decide) rfl hg22 zd_Mod_findWorth_132 ?_
    obtain ⟨hg23, hf⟩ := zu_gd_e hf
    refine zr_last rfl B hP hS hf rfl (by decide) rfl hg23 zd_Mod_findWorth_133 (fun Y24 H locs hf hP hS => ?_)
    obtain ⟨v25, ev25, hf⟩ := zu_nx_e hf
    refine lv_iinc (v := v25) (lv' := [(4, .int v25), (0, .ref (ad 95)), (1, .int x1), (3, .int x3)]) hx hb zd_Mod_findWorth_134 hl (k := 3) rfl (by rw [ev25]; rfl) (by decide) rfl (fun ls hl => ?_)
    clear ev25
    refine lv_goto (tgt := 113) hx hb zd_Mod_findWorth_137 (by decide) ?_
    exact hk113 x1 x3 v25 X Y24 _ _ _ hP hS (lv_sub hl [1, 2, 3, 0] rfl) hf
theorem zl_Mod_findWorth_L113 {p : Program} {l : Launch} {e : Env} {s : State} {m : MethodId} {args : Array Value} {below : List Frame} {meth : Method} {c : Code} {D : va_G} {cA : Nat → ClassId} {ad : Nat → Nat} {A : Nat → Prop} (B : zu_B p s m args c zb_Mod_findWorth 9 "StonePostModel" D cA ad A) (hret : meth.sig.returnType = none) (hlk : meth.locks = false) {res : IX × LX} {k39 : Int32 → Int32 → IX → LX → Option (IX × LX)} (hk39 : ∀ (x1 : Int32) (x3 : Int32) (X : IX) (Y : LX) (H : Heap) (locs : List Loc) (ls : Array Slot), va_P D zu_cl (zu_pic cA ad X Y) H → va_S A s.heap H locs → lv_has ls 9 [(0, .ref (ad 95)), (1, .int x1), (3, .int x3)] → k39 x1 x3 X Y = some res → W p l e zR_Mod_findWorth s m args below meth c H locs 0 0 (MQ below (zu_Qv D cA ad A res.1 res.2) args s 0 0 A) (F0 m 39 ls [])) : ∀ (n : Nat) (x1 : Int32) (x3 : Int32) (x4 : Int32) (X : IX) (Y : LX) (H : Heap) (locs : List Loc) (ls : Array Slot), va_P D zu_cl (zu_pic cA ad X Y) H → va_S A s.heap H locs → lv_has ls 9 [(0, .ref (ad 95)), (1, .int x1), (3, .int x3), (4, .int x4)] → fn_Mod_findWorth_L113 k39 n x1 x3 x4 X Y = some res → W p l e zR_Mod_findWorth s m args below meth c H locs 0 0 (MQ below (zu_Qv D cA ad A res.1 res.2) args s 0 0 A) (F0 m 113 ls []) := by
  intro n
  induction n with
  | zero =>
    intro x1 x3 x4 X Y H locs ls hP hS hl hf
    exact (Option.some_ne_none _ hf.symm).elim
  | succ n ih =>
    intro x1 x3 x4 X Y H locs ls hP hS hl hf
    exact zl_Mod_findWorth_B113 B hret hlk hk39 ih x1 x3 x4 X Y H locs ls hP hS hl  hf
set_option maxHeartbeats 4000000 in
theorem zl_Mod_findWorth_L103 {p : Program} {l : Launch} {e : Env} {s : State} {m : MethodId} {args : Array Value} {below : List Frame} {meth : Method} {c : Code} {D : va_G} {cA : Nat → ClassId} {ad : Nat → Nat} {A : Nat → Prop} (B : zu_B p s m args c zb_Mod_findWorth 9 "StonePostModel" D cA ad A) (hret : meth.sig.returnType = none) (hlk : meth.locks = false) {res : IX × LX} {k39 : Int32 → Int32 → IX → LX → Option (IX × LX)} (hk39 : ∀ (x1 : Int32) (x3 : Int32) (X : IX) (Y : LX) (H : Heap) (locs : List Loc) (ls : Array Slot), va_P D zu_cl (zu_pic cA ad X Y) H → va_S A s.heap H locs → lv_has ls 9 [(0, .ref (ad 95)), (1, .int x1), (3, .int x3)] → k39 x1 x3 X Y = some res → W p l e zR_Mod_findWorth s m args below meth c H locs 0 0 (MQ below (zu_Qv D cA ad A res.1 res.2) args s 0 0 A) (F0 m 39 ls [])) {k47 : Int32 → Int32 → Int32 → IX → LX → Option (IX × LX)} (hk47 : ∀ (x1 : Int32) (x3 : Int32) (x4 : Int32) (X : IX) (Y : LX) (H : Heap) (locs : List Loc) (ls : Array Slot), va_P D zu_cl (zu_pic cA ad X Y) H → va_S A s.heap H locs → lv_has ls 9 [(0, .ref (ad 95)), (1, .int x1), (3, .int x3), (4, .int x4)] → k47 x1 x3 x4 X Y = some res → W p l e zR_Mod_findWorth s m args below meth c H locs 0 0 (MQ below (zu_Qv D cA ad A res.1 res.2) args s 0 0 A) (F0 m 47 ls [])) (x1 : Int32) (x3 : Int32) (x4 : Int32) (y0 : Int64) (y1 : Int32) (X : IX) (Y : LX) (H : Heap) (locs : List Loc) (ls : Array Slot) (hP : va_P D zu_cl (zu_pic cA ad X Y) H) (hS : va_S A s.heap H locs) (hl : lv_has ls 9 [(0, .ref (ad 95)), (1, .int x1), (3, .int x3), (4, .int x4)]) (hf : fn_Mod_findWorth_L103 k39 k47 x1 x3 x4 y0 y1 X Y = some res) : W p l e zR_Mod_findWorth s m args below meth c H locs 0 0 (MQ below (zu_Qv D cA ad A res.1 res.2) args s 0 0 A) (F0 m 103 ls [.long y0, .int y1, .ref (ad 101)]) := by
  obtain ⟨hx, hb, hml, hown, hts, hST⟩ := id B
  unfold fn_Mod_findWorth_L103 at hf
  obtain ⟨hg26, hf⟩ := zu_gd_e hf
  refine zr_last rfl B hP hS hf rfl (by decide) rfl hg26 zd_Mod_findWorth_103 (fun Y27 H locs hf hP hS => ?_)
  obtain ⟨v28, ev28, hf⟩ := zu_nx_e hf
  refine lv_iinc (v := v28) (lv' := [(4, .int v28), (0, .ref (ad 95)), (1, .int x1), (3, .int x3)]) hx hb zd_Mod_findWorth_104 hl (k := 3) rfl (by rw [ev28]; rfl) (by decide) rfl (fun ls hl => ?_)
  clear ev28
  refine lv_goto (tgt := 47) hx hb zd_Mod_findWorth_107 (by decide) ?_
  exact hk47 x1 x3 v28 X Y27 _ _ _ hP hS (lv_sub hl [1, 2, 3, 0] rfl) hf
set_option maxHeartbeats 4000000 in
theorem zl_Mod_findWorth_B47 {p : Program} {l : Launch} {e : Env} {s : State} {m : MethodId} {args : Array Value} {below : List Frame} {meth : Method} {c : Code} {D : va_G} {cA : Nat → ClassId} {ad : Nat → Nat} {A : Nat → Prop} (B : zu_B p s m args c zb_Mod_findWorth 9 "StonePostModel" D cA ad A) (hret : meth.sig.returnType = none) (hlk : meth.locks = false) {res : IX × LX} {k39 : Int32 → Int32 → IX → LX → Option (IX × LX)} (hk39 : ∀ (x1 : Int32) (x3 : Int32) (X : IX) (Y : LX) (H : Heap) (locs : List Loc) (ls : Array Slot), va_P D zu_cl (zu_pic cA ad X Y) H → va_S A s.heap H locs → lv_has ls 9 [(0, .ref (ad 95)), (1, .int x1), (3, .int x3)] → k39 x1 x3 X Y = some res → W p l e zR_Mod_findWorth s m args below meth c H locs 0 0 (MQ below (zu_Qv D cA ad A res.1 res.2) args s 0 0 A) (F0 m 39 ls [])) {k47 : Int32 → Int32 → Int32 → IX → LX → Option (IX × LX)} (hk47 : ∀ (x1 : Int32) (x3 : Int32) (x4 : Int32) (X : IX) (Y : LX) (H : Heap) (locs : List Loc) (ls : Array Slot), va_P D zu_cl (zu_pic cA ad X Y) H → va_S A s.heap H locs → lv_has ls 9 [(0, .ref (ad 95)), (1, .int x1), (3, .int x3), (4, .int x4)] → k47 x1 x3 x4 X Y = some res → W p l e zR_Mod_findWorth s m args below meth c H locs 0 0 (MQ below (zu_Qv D cA ad A res.1 res.2) args s 0 0 A) (F0 m 47 ls [])) (x1 : Int32) (x3 : Int32) (x4 : Int32) (X : IX) (Y : LX) (H : Heap) (locs : List Loc) (ls : Array Slot) (hP : va_P D zu_cl (zu_pic cA ad X Y) H) (hS : va_S A s.heap H locs) (hl : lv_has ls 9 [(0, .ref (ad 95)), (1, .int x1), (3, .int x3), (4, .int x4)]) (hf : fn_Mod_findWorth_B47 k39 k47 x1 x3 x4 X Y = some res) : W p l e zR_Mod_findWorth s m args below meth c H locs 0 0 (MQ below (zu_Qv D cA ad A res.1 res.2) args s 0 0 A) (F0 m 47 ls []) := by
  obtain ⟨hx, hb, hml, hown, hts, hST⟩ := id B
  unfold fn_Mod_findWorth_B47 at hf
  refine lv_iload hx hb zd_Mod_findWorth_47 (lv_at hl 3 rfl) ?_
  refine lv_bipush (v := 24) hx hb zd_Mod_findWorth_49 (by decide) ?_
  refine lv_icmp_ge (tgt := 110) hx hb zd_Mod_findWorth_51 (by decide) (fun c8 => ?_) (fun c8 => ?_)
  · have hf := zu_t c8 hf
    refine lv_iconst (v := 0) hx hb zd_Mod_findWorth_110 (by decide) ?_
    refine lv_istore (lv' := [(4, .int (0 : Int32)), (0, .ref (ad 95)), (1, .int x1), (3, .int x3)]) hx hb zd_Mod_findWorth_111 hl (by decide) rfl (fun ls hl => ?_)
    exact zl_Mod_findWorth_L113 B hret hlk hk39 400 x1 x3 (0 : Int32) X Y _ _ _ hP hS (lv_sub hl [1, 2, 3, 0] rfl) hf
  · have hf := zu_f c8 hf
    refine lv_aload_n hx hb zd_Mod_findWorth_54 rfl (lv_at hl 0 rfl) ?_
    refine lv_iload hx hb zd_Mod_findWorth_55 (lv_at hl 3 rfl) ?_
    refine lv_aload_n hx hb zd_Mod_findWorth_57 rfl (lv_at hl 0 rfl) ?_
    refine lv_iload_n hx hb zd_Mod_findWorth_58 rfl (lv_at hl 2 rfl) ?_
    obtain ⟨v9, ehq10, hf⟩ := zu_nx_e hf
    have hq10 := ehq10.symm
    refine zw_Mod_clockIn (rest := [.int x4, .ref (ad 95)]) B hP hS hq10 zq_1071 (Nat.le_of_ble_eq_true rfl) (Nat.le_of_ble_eq_true rfl) hl.1 rfl (Nat.le_of_ble_eq_true rfl) zd_Mod_findWorth_59 (by decide) (fun H locs hP hS => ?_)
    clear hq10 ehq10
    refine lv_iconst (v := 0) hx hb zd_Mod_findWorth_62 (by decide) ?_
    obtain ⟨v11, X12, hq13, hf⟩ := zu_b2_e hf
    refine zw_Mod_worthBy (rest := []) B hP hS hq13 zq_1148 (Nat.le_of_ble_eq_true rfl) (Nat.le_of_ble_eq_true rfl) hl.1 rfl (Nat.le_of_ble_eq_true rfl) zd_Mod_findWorth_63 (by decide) (fun H locs hP hS => ?_)
    clear hq13
    refine lv_lstore (lv' := [(5, .long v11), (0, .ref (ad 95)), (1, .int x1), (3, .int x3), (4, .int x4)]) hx hb zd_Mod_findWorth_66 hl (by decide) rfl (fun ls hl => ?_)
    refine lv_aload_n hx hb zd_Mod_findWorth_68 rfl (lv_at hl 1 rfl) ?_
    refine lv_iload hx hb zd_Mod_findWorth_69 (lv_at hl 4 rfl) ?_
    refine lv_aload_n hx hb zd_Mod_findWorth_71 rfl (lv_at hl 1 rfl) ?_
    refine lv_iload_n hx hb zd_Mod_findWorth_72 rfl (lv_at hl 3 rfl) ?_
    obtain ⟨v14, ehq15, hf⟩ := zu_nx_e hf
    have hq15 := ehq15.symm
    refine zw_Mod_clockIn (rest := [.int x4, .ref (ad 95)]) B hP hS hq15 zq_1071 (Nat.le_of_ble_eq_true rfl) (Nat.le_of_ble_eq_true rfl) hl.1 rfl (Nat.le_of_ble_eq_true rfl) zd_Mod_findWorth_73 (by decide) (fun H locs hP hS => ?_)
    clear hq15 ehq15
    refine lv_iconst (v := 1) hx hb zd_Mod_findWorth_76 (by decide) ?_
    obtain ⟨v16, X17, hq18, hf⟩ := zu_b2_e hf
    refine zw_Mod_worthBy (rest := []) B hP hS hq18 zq_1148 (Nat.le_of_ble_eq_true rfl) (Nat.le_of_ble_eq_true rfl) hl.1 rfl (Nat.le_of_ble_eq_true rfl) zd_Mod_findWorth_77 (by decide) (fun H locs hP hS => ?_)
    clear hq18
    refine lv_lstore (lv' := [(7, .long v16), (5, .long v11), (0, .ref (ad 95)), (1, .int x1), (3, .int x3), (4, .int x4)]) hx hb zd_Mod_findWorth_80 hl (by decide) rfl (fun ls hl => ?_)
    refine lv_aload_n hx hb zd_Mod_findWorth_82 rfl (lv_at hl 2 rfl) ?_
    refine zg_Mod_then B hP rfl zq_871 zd_Mod_findWorth_83 ?_
    refine lv_iload hx hb zd_Mod_findWorth_86 (lv_at hl 5 rfl) ?_
    refine lv_lload hx hb zd_Mod_findWorth_88 (lv_at hl 1 rfl) ?_
    refine lv_lload hx hb zd_Mod_findWorth_90 (lv_at hl 0 rfl) ?_
    refine W.lcmp hx hb zd_Mod_findWorth_92 ?_
    refine lv_if_ge (tgt := 101) hx hb zd_Mod_findWorth_93 (by decide) (fun c19 => ?_) (fun c19 => ?_)
    · have hf := zu_t c19 hf
      refine lv_lload hx hb zd_Mod_findWorth_101 (lv_at hl 1 rfl) ?_
      exact zl_Mod_findWorth_L103 B hret hlk hk39 hk47 x1 x3 x4 v11 x4 X17 Y _ _ _ hP hS (lv_sub hl [2, 3, 4, 5] rfl) hf
    · have hf := zu_f c19 hf
      refine lv_lload hx hb zd_Mod_findWorth_96 (lv_at hl 0 rfl) ?_
      refine lv_goto (tgt := 103) hx hb zd_Mod_findWorth_98 (by decide) ?_
      exact zl_Mod_findWorth_L103 B hret hlk hk39 hk47 x1 x3 x4 v16 x4 X17 Y _ _ _ hP hS (lv_sub hl [2, 3, 4, 5] rfl) hf
theorem zl_Mod_findWorth_L47 {p : Program} {l : Launch} {e : Env} {s : State} {m : MethodId} {args : Array Value} {below : List Frame} {meth : Method} {c : Code} {D : va_G} {cA : Nat → ClassId} {ad : Nat → Nat} {A : Nat → Prop} (B : zu_B p s m args c zb_Mod_findWorth 9 "StonePostModel" D cA ad A) (hret : meth.sig.returnType = none) (hlk : meth.locks = false) {res : IX × LX} {k39 : Int32 → Int32 → IX → LX → Option (IX × LX)} (hk39 : ∀ (x1 : Int32) (x3 : Int32) (X : IX) (Y : LX) (H : Heap) (locs : List Loc) (ls : Array Slot), va_P D zu_cl (zu_pic cA ad X Y) H → va_S A s.heap H locs → lv_has ls 9 [(0, .ref (ad 95)), (1, .int x1), (3, .int x3)] → k39 x1 x3 X Y = some res → W p l e zR_Mod_findWorth s m args below meth c H locs 0 0 (MQ below (zu_Qv D cA ad A res.1 res.2) args s 0 0 A) (F0 m 39 ls [])) : ∀ (n : Nat) (x1 : Int32) (x3 : Int32) (x4 : Int32) (X : IX) (Y : LX) (H : Heap) (locs : List Loc) (ls : Array Slot), va_P D zu_cl (zu_pic cA ad X Y) H → va_S A s.heap H locs → lv_has ls 9 [(0, .ref (ad 95)), (1, .int x1), (3, .int x3), (4, .int x4)] → fn_Mod_findWorth_L47 k39 n x1 x3 x4 X Y = some res → W p l e zR_Mod_findWorth s m args below meth c H locs 0 0 (MQ below (zu_Qv D cA ad A res.1 res.2) args s 0 0 A) (F0 m 47 ls []) := by
  intro n
  induction n with
  | zero =>
    intro x1 x3 x4 X Y H locs ls hP hS hl hf
    exact (Option.some_ne_none _ hf.symm).elim
  | succ n ih =>
    intro x1 x3 x4 X Y H locs ls hP hS hl hf
    exact zl_Mod_findWorth_B47 B hret hlk hk39 ih x1 x3 x4 X Y H locs ls hP hS hl  hf
set_option maxHeartbeats 4000000 in
theorem zl_Mod_findWorth_B39 {p : Program} {l : Launch} {e : Env} {s : State} {m : MethodId} {args : Array Value} {below : List Frame} {meth : Method} {c : Code} {D : va_G} {cA : Nat → ClassId} {ad : Nat → Nat} {A : Nat → Prop} (B : zu_B p s m args c zb_Mod_findWorth 9 "StonePostModel" D cA ad A) (hret : meth.sig.returnType = none) (hlk : meth.locks = false) {res : IX × LX} {k39 : Int32 → Int32 → IX → LX → Option (IX × LX)} (hk39 : ∀ (x1 : Int32) (x3 : Int32) (X : IX) (Y : LX) (H : Heap) (locs : List Loc) (ls : Array Slot), va_P D zu_cl (zu_pic cA ad X Y) H → va_S A s.heap H locs → lv_has ls 9 [(0, .ref (ad 95)), (1, .int x1), (3, .int x3)] → k39 x1 x3 X Y = some res → W p l e zR_Mod_findWorth s m args below meth c H locs 0 0 (MQ below (zu_Qv D cA ad A res.1 res.2) args s 0 0 A) (F0 m 39 ls [])) (x1 : Int32) (x3 : Int32) (X : IX) (Y : LX) (H : Heap) (locs : List Loc) (ls : Array Slot) (hP : va_P D zu_cl (zu_pic cA ad X Y) H) (hS : va_S A s.heap H locs) (hl : lv_has ls 9 [(0, .ref (ad 95)), (1, .int x1), (3, .int x3)]) (hf : fn_Mod_findWorth_B39 k39 x1 x3 X Y = some res) : W p l e zR_Mod_findWorth s m args below meth c H locs 0 0 (MQ below (zu_Qv D cA ad A res.1 res.2) args s 0 0 A) (F0 m 39 ls []) := by
  obtain ⟨hx, hb, hml, hown, hts, hST⟩ := id B
  unfold fn_Mod_findWorth_B39 at hf
  refine lv_iload_n hx hb zd_Mod_findWorth_39 rfl (lv_at hl 2 rfl) ?_
  refine lv_iload_n hx hb zd_Mod_findWorth_40 rfl (lv_at hl 1 rfl) ?_
  refine lv_icmp_lt (tgt := 146) hx hb zd_Mod_findWorth_41 (by decide) (fun c4 => ?_) (fun c4 => ?_)
  · have hf := zu_t c4 hf
    obtain rfl := Option.some.inj hf
    exact zr_vret hx hb hret hlk hP hS zd_Mod_findWorth_146
  · have hf := zu_f c4 hf
    refine lv_iconst (v := 0) hx hb zd_Mod_findWorth_44 (by decide) ?_
    refine lv_istore (lv' := [(4, .int (0 : Int32)), (0, .ref (ad 95)), (1, .int x1), (3, .int x3)]) hx hb zd_Mod_findWorth_45 hl (by decide) rfl (fun ls hl => ?_)
    exact zl_Mod_findWorth_L47 B hret hlk hk39 400 x1 x3 (0 : Int32) X Y _ _ _ hP hS (lv_sub hl [1, 2, 3, 0] rfl) hf
theorem zl_Mod_findWorth_L39 {p : Program} {l : Launch} {e : Env} {s : State} {m : MethodId} {args : Array Value} {below : List Frame} {meth : Method} {c : Code} {D : va_G} {cA : Nat → ClassId} {ad : Nat → Nat} {A : Nat → Prop} (B : zu_B p s m args c zb_Mod_findWorth 9 "StonePostModel" D cA ad A) (hret : meth.sig.returnType = none) (hlk : meth.locks = false) {res : IX × LX} : ∀ (n : Nat) (x1 : Int32) (x3 : Int32) (X : IX) (Y : LX) (H : Heap) (locs : List Loc) (ls : Array Slot), va_P D zu_cl (zu_pic cA ad X Y) H → va_S A s.heap H locs → lv_has ls 9 [(0, .ref (ad 95)), (1, .int x1), (3, .int x3)] → fn_Mod_findWorth_L39 n x1 x3 X Y = some res → W p l e zR_Mod_findWorth s m args below meth c H locs 0 0 (MQ below (zu_Qv D cA ad A res.1 res.2) args s 0 0 A) (F0 m 39 ls []) := by
  intro n
  induction n with
  | zero =>
    intro x1 x3 X Y H locs ls hP hS hl hf
    exact (Option.some_ne_none _ hf.symm).elim
  | succ n ih =>
    intro x1 x3 X Y H locs ls hP hS hl hf
    exact zl_Mod_findWorth_B39 B hret hlk ih x1 x3 X Y H locs ls hP hS hl  hf
set_option maxHeartbeats 4000000 in
theorem zl_Mod_findWorth_L28 {p : Program} {l : Launch} {e : Env} {s : State} {m : MethodId} {args : Array Value} {below : List Frame} {meth : Method} {c : Code} {D : va_G} {cA : Nat → ClassId} {ad : Nat → Nat} {A : Nat → Prop} (B : zu_B p s m args c zb_Mod_findWorth 9 "StonePostModel" D cA ad A) (hret : meth.sig.returnType = none) (hlk : meth.locks = false) {res : IX × LX} {k2 : Int32 → Int32 → Int32 → IX → LX → Option (IX × LX)} (hk2 : ∀ (x1 : Int32) (x2 : Int32) (x3 : Int32) (X : IX) (Y : LX) (H : Heap) (locs : List Loc) (ls : Array Slot), va_P D zu_cl (zu_pic cA ad X Y) H → va_S A s.heap H locs → lv_has ls 9 [(0, .ref (ad 95)), (1, .int x1), (2, .int x2), (3, .int x3)] → k2 x1 x2 x3 X Y = some res → W p l e zR_Mod_findWorth s m args below meth c H locs 0 0 (MQ below (zu_Qv D cA ad A res.1 res.2) args s 0 0 A) (F0 m 2 ls [])) (x1 : Int32) (x2 : Int32) (x3 : Int32) (y0 : Int64) (y1 : Int32) (X : IX) (Y : LX) (H : Heap) (locs : List Loc) (ls : Array Slot) (hP : va_P D zu_cl (zu_pic cA ad X Y) H) (hS : va_S A s.heap H locs) (hl : lv_has ls 9 [(0, .ref (ad 95)), (1, .int x1), (2, .int x2), (3, .int x3)]) (hf : fn_Mod_findWorth_L28 k2 x1 x2 x3 y0 y1 X Y = some res) : W p l e zR_Mod_findWorth s m args below meth c H locs 0 0 (MQ below (zu_Qv D cA ad A res.1 res.2) args s 0 0 A) (F0 m 28 ls [.long y0, .int y1, .ref (ad 102)]) := by
  obtain ⟨hx, hb, hml, hown, hts, hST⟩ := id B
  unfold fn_Mod_findWorth_L28 at hf
  obtain ⟨hg5, hf⟩ := zu_gd_e hf
  refine zr_last rfl B hP hS hf rfl (by decide) rfl hg5 zd_Mod_findWorth_28 (fun Y6 H locs hf hP hS => ?_)
  obtain ⟨v7, ev7, hf⟩ := zu_nx_e hf
  refine lv_iinc (v := v7) (lv' := [(3, .int v7), (0, .ref (ad 95)), (1, .int x1), (2, .int x2)]) hx hb zd_Mod_findWorth_29 hl (k := 3) rfl (by rw [ev7]; rfl) (by decide) rfl (fun ls hl => ?_)
  clear ev7
  refine lv_goto (tgt := 2) hx hb zd_Mod_findWorth_32 (by decide) ?_
  exact hk2 x1 x2 v7 X Y6 _ _ _ hP hS (lv_sub hl [1, 2, 3, 0] rfl) hf
set_option maxHeartbeats 4000000 in
theorem zl_Mod_findWorth_B2 {p : Program} {l : Launch} {e : Env} {s : State} {m : MethodId} {args : Array Value} {below : List Frame} {meth : Method} {c : Code} {D : va_G} {cA : Nat → ClassId} {ad : Nat → Nat} {A : Nat → Prop} (B : zu_B p s m args c zb_Mod_findWorth 9 "StonePostModel" D cA ad A) (hret : meth.sig.returnType = none) (hlk : meth.locks = false) {res : IX × LX} {k2 : Int32 → Int32 → Int32 → IX → LX → Option (IX × LX)} (hk2 : ∀ (x1 : Int32) (x2 : Int32) (x3 : Int32) (X : IX) (Y : LX) (H : Heap) (locs : List Loc) (ls : Array Slot), va_P D zu_cl (zu_pic cA ad X Y) H → va_S A s.heap H locs → lv_has ls 9 [(0, .ref (ad 95)), (1, .int x1), (2, .int x2), (3, .int x3)] → k2 x1 x2 x3 X Y = some res → W p l e zR_Mod_findWorth s m args below meth c H locs 0 0 (MQ below (zu_Qv D cA ad A res.1 res.2) args s 0 0 A) (F0 m 2 ls [])) (x1 : Int32) (x2 : Int32) (x3 : Int32) (X : IX) (Y : LX) (H : Heap) (locs : List Loc) (ls : Array Slot) (hP : va_P D zu_cl (zu_pic cA ad X Y) H) (hS : va_S A s.heap H locs) (hl : lv_has ls 9 [(0, .ref (ad 95)), (1, .int x1), (2, .int x2), (3, .int x3)]) (hf : fn_Mod_findWorth_B2 k2 x1 x2 x3 X Y = some res) : W p l e zR_Mod_findWorth s m args below meth c H locs 0 0 (MQ below (zu_Qv D cA ad A res.1 res.2) args s 0 0 A) (F0 m 2 ls []) := by
  obtain ⟨hx, hb, hml, hown, hts, hST⟩ := id B
  unfold fn_Mod_findWorth_B2 at hf
  refine lv_iload_n hx hb zd_Mod_findWorth_2 rfl (lv_at hl 3 rfl) ?_
  refine lv_bipush (v := 24) hx hb zd_Mod_findWorth_3 (by decide) ?_
  refine lv_icmp_ge (tgt := 35) hx hb zd_Mod_findWorth_5 (by decide) (fun c1 => ?_) (fun c1 => ?_)
  · have hf := zu_t c1 hf
    refine lv_iload_n hx hb zd_Mod_findWorth_35 rfl (lv_at hl 2 rfl) ?_
    refine lv_iconst (v := 1) hx hb zd_Mod_findWorth_36 (by decide) ?_
    refine lv_isub hx hb zd_Mod_findWorth_37 ?_
    refine zr_nxi hf (fun v2 hf => ?_)
    refine lv_istore_n (lv' := [(3, .int v2), (0, .ref (ad 95)), (1, .int x1), (2, .int x2)]) hx hb zd_Mod_findWorth_38 rfl hl (by decide) rfl (fun ls hl => ?_)
    exact zl_Mod_findWorth_L39 B hret hlk 400 x1 v2 X Y _ _ _ hP hS (lv_sub hl [1, 2, 0] rfl) hf
  · have hf := zu_f c1 hf
    refine lv_aload_n hx hb zd_Mod_findWorth_8 rfl (lv_at hl 0 rfl) ?_
    refine zg_Mod_worth B hP rfl zq_872 zd_Mod_findWorth_9 ?_
    refine lv_iload_n hx hb zd_Mod_findWorth_12 rfl (lv_at hl 3 rfl) ?_
    refine lv_iload_n hx hb zd_Mod_findWorth_13 rfl (lv_at hl 3 rfl) ?_
    refine lv_aload_n hx hb zd_Mod_findWorth_14 rfl (lv_at hl 0 rfl) ?_
    refine zg_Mod_s B hP rfl zq_861 zd_Mod_findWorth_15 ?_
    refine lv_iconst (v := 3) hx hb zd_Mod_findWorth_18 (by decide) ?_
    refine zr_iald (j := 3) (by decide) B hP rfl (by decide) rfl (by decide) zd_Mod_findWorth_19 ?_
    refine lv_icmp_ne (tgt := 27) hx hb zd_Mod_findWorth_20 (by decide) (fun c3 => ?_) (fun c3 => ?_)
    · have hf := zu_f c3 hf
      refine lv_lconst (v := 0) hx hb zd_Mod_findWorth_27 (by decide) ?_
      exact zl_Mod_findWorth_L28 B hret hlk hk2 x1 x2 x3 (0 : Int64) x3 X Y _ _ _ hP hS (lv_sub hl [0, 1, 2, 3] rfl) hf
    · have hf := zu_t c3 hf
      refine lv_lconst (v := 1) hx hb zd_Mod_findWorth_23 (by decide) ?_
      refine lv_goto (tgt := 28) hx hb zd_Mod_findWorth_24 (by decide) ?_
      exact zl_Mod_findWorth_L28 B hret hlk hk2 x1 x2 x3 (1 : Int64) x3 X Y _ _ _ hP hS (lv_sub hl [0, 1, 2, 3] rfl) hf
theorem zl_Mod_findWorth_L2 {p : Program} {l : Launch} {e : Env} {s : State} {m : MethodId} {args : Array Value} {below : List Frame} {meth : Method} {c : Code} {D : va_G} {cA : Nat → ClassId} {ad : Nat → Nat} {A : Nat → Prop} (B : zu_B p s m args c zb_Mod_findWorth 9 "StonePostModel" D cA ad A) (hret : meth.sig.returnType = none) (hlk : meth.locks = false) {res : IX × LX} : ∀ (n : Nat) (x1 : Int32) (x2 : Int32) (x3 : Int32) (X : IX) (Y : LX) (H : Heap) (locs : List Loc) (ls : Array Slot), va_P D zu_cl (zu_pic cA ad X Y) H → va_S A s.heap H locs → lv_has ls 9 [(0, .ref (ad 95)), (1, .int x1), (2, .int x2), (3, .int x3)] → fn_Mod_findWorth_L2 n x1 x2 x3 X Y = some res → W p l e zR_Mod_findWorth s m args below meth c H locs 0 0 (MQ below (zu_Qv D cA ad A res.1 res.2) args s 0 0 A) (F0 m 2 ls []) := by
  intro n
  induction n with
  | zero =>
    intro x1 x2 x3 X Y H locs ls hP hS hl hf
    exact (Option.some_ne_none _ hf.symm).elim
  | succ n ih =>
    intro x1 x2 x3 X Y H locs ls hP hS hl hf
    exact zl_Mod_findWorth_B2 B hret hlk ih x1 x2 x3 X Y H locs ls hP hS hl  hf
set_option maxHeartbeats 4000000 in
theorem zl_Mod_findWorth {p : Program} {l : Launch} {e : Env} {s : State} {m : MethodId} {args : Array Value} {below : List Frame} {meth : Method} {c : Code} {D : va_G} {cA : Nat → ClassId} {ad : Nat → Nat} {A : Nat → Prop} (B : zu_B p s m args c zb_Mod_findWorth 9 "StonePostModel" D cA ad A) (hret : meth.sig.returnType = none) (hlk : meth.locks = false) {res : IX × LX} {a1 : Int32} {a2 : Int32} {X : IX} {Y : LX} (H : Heap) (locs : List Loc) (ls : Array Slot) (hP : va_P D zu_cl (zu_pic cA ad X Y) H) (hS : va_S A s.heap H locs) (hl : lv_has ls 9 [(0, .ref (ad 95)), (1, .int a1), (2, .int a2)]) (hf : fn_Mod_findWorth a1 a2 X Y = some res) : W p l e zR_Mod_findWorth s m args below meth c H locs 0 0 (MQ below (zu_Qv D cA ad A res.1 res.2) args s 0 0 A) (F0 m 0 ls []) := by
  obtain ⟨hx, hb, hml, hown, hts, hST⟩ := id B
  unfold fn_Mod_findWorth at hf
  refine lv_iconst (v := 0) hx hb zd_Mod_findWorth_0 (by decide) ?_
  refine lv_istore_n (lv' := [(3, .int (0 : Int32)), (0, .ref (ad 95)), (1, .int a1), (2, .int a2)]) hx hb zd_Mod_findWorth_1 rfl hl (by decide) rfl (fun ls hl => ?_)
  exact zl_Mod_findWorth_L2 B hret hlk 400 a1 a2 (0 : Int32) X Y _ _ _ hP hS (lv_sub hl [1, 2, 3, 0] rfl) hf
theorem zC_Mod_findWorth (l : Launch) {D : va_G} {cA : Nat → ClassId} {ad : Nat → Nat} {A : Nat → Prop} {a1 : Int32} {a2 : Int32} {X : IX} {Y : LX} {res : IX × LX} (hf : fn_Mod_findWorth a1 a2 X Y = some res) : Met l zm_Mod_findWorth (zu_ws zm_Mod_findWorth zb_Mod_findWorth 9 none) zR_Mod_findWorth (va_Pc [.ref (ad 95), .int a1, .int a2] (zu_Pre D cA ad A X Y)) (zu_Qv D cA ad A res.1 res.2) 0 0 A := by
  refine Met.ofW (cc := zb_Mod_findWorth) (maxL := 9) (ret := none) (by decide +kernel) rfl ?_
  intro p e s m args below meth c s₁ B0 hml hv
  obtain ⟨rfl, hP, hST⟩ := hv
  have B : zu_B p s m _ c zb_Mod_findWorth 9 "StonePostModel" D cA ad A := ⟨B0.exec, B0.bytes, hml, findClass_of_methodNamed B0.named, (fun w hw => atoms_spec (ws := zu_ws zm_Mod_findWorth zb_Mod_findWorth 9 none) B0.pre w (List.mem_cons_of_mem _ hw)), hST⟩
  have hl := lv_entry ([.ref (ad 95), .int a1, .int a2]) (n := 9) (Nat.le_of_ble_eq_true rfl)
  rw [lg_entry_eq]
  generalize (lg_sl ([.ref (ad 95), .int a1, .int a2]) ++ List.replicate (9 - (lg_sl ([.ref (ad 95), .int a1, .int a2])).length) Slot.unset).toArray = ls at hl ⊢
  exact zl_Mod_findWorth B B0.returns B0.notSynchronized s.heap [] ls hP va_S.rf hl  hf
theorem zw_Mod_findWorth {p : Program} {l : Launch} {e : Env} {R : Room} {s : State} {m : MethodId} {args : Array Value} {below : List Frame} {meth : Method} {c : Code} {H : Heap} {locs : List Loc} {cells slots : Nat} {Q : State → Prop} {cc : ByteArray} {pc nL : Nat} {ls : Array Slot} {rest st0 : List Value} {D : va_G} {cA : Nat → ClassId} {ad : Nat → Nat} {A : Nat → Prop} {X : IX} {Y : LX} {own : String} {index : Nat} {a1 : Int32} {a2 : Int32} {X1 : IX} {Y1 : LX} (B : zu_B p s m args c cc nL own D cA ad A) (hP : va_P D zu_cl (zu_pic cA ad X Y) H) (hS : va_S A s.heap H locs) (hq : fn_Mod_findWorth a1 a2 X Y = some (X1, Y1)) (m1 : Cond.methodLink own index zm_Mod_findWorth ∈ zu_TB) (hR1 : 6 + 1 ≤ R.frames) (hR2 : 8 + (9 + 11) + 142 ≤ R.locals) (hsz : ls.size = nL) (hst : st0 = .int a2 :: .int a1 :: .ref (ad 95) :: rest) (hw : (rest.map fun v => v.category).sum ≤ 8) (hdg : decode cc pc = .ok (.invokevirtual index, 3)) (h00 : cells ≤ R.cells ∧ slots ≤ R.slots) (kk : ∀ (H1 : Heap) (locs1 : List Loc), va_P D zu_cl (zu_pic cA ad X1 Y1) H1 → va_S A s.heap H1 locs1 → W p l e R s m args below meth c H1 locs1 cells slots Q (F0 m (pc + 3) ls (rest))) : W p l e R s m args below meth c H locs cells slots Q (F0 m pc ls st0) := by
  subst hst
  exact zr_cVv (As := [.int a1, .int a2]) (rest := rest) (n := 2) (C := "StonePostModel") (T := zt_Mod) (N := 23) B hP hS (zC_Mod_findWorth l  hq) (K := 7) rfl (by decide) (by decide) rfl rfl m1 zq_1146 zqP_42 zq_8 zq_1147 (by decide +kernel) ⟨hR1, hR2⟩ rfl rfl rfl hsz rfl hw hdg h00 kk
abbrev zR_Mod_best : Room := { frames := 7, cells := 0, slots := 0, locals := 170 }
theorem zd_Mod_best_0 : decode zb_Mod_best 0 = .ok (.iload_n 1, 1) := by decide +kernel
theorem zd_Mod_best_1 : decode zb_Mod_best 1 = .ok (.iload_n 2, 1) := by decide +kernel
theorem zd_Mod_best_2 : decode zb_Mod_best 2 = .ok (.bipush 15, 2) := by decide +kernel
theorem zd_Mod_best_4 : decode zb_Mod_best 4 = .ok (.invokestatic 172, 3) := by decide +kernel
theorem zd_Mod_best_7 : decode zb_Mod_best 7 = .ok (.ifCond .ne 11, 3) := by decide +kernel
theorem zd_Mod_best_10 : decode zb_Mod_best 10 = .ok (.aload_n 0, 1) := by decide +kernel
theorem zd_Mod_best_11 : decode zb_Mod_best 11 = .ok (.ldc 50, 2) := by decide +kernel
theorem zd_Mod_best_13 : decode zb_Mod_best 13 = .ok (.invokevirtual 64, 3) := by decide +kernel
theorem zd_Mod_best_16 : decode zb_Mod_best 16 = .ok (.i2l, 1) := by decide +kernel
theorem zd_Mod_best_17 : decode zb_Mod_best 17 = .ok (.lreturn, 1) := by decide +kernel
theorem zd_Mod_best_18 : decode zb_Mod_best 18 = .ok (.aload_n 0, 1) := by decide +kernel
theorem zd_Mod_best_19 : decode zb_Mod_best 19 = .ok (.iconst 0, 1) := by decide +kernel
theorem zd_Mod_best_20 : decode zb_Mod_best 20 = .ok (.iload_n 2, 1) := by decide +kernel
theorem zd_Mod_best_21 : decode zb_Mod_best 21 = .ok (.invokevirtual 196, 3) := by decide +kernel
theorem zd_Mod_best_24 : decode zb_Mod_best 24 = .ok (.aload_n 0, 1) := by decide +kernel
theorem zd_Mod_best_25 : decode zb_Mod_best 25 = .ok (.getfield 29, 3) := by decide +kernel
theorem zd_Mod_best_28 : decode zb_Mod_best 28 = .ok (.iload_n 1, 1) := by decide +kernel
theorem zd_Mod_best_29 : decode zb_Mod_best 29 = .ok (.laload, 1) := by decide +kernel
theorem zd_Mod_best_30 : decode zb_Mod_best 30 = .ok (.lreturn, 1) := by decide +kernel
set_option maxHeartbeats 4000000 in
theorem zl_Mod_best {p : Program} {l : Launch} {e : Env} {s : State} {m : MethodId} {args : Array Value} {below : List Frame} {meth : Method} {c : Code} {D : va_G} {cA : Nat → ClassId} {ad : Nat → Nat} {A : Nat → Prop} (B : zu_B p s m args c zb_Mod_best 3 "StonePostModel" D cA ad A) (hret : meth.sig.returnType = (some .long)) (hlk : meth.locks = false) {res : Int64 × IX × LX} {a1 : Int32} {a2 : Int32} {X : IX} {Y : LX} (H : Heap) (locs : List Loc) (ls : Array Slot) (hP : va_P D zu_cl (zu_pic cA ad X Y) H) (hS : va_S A s.heap H locs) (hl : lv_has ls 3 [(0, .ref (ad 95)), (1, .int a1), (2, .int a2)]) (hf : fn_Mod_best a1 a2 X Y = some res) : W p l e zR_Mod_best s m args below meth c H locs 0 0 (MQ below (zu_Ql D cA ad A res.1 res.2.1 res.2.2) args s 0 0 A) (F0 m 0 ls []) := by
  obtain ⟨hx, hb, hml, hown, hts, hST⟩ := id B
  unfold fn_Mod_best at hf
  refine lv_iload_n hx hb zd_Mod_best_0 rfl (lv_at hl 1 rfl) ?_
  refine lv_iload_n hx hb zd_Mod_best_1 rfl (lv_at hl 2 rfl) ?_
  refine lv_bipush (v := 15) hx hb zd_Mod_best_2 (by decide) ?_
  obtain ⟨v1, hq2, hf⟩ := zu_b1_e hf
  refine zw_Mod_isOdds (rest := []) B hP hS hq2 zq_1094 (Nat.le_of_ble_eq_true rfl) (Nat.le_of_ble_eq_true rfl) hl.1 rfl (Nat.le_of_ble_eq_true rfl) zd_Mod_best_4 (by decide) (fun H locs hP hS => ?_)
  clear hq2
  refine lv_if_ne (tgt := 18) hx hb zd_Mod_best_7 (by decide) (fun c3 => ?_) (fun c3 => ?_)
  · have hf := zu_f c3 hf
    refine lv_aload_n hx hb zd_Mod_best_18 rfl (lv_at hl 0 rfl) ?_
    refine lv_iconst (v := 0) hx hb zd_Mod_best_19 (by decide) ?_
    refine lv_iload_n hx hb zd_Mod_best_20 rfl (lv_at hl 2 rfl) ?_
    obtain ⟨X4, Y5, hq6, hf⟩ := zu_b2_e hf
    refine zw_Mod_findWorth (rest := []) B hP hS hq6 zq_1144 (Nat.le_of_ble_eq_true rfl) (Nat.le_of_ble_eq_true rfl) hl.1 rfl (Nat.le_of_ble_eq_true rfl) zd_Mod_best_21 (by decide) (fun H locs hP hS => ?_)
    clear hq6
    refine lv_aload_n hx hb zd_Mod_best_24 rfl (lv_at hl 0 rfl) ?_
    refine zg_Mod_worth B hP rfl zq_872 zd_Mod_best_25 ?_
    refine lv_iload_n hx hb zd_Mod_best_28 rfl (lv_at hl 1 rfl) ?_
    obtain ⟨hg7, hf⟩ := zu_gd_e hf
    refine zr_lald rfl B hP rfl (by decide) rfl hg7 zd_Mod_best_29 ?_
    obtain rfl := Option.some.inj hf
    exact zr_lret hx hb hret hlk hP hS zd_Mod_best_30
  · have hf := zu_t c3 hf
    refine lv_aload_n hx hb zd_Mod_best_10 rfl (lv_at hl 0 rfl) ?_
    refine lv_ldc (v := -1000001) hx hb hown (hts _ zq_943) zd_Mod_best_11 ?_
    obtain ⟨v8, X9, hq10, hf⟩ := zu_b2_e hf
    refine zw_Mod_finds (rest := []) B hP hS hq10 zq_944 (Nat.le_of_ble_eq_true rfl) (Nat.le_of_ble_eq_true rfl) hl.1 rfl (Nat.le_of_ble_eq_true rfl) zd_Mod_best_13 (by decide) (fun H locs hP hS => ?_)
    clear hq10
    refine lv_i2l hx hb zd_Mod_best_16 rfl ?_
    obtain rfl := Option.some.inj hf
    exact zr_lret hx hb hret hlk hP hS zd_Mod_best_17
theorem zC_Mod_best (l : Launch) {D : va_G} {cA : Nat → ClassId} {ad : Nat → Nat} {A : Nat → Prop} {a1 : Int32} {a2 : Int32} {X : IX} {Y : LX} {res : Int64 × IX × LX} (hf : fn_Mod_best a1 a2 X Y = some res) : Met l zm_Mod_best (zu_ws zm_Mod_best zb_Mod_best 3 (some .long)) zR_Mod_best (va_Pc [.ref (ad 95), .int a1, .int a2] (zu_Pre D cA ad A X Y)) (zu_Ql D cA ad A res.1 res.2.1 res.2.2) 0 0 A := by
  refine Met.ofW (cc := zb_Mod_best) (maxL := 3) (ret := (some .long)) (by decide +kernel) rfl ?_
  intro p e s m args below meth c s₁ B0 hml hv
  obtain ⟨rfl, hP, hST⟩ := hv
  have B : zu_B p s m _ c zb_Mod_best 3 "StonePostModel" D cA ad A := ⟨B0.exec, B0.bytes, hml, findClass_of_methodNamed B0.named, (fun w hw => atoms_spec (ws := zu_ws zm_Mod_best zb_Mod_best 3 (some .long)) B0.pre w (List.mem_cons_of_mem _ hw)), hST⟩
  have hl := lv_entry ([.ref (ad 95), .int a1, .int a2]) (n := 3) (Nat.le_of_ble_eq_true rfl)
  rw [lg_entry_eq]
  generalize (lg_sl ([.ref (ad 95), .int a1, .int a2]) ++ List.replicate (3 - (lg_sl ([.ref (ad 95), .int a1, .int a2])).length) Slot.unset).toArray = ls at hl ⊢
  exact zl_Mod_best B B0.returns B0.notSynchronized s.heap [] ls hP va_S.rf hl  hf
theorem zw_Mod_best {p : Program} {l : Launch} {e : Env} {R : Room} {s : State} {m : MethodId} {args : Array Value} {below : List Frame} {meth : Method} {c : Code} {H : Heap} {locs : List Loc} {cells slots : Nat} {Q : State → Prop} {cc : ByteArray} {pc nL : Nat} {ls : Array Slot} {rest st0 : List Value} {D : va_G} {cA : Nat → ClassId} {ad : Nat → Nat} {A : Nat → Prop} {X : IX} {Y : LX} {own : String} {index : Nat} {a1 : Int32} {a2 : Int32} {v1 : Int64} {X1 : IX} {Y1 : LX} (B : zu_B p s m args c cc nL own D cA ad A) (hP : va_P D zu_cl (zu_pic cA ad X Y) H) (hS : va_S A s.heap H locs) (hq : fn_Mod_best a1 a2 X Y = some (v1, X1, Y1)) (m1 : Cond.methodLink own index zm_Mod_best ∈ zu_TB) (hR1 : 7 + 1 ≤ R.frames) (hR2 : 8 + (3 + 11) + 170 ≤ R.locals) (hsz : ls.size = nL) (hst : st0 = .int a2 :: .int a1 :: .ref (ad 95) :: rest) (hw : (rest.map fun v => v.category).sum ≤ 8) (hdg : decode cc pc = .ok (.invokevirtual index, 3)) (h00 : cells ≤ R.cells ∧ slots ≤ R.slots) (kk : ∀ (H1 : Heap) (locs1 : List Loc), va_P D zu_cl (zu_pic cA ad X1 Y1) H1 → va_S A s.heap H1 locs1 → W p l e R s m args below meth c H1 locs1 cells slots Q (F0 m (pc + 3) ls (.long v1 :: rest))) : W p l e R s m args below meth c H locs cells slots Q (F0 m pc ls st0) := by
  subst hst
  exact zr_cVl (As := [.int a1, .int a2]) (rest := rest) (n := 2) (C := "StonePostModel") (T := zt_Mod) (N := 23) B hP hS (zC_Mod_best l  hq) (K := 7) rfl (by decide) (by decide) rfl rfl m1 zq_1141 zq_1142 zq_8 zq_1143 (by decide +kernel) ⟨hR1, hR2⟩ rfl rfl rfl hsz rfl hw hdg h00 kk
abbrev zR_Mod_choose : Room := { frames := 7, cells := 0, slots := 0, locals := 170 }
theorem zd_Mod_choose_0 : decode zb_Mod_choose 0 = .ok (.aload_n 0, 1) := by decide +kernel
theorem zd_Mod_choose_1 : decode zb_Mod_choose 1 = .ok (.iload_n 1, 1) := by decide +kernel
theorem zd_Mod_choose_2 : decode zb_Mod_choose 2 = .ok (.invokevirtual 87, 3) := by decide +kernel
theorem zd_Mod_choose_5 : decode zb_Mod_choose 5 = .ok (.ifCond .eq 15, 3) := by decide +kernel
theorem zd_Mod_choose_8 : decode zb_Mod_choose 8 = .ok (.iload_n 2, 1) := by decide +kernel
theorem zd_Mod_choose_9 : decode zb_Mod_choose 9 = .ok (.i2l, 1) := by decide +kernel
theorem zd_Mod_choose_10 : decode zb_Mod_choose 10 = .ok (.lconst 1, 1) := by decide +kernel
theorem zd_Mod_choose_11 : decode zb_Mod_choose 11 = .ok (.ldc2_w 199, 3) := by decide +kernel
theorem zd_Mod_choose_14 : decode zb_Mod_choose 14 = .ok (.invokestatic 53, 3) := by decide +kernel
theorem zd_Mod_choose_17 : decode zb_Mod_choose 17 = .ok (.ifCond .ne 10, 3) := by decide +kernel
theorem zd_Mod_choose_20 : decode zb_Mod_choose 20 = .ok (.aload_n 0, 1) := by decide +kernel
theorem zd_Mod_choose_21 : decode zb_Mod_choose 21 = .ok (.ldc 50, 2) := by decide +kernel
theorem zd_Mod_choose_23 : decode zb_Mod_choose 23 = .ok (.invokevirtual 64, 3) := by decide +kernel
theorem zd_Mod_choose_26 : decode zb_Mod_choose 26 = .ok (.ireturn, 1) := by decide +kernel
theorem zd_Mod_choose_27 : decode zb_Mod_choose 27 = .ok (.aload_n 0, 1) := by decide +kernel
theorem zd_Mod_choose_28 : decode zb_Mod_choose 28 = .ok (.iload_n 1, 1) := by decide +kernel
theorem zd_Mod_choose_29 : decode zb_Mod_choose 29 = .ok (.iconst 1, 1) := by decide +kernel
theorem zd_Mod_choose_30 : decode zb_Mod_choose 30 = .ok (.invokevirtual 74, 3) := by decide +kernel
theorem zd_Mod_choose_33 : decode zb_Mod_choose 33 = .ok (.istore_n 3, 1) := by decide +kernel
theorem zd_Mod_choose_34 : decode zb_Mod_choose 34 = .ok (.aload_n 0, 1) := by decide +kernel
theorem zd_Mod_choose_35 : decode zb_Mod_choose 35 = .ok (.iload_n 1, 1) := by decide +kernel
theorem zd_Mod_choose_36 : decode zb_Mod_choose 36 = .ok (.bipush 7, 2) := by decide +kernel
theorem zd_Mod_choose_38 : decode zb_Mod_choose 38 = .ok (.invokevirtual 74, 3) := by decide +kernel
theorem zd_Mod_choose_41 : decode zb_Mod_choose 41 = .ok (.iconst 1, 1) := by decide +kernel
theorem zd_Mod_choose_42 : decode zb_Mod_choose 42 = .ok (.if_icmp .eq 11, 3) := by decide +kernel
theorem zd_Mod_choose_45 : decode zb_Mod_choose 45 = .ok (.aload_n 0, 1) := by decide +kernel
theorem zd_Mod_choose_46 : decode zb_Mod_choose 46 = .ok (.iload_n 3, 1) := by decide +kernel
theorem zd_Mod_choose_47 : decode zb_Mod_choose 47 = .ok (.invokevirtual 122, 3) := by decide +kernel
theorem zd_Mod_choose_50 : decode zb_Mod_choose 50 = .ok (.ifCond .eq 10, 3) := by decide +kernel
theorem zd_Mod_choose_53 : decode zb_Mod_choose 53 = .ok (.aload_n 0, 1) := by decide +kernel
theorem zd_Mod_choose_54 : decode zb_Mod_choose 54 = .ok (.ldc 82, 2) := by decide +kernel
theorem zd_Mod_choose_56 : decode zb_Mod_choose 56 = .ok (.invokevirtual 64, 3) := by decide +kernel
theorem zd_Mod_choose_59 : decode zb_Mod_choose 59 = .ok (.ireturn, 1) := by decide +kernel
theorem zd_Mod_choose_60 : decode zb_Mod_choose 60 = .ok (.aload_n 0, 1) := by decide +kernel
theorem zd_Mod_choose_61 : decode zb_Mod_choose 61 = .ok (.iconst 1, 1) := by decide +kernel
theorem zd_Mod_choose_62 : decode zb_Mod_choose 62 = .ok (.iload_n 2, 1) := by decide +kernel
theorem zd_Mod_choose_63 : decode zb_Mod_choose 63 = .ok (.invokevirtual 196, 3) := by decide +kernel
theorem zd_Mod_choose_66 : decode zb_Mod_choose 66 = .ok (.aload_n 0, 1) := by decide +kernel
theorem zd_Mod_choose_67 : decode zb_Mod_choose 67 = .ok (.iload_n 3, 1) := by decide +kernel
theorem zd_Mod_choose_68 : decode zb_Mod_choose 68 = .ok (.aload_n 0, 1) := by decide +kernel
theorem zd_Mod_choose_69 : decode zb_Mod_choose 69 = .ok (.iconst 0, 1) := by decide +kernel
theorem zd_Mod_choose_70 : decode zb_Mod_choose 70 = .ok (.invokevirtual 145, 3) := by decide +kernel
theorem zd_Mod_choose_73 : decode zb_Mod_choose 73 = .ok (.iconst 0, 1) := by decide +kernel
theorem zd_Mod_choose_74 : decode zb_Mod_choose 74 = .ok (.invokevirtual 192, 3) := by decide +kernel
theorem zd_Mod_choose_77 : decode zb_Mod_choose 77 = .ok (.aload_n 0, 1) := by decide +kernel
theorem zd_Mod_choose_78 : decode zb_Mod_choose 78 = .ok (.iload_n 3, 1) := by decide +kernel
theorem zd_Mod_choose_79 : decode zb_Mod_choose 79 = .ok (.aload_n 0, 1) := by decide +kernel
theorem zd_Mod_choose_80 : decode zb_Mod_choose 80 = .ok (.iconst 0, 1) := by decide +kernel
theorem zd_Mod_choose_81 : decode zb_Mod_choose 81 = .ok (.invokevirtual 145, 3) := by decide +kernel
theorem zd_Mod_choose_84 : decode zb_Mod_choose 84 = .ok (.iconst 1, 1) := by decide +kernel
theorem zd_Mod_choose_85 : decode zb_Mod_choose 85 = .ok (.invokevirtual 192, 3) := by decide +kernel
theorem zd_Mod_choose_88 : decode zb_Mod_choose 88 = .ok (.lcmp, 1) := by decide +kernel
theorem zd_Mod_choose_89 : decode zb_Mod_choose 89 = .ok (.ifCond .ge 7, 3) := by decide +kernel
theorem zd_Mod_choose_92 : decode zb_Mod_choose 92 = .ok (.iconst 1, 1) := by decide +kernel
theorem zd_Mod_choose_93 : decode zb_Mod_choose 93 = .ok (.goto 4, 3) := by decide +kernel
theorem zd_Mod_choose_96 : decode zb_Mod_choose 96 = .ok (.iconst 0, 1) := by decide +kernel
theorem zd_Mod_choose_97 : decode zb_Mod_choose 97 = .ok (.ireturn, 1) := by decide +kernel
set_option maxHeartbeats 4000000 in
theorem zl_Mod_choose_L97 {p : Program} {l : Launch} {e : Env} {s : State} {m : MethodId} {args : Array Value} {below : List Frame} {meth : Method} {c : Code} {D : va_G} {cA : Nat → ClassId} {ad : Nat → Nat} {A : Nat → Prop} (B : zu_B p s m args c zb_Mod_choose 4 "StonePostModel" D cA ad A) (hret : meth.sig.returnType = (some .int)) (hlk : meth.locks = false) {res : Int32 × IX × LX} (y0 : Int32) (X : IX) (Y : LX) (H : Heap) (locs : List Loc) (ls : Array Slot) (hP : va_P D zu_cl (zu_pic cA ad X Y) H) (hS : va_S A s.heap H locs) (hl : lv_has ls 4 []) (hf : fn_Mod_choose_L97 y0 X Y = some res) : W p l e zR_Mod_choose s m args below meth c H locs 0 0 (MQ below (zu_Qi D cA ad A res.1 res.2.1 res.2.2) args s 0 0 A) (F0 m 97 ls [.int y0]) := by
  obtain ⟨hx, hb, hml, hown, hts, hST⟩ := id B
  unfold fn_Mod_choose_L97 at hf
  obtain rfl := Option.some.inj hf
  exact zr_iret hx hb hret hlk hP hS zd_Mod_choose_97
set_option maxHeartbeats 4000000 in
theorem zl_Mod_choose_L53 {p : Program} {l : Launch} {e : Env} {s : State} {m : MethodId} {args : Array Value} {below : List Frame} {meth : Method} {c : Code} {D : va_G} {cA : Nat → ClassId} {ad : Nat → Nat} {A : Nat → Prop} (B : zu_B p s m args c zb_Mod_choose 4 "StonePostModel" D cA ad A) (hret : meth.sig.returnType = (some .int)) (hlk : meth.locks = false) {res : Int32 × IX × LX} (X : IX) (Y : LX) (H : Heap) (locs : List Loc) (ls : Array Slot) (hP : va_P D zu_cl (zu_pic cA ad X Y) H) (hS : va_S A s.heap H locs) (hl : lv_has ls 4 [(0, .ref (ad 95))]) (hf : fn_Mod_choose_L53 X Y = some res) : W p l e zR_Mod_choose s m args below meth c H locs 0 0 (MQ below (zu_Qi D cA ad A res.1 res.2.1 res.2.2) args s 0 0 A) (F0 m 53 ls []) := by
  obtain ⟨hx, hb, hml, hown, hts, hST⟩ := id B
  unfold fn_Mod_choose_L53 at hf
  refine lv_aload_n hx hb zd_Mod_choose_53 rfl (lv_at hl 0 rfl) ?_
  refine lv_ldc (v := -1000005) hx hb hown (hts _ zq_969) zd_Mod_choose_54 ?_
  obtain ⟨v32, X33, hq34, hf⟩ := zu_b2_e hf
  refine zw_Mod_finds (rest := []) B hP hS hq34 zq_944 (Nat.le_of_ble_eq_true rfl) (Nat.le_of_ble_eq_true rfl) hl.1 rfl (Nat.le_of_ble_eq_true rfl) zd_Mod_choose_56 (by decide) (fun H locs hP hS => ?_)
  clear hq34
  obtain rfl := Option.some.inj hf
  exact zr_iret hx hb hret hlk hP hS zd_Mod_choose_59
set_option maxHeartbeats 4000000 in
theorem zl_Mod_choose_L20 {p : Program} {l : Launch} {e : Env} {s : State} {m : MethodId} {args : Array Value} {below : List Frame} {meth : Method} {c : Code} {D : va_G} {cA : Nat → ClassId} {ad : Nat → Nat} {A : Nat → Prop} (B : zu_B p s m args c zb_Mod_choose 4 "StonePostModel" D cA ad A) (hret : meth.sig.returnType = (some .int)) (hlk : meth.locks = false) {res : Int32 × IX × LX} (X : IX) (Y : LX) (H : Heap) (locs : List Loc) (ls : Array Slot) (hP : va_P D zu_cl (zu_pic cA ad X Y) H) (hS : va_S A s.heap H locs) (hl : lv_has ls 4 [(0, .ref (ad 95))]) (hf : fn_Mod_choose_L20 X Y = some res) : W p l e zR_Mod_choose s m args below meth c H locs 0 0 (MQ below (zu_Qi D cA ad A res.1 res.2.1 res.2.2) args s 0 0 A) (F0 m 20 ls []) := by
  obtain ⟨hx, hb, hml, hown, hts, hST⟩ := id B
  unfold fn_Mod_choose_L20 at hf
  refine lv_aload_n hx hb zd_Mod_choose_20 rfl (lv_at hl 0 rfl) ?_
  refine lv_ldc (v := -1000001) hx hb hown (hts _ zq_943) zd_Mod_choose_21 ?_
  obtain ⟨v29, X30, hq31, hf⟩ := zu_b2_e hf
  refine zw_Mod_finds (rest := []) B hP hS hq31 zq_944 (Nat.le_of_ble_eq_true rfl) (Nat.le_of_ble_eq_true rfl) hl.1 rfl (Nat.le_of_ble_eq_true rfl) zd_Mod_choose_23 (by decide) (fun H locs hP hS => ?_)
  clear hq31
  obtain rfl := Option.some.inj hf
  exact zr_iret hx hb hret hlk hP hS zd_Mod_choose_26
set_option maxHeartbeats 4000000 in
theorem zl_Mod_choose {p : Program} {l : Launch} {e : Env} {s : State} {m : MethodId} {args : Array Value} {below : List Frame} {meth : Method} {c : Code} {D : va_G} {cA : Nat → ClassId} {ad : Nat → Nat} {A : Nat → Prop} (B : zu_B p s m args c zb_Mod_choose 4 "StonePostModel" D cA ad A) (hret : meth.sig.returnType = (some .int)) (hlk : meth.locks = false) {res : Int32 × IX × LX} {a1 : Int32} {a2 : Int32} {X : IX} {Y : LX} (H : Heap) (locs : List Loc) (ls : Array Slot) (hP : va_P D zu_cl (zu_pic cA ad X Y) H) (hS : va_S A s.heap H locs) (hl : lv_has ls 4 [(0, .ref (ad 95)), (1, .int a1), (2, .int a2)]) (hf : fn_Mod_choose a1 a2 X Y = some res) : W p l e zR_Mod_choose s m args below meth c H locs 0 0 (MQ below (zu_Qi D cA ad A res.1 res.2.1 res.2.2) args s 0 0 A) (F0 m 0 ls []) := by
  obtain ⟨hx, hb, hml, hown, hts, hST⟩ := id B
  unfold fn_Mod_choose at hf
  refine lv_aload_n hx hb zd_Mod_choose_0 rfl (lv_at hl 0 rfl) ?_
  refine lv_iload_n hx hb zd_Mod_choose_1 rfl (lv_at hl 1 rfl) ?_
  obtain ⟨v1, hq2, hf⟩ := zu_b1_e hf
  refine zw_Mod_isThrower (rest := []) B hP hS hq2 zq_979 (Nat.le_of_ble_eq_true rfl) (Nat.le_of_ble_eq_true rfl) hl.1 rfl (Nat.le_of_ble_eq_true rfl) zd_Mod_choose_2 (by decide) (fun H locs hP hS => ?_)
  clear hq2
  refine lv_if_eq (tgt := 20) hx hb zd_Mod_choose_5 (by decide) (fun c3 => ?_) (fun c3 => ?_)
  · have hf := zu_t c3 hf
    exact zl_Mod_choose_L20 B hret hlk X Y _ _ _ hP hS (lv_sub hl [0] rfl) hf
  · have hf := zu_f c3 hf
    refine lv_iload_n hx hb zd_Mod_choose_8 rfl (lv_at hl 2 rfl) ?_
    refine lv_i2l hx hb zd_Mod_choose_9 rfl ?_
    refine lv_lconst (v := 1) hx hb zd_Mod_choose_10 (by decide) ?_
    refine lv_ldc2 (v := 15) hx hb hown (hts _ zq_1156) zd_Mod_choose_11 ?_
    obtain ⟨v4, hq5, hf⟩ := zu_b1_e hf
    refine zw_Mod_in (rest := []) B hP hS hq5 zq_939 (Nat.le_of_ble_eq_true rfl) (Nat.le_of_ble_eq_true rfl) hl.1 rfl (Nat.le_of_ble_eq_true rfl) zd_Mod_choose_14 (by decide) (fun H locs hP hS => ?_)
    clear hq5
    refine lv_if_ne (tgt := 27) hx hb zd_Mod_choose_17 (by decide) (fun c6 => ?_) (fun c6 => ?_)
    · have hf := zu_f c6 hf
      refine lv_aload_n hx hb zd_Mod_choose_27 rfl (lv_at hl 0 rfl) ?_
      refine lv_iload_n hx hb zd_Mod_choose_28 rfl (lv_at hl 1 rfl) ?_
      refine lv_iconst (v := 1) hx hb zd_Mod_choose_29 (by decide) ?_
      obtain ⟨v7, hq8, hf⟩ := zu_b1_e hf
      refine zw_Mod_its (rest := []) B hP hS hq8 zq_962 (Nat.le_of_ble_eq_true rfl) (Nat.le_of_ble_eq_true rfl) hl.1 rfl (Nat.le_of_ble_eq_true rfl) zd_Mod_choose_30 (by decide) (fun H locs hP hS => ?_)
      clear hq8
      refine lv_istore_n (lv' := [(3, .int v7), (0, .ref (ad 95)), (1, .int a1), (2, .int a2)]) hx hb zd_Mod_choose_33 rfl hl (by decide) rfl (fun ls hl => ?_)
      refine lv_aload_n hx hb zd_Mod_choose_34 rfl (lv_at hl 1 rfl) ?_
      refine lv_iload_n hx hb zd_Mod_choose_35 rfl (lv_at hl 2 rfl) ?_
      refine lv_bipush (v := 7) hx hb zd_Mod_choose_36 (by decide) ?_
      obtain ⟨v9, hq10, hf⟩ := zu_b1_e hf
      refine zw_Mod_its (rest := []) B hP hS hq10 zq_962 (Nat.le_of_ble_eq_true rfl) (Nat.le_of_ble_eq_true rfl) hl.1 rfl (Nat.le_of_ble_eq_true rfl) zd_Mod_choose_38 (by decide) (fun H locs hP hS => ?_)
      clear hq10
      refine lv_iconst (v := 1) hx hb zd_Mod_choose_41 (by decide) ?_
      refine lv_icmp_eq (tgt := 53) hx hb zd_Mod_choose_42 (by decide) (fun c11 => ?_) (fun c11 => ?_)
      · have hf := zu_t c11 hf
        exact zl_Mod_choose_L53 B hret hlk X Y _ _ _ hP hS (lv_sub hl [1] rfl) hf
      · have hf := zu_f c11 hf
        refine lv_aload_n hx hb zd_Mod_choose_45 rfl (lv_at hl 1 rfl) ?_
        refine lv_iload_n hx hb zd_Mod_choose_46 rfl (lv_at hl 0 rfl) ?_
        obtain ⟨v12, hq13, hf⟩ := zu_b1_e hf
        refine zw_Mod_isStaying (rest := []) B hP hS hq13 zq_1030 (Nat.le_of_ble_eq_true rfl) (Nat.le_of_ble_eq_true rfl) hl.1 rfl (Nat.le_of_ble_eq_true rfl) zd_Mod_choose_47 (by decide) (fun H locs hP hS => ?_)
        clear hq13
        refine lv_if_eq (tgt := 60) hx hb zd_Mod_choose_50 (by decide) (fun c14 => ?_) (fun c14 => ?_)
        · have hf := zu_t c14 hf
          refine lv_aload_n hx hb zd_Mod_choose_60 rfl (lv_at hl 1 rfl) ?_
          refine lv_iconst (v := 1) hx hb zd_Mod_choose_61 (by decide) ?_
          refine lv_iload_n hx hb zd_Mod_choose_62 rfl (lv_at hl 3 rfl) ?_
          obtain ⟨X15, Y16, hq17, hf⟩ := zu_b2_e hf
          refine zw_Mod_findWorth (rest := []) B hP hS hq17 zq_1144 (Nat.le_of_ble_eq_true rfl) (Nat.le_of_ble_eq_true rfl) hl.1 rfl (Nat.le_of_ble_eq_true rfl) zd_Mod_choose_63 (by decide) (fun H locs hP hS => ?_)
          clear hq17
          refine lv_aload_n hx hb zd_Mod_choose_66 rfl (lv_at hl 1 rfl) ?_
          refine lv_iload_n hx hb zd_Mod_choose_67 rfl (lv_at hl 0 rfl) ?_
          refine lv_aload_n hx hb zd_Mod_choose_68 rfl (lv_at hl 1 rfl) ?_
          refine lv_iconst (v := 0) hx hb zd_Mod_choose_69 (by decide) ?_
          obtain ⟨v18, ehq19, hf⟩ := zu_nx_e hf
          have hq19 := ehq19.symm
          refine zw_Mod_clockIn (rest := [.int v7, .ref (ad 95)]) B hP hS hq19 zq_1071 (Nat.le_of_ble_eq_true rfl) (Nat.le_of_ble_eq_true rfl) hl.1 rfl (Nat.le_of_ble_eq_true rfl) zd_Mod_choose_70 (by decide) (fun H locs hP hS => ?_)
          clear hq19 ehq19
          refine lv_iconst (v := 0) hx hb zd_Mod_choose_73 (by decide) ?_
          obtain ⟨v20, X21, hq22, hf⟩ := zu_b2_e hf
          refine zw_Mod_worthBy (rest := []) B hP hS hq22 zq_1148 (Nat.le_of_ble_eq_true rfl) (Nat.le_of_ble_eq_true rfl) hl.1 rfl (Nat.le_of_ble_eq_true rfl) zd_Mod_choose_74 (by decide) (fun H locs hP hS => ?_)
          clear hq22
          refine lv_aload_n hx hb zd_Mod_choose_77 rfl (lv_at hl 1 rfl) ?_
          refine lv_iload_n hx hb zd_Mod_choose_78 rfl (lv_at hl 0 rfl) ?_
          refine lv_aload_n hx hb zd_Mod_choose_79 rfl (lv_at hl 1 rfl) ?_
          refine lv_iconst (v := 0) hx hb zd_Mod_choose_80 (by decide) ?_
          obtain ⟨v23, ehq24, hf⟩ := zu_nx_e hf
          have hq24 := ehq24.symm
          refine zw_Mod_clockIn (rest := [.int v7, .ref (ad 95), .long v20]) B hP hS hq24 zq_1071 (Nat.le_of_ble_eq_true rfl) (Nat.le_of_ble_eq_true rfl) hl.1 rfl (Nat.le_of_ble_eq_true rfl) zd_Mod_choose_81 (by decide) (fun H locs hP hS => ?_)
          clear hq24 ehq24
          refine lv_iconst (v := 1) hx hb zd_Mod_choose_84 (by decide) ?_
          obtain ⟨v25, X26, hq27, hf⟩ := zu_b2_e hf
          refine zw_Mod_worthBy (rest := [.long v20]) B hP hS hq27 zq_1148 (Nat.le_of_ble_eq_true rfl) (Nat.le_of_ble_eq_true rfl) hl.1 rfl (Nat.le_of_ble_eq_true rfl) zd_Mod_choose_85 (by decide) (fun H locs hP hS => ?_)
          clear hq27
          refine W.lcmp hx hb zd_Mod_choose_88 ?_
          refine lv_if_ge (tgt := 96) hx hb zd_Mod_choose_89 (by decide) (fun c28 => ?_) (fun c28 => ?_)
          · have hf := zu_t c28 hf
            refine lv_iconst (v := 0) hx hb zd_Mod_choose_96 (by decide) ?_
            exact zl_Mod_choose_L97 B hret hlk (0 : Int32) X26 Y16 _ _ _ hP hS (lv_sub hl [] rfl) hf
          · have hf := zu_f c28 hf
            refine lv_iconst (v := 1) hx hb zd_Mod_choose_92 (by decide) ?_
            refine lv_goto (tgt := 97) hx hb zd_Mod_choose_93 (by decide) ?_
            exact zl_Mod_choose_L97 B hret hlk (1 : Int32) X26 Y16 _ _ _ hP hS (lv_sub hl [] rfl) hf
        · have hf := zu_f c14 hf
          exact zl_Mod_choose_L53 B hret hlk X Y _ _ _ hP hS (lv_sub hl [1] rfl) hf
    · have hf := zu_t c6 hf
      exact zl_Mod_choose_L20 B hret hlk X Y _ _ _ hP hS (lv_sub hl [0] rfl) hf
theorem zC_Mod_choose (l : Launch) {D : va_G} {cA : Nat → ClassId} {ad : Nat → Nat} {A : Nat → Prop} {a1 : Int32} {a2 : Int32} {X : IX} {Y : LX} {res : Int32 × IX × LX} (hf : fn_Mod_choose a1 a2 X Y = some res) : Met l zm_Mod_choose (zu_ws zm_Mod_choose zb_Mod_choose 4 (some .int)) zR_Mod_choose (va_Pc [.ref (ad 95), .int a1, .int a2] (zu_Pre D cA ad A X Y)) (zu_Qi D cA ad A res.1 res.2.1 res.2.2) 0 0 A := by
  refine Met.ofW (cc := zb_Mod_choose) (maxL := 4) (ret := (some .int)) (by decide +kernel) rfl ?_
  intro p e s m args below meth c s₁ B0 hml hv
  obtain ⟨rfl, hP, hST⟩ := hv
  have B : zu_B p s m _ c zb_Mod_choose 4 "StonePostModel" D cA ad A := ⟨B0.exec, B0.bytes, hml, findClass_of_methodNamed B0.named, (fun w hw => atoms_spec (ws := zu_ws zm_Mod_choose zb_Mod_choose 4 (some .int)) B0.pre w (List.mem_cons_of_mem _ hw)), hST⟩
  have hl := lv_entry ([.ref (ad 95), .int a1, .int a2]) (n := 4) (Nat.le_of_ble_eq_true rfl)
  rw [lg_entry_eq]
  generalize (lg_sl ([.ref (ad 95), .int a1, .int a2]) ++ List.replicate (4 - (lg_sl ([.ref (ad 95), .int a1, .int a2])).length) Slot.unset).toArray = ls at hl ⊢
  exact zl_Mod_choose B B0.returns B0.notSynchronized s.heap [] ls hP va_S.rf hl  hf
theorem zw_Mod_choose {p : Program} {l : Launch} {e : Env} {R : Room} {s : State} {m : MethodId} {args : Array Value} {below : List Frame} {meth : Method} {c : Code} {H : Heap} {locs : List Loc} {cells slots : Nat} {Q : State → Prop} {cc : ByteArray} {pc nL : Nat} {ls : Array Slot} {rest st0 : List Value} {D : va_G} {cA : Nat → ClassId} {ad : Nat → Nat} {A : Nat → Prop} {X : IX} {Y : LX} {own : String} {index : Nat} {a1 : Int32} {a2 : Int32} {v1 : Int32} {X1 : IX} {Y1 : LX} (B : zu_B p s m args c cc nL own D cA ad A) (hP : va_P D zu_cl (zu_pic cA ad X Y) H) (hS : va_S A s.heap H locs) (hq : fn_Mod_choose a1 a2 X Y = some (v1, X1, Y1)) (m1 : Cond.methodLink own index zm_Mod_choose ∈ zu_TB) (hR1 : 7 + 1 ≤ R.frames) (hR2 : 8 + (4 + 11) + 170 ≤ R.locals) (hsz : ls.size = nL) (hst : st0 = .int a2 :: .int a1 :: .ref (ad 95) :: rest) (hw : (rest.map fun v => v.category).sum ≤ 8) (hdg : decode cc pc = .ok (.invokevirtual index, 3)) (h00 : cells ≤ R.cells ∧ slots ≤ R.slots) (kk : ∀ (H1 : Heap) (locs1 : List Loc), va_P D zu_cl (zu_pic cA ad X1 Y1) H1 → va_S A s.heap H1 locs1 → W p l e R s m args below meth c H1 locs1 cells slots Q (F0 m (pc + 3) ls (.int v1 :: rest))) : W p l e R s m args below meth c H locs cells slots Q (F0 m pc ls st0) := by
  subst hst
  exact zr_cVi (As := [.int a1, .int a2]) (rest := rest) (n := 2) (C := "StonePostModel") (T := zt_Mod) (N := 23) B hP hS (zC_Mod_choose l  hq) (K := 7) rfl (by decide) (by decide) rfl rfl m1 zq_1153 zq_1154 zq_8 zq_1155 (by decide +kernel) ⟨hR1, hR2⟩ rfl rfl rfl hsz rfl hw hdg h00 kk
abbrev zR_Mod_chooses : Room := { frames := 1, cells := 0, slots := 0, locals := 21 }
theorem zd_Mod_chooses_0 : decode zb_Mod_chooses 0 = .ok (.iconst 0, 1) := by decide +kernel
theorem zd_Mod_chooses_1 : decode zb_Mod_chooses 1 = .ok (.istore_n 2, 1) := by decide +kernel
theorem zd_Mod_chooses_2 : decode zb_Mod_chooses 2 = .ok (.iload_n 2, 1) := by decide +kernel
theorem zd_Mod_chooses_3 : decode zb_Mod_chooses 3 = .ok (.aload_n 0, 1) := by decide +kernel
theorem zd_Mod_chooses_4 : decode zb_Mod_chooses 4 = .ok (.getfield 7, 3) := by decide +kernel
theorem zd_Mod_chooses_7 : decode zb_Mod_chooses 7 = .ok (.iconst 1, 1) := by decide +kernel
theorem zd_Mod_chooses_8 : decode zb_Mod_chooses 8 = .ok (.iaload, 1) := by decide +kernel
theorem zd_Mod_chooses_9 : decode zb_Mod_chooses 9 = .ok (.if_icmp .ge 33, 3) := by decide +kernel
theorem zd_Mod_chooses_12 : decode zb_Mod_chooses 12 = .ok (.aload_n 0, 1) := by decide +kernel
theorem zd_Mod_chooses_13 : decode zb_Mod_chooses 13 = .ok (.getfield 7, 3) := by decide +kernel
theorem zd_Mod_chooses_16 : decode zb_Mod_chooses 16 = .ok (.iload_n 2, 1) := by decide +kernel
theorem zd_Mod_chooses_17 : decode zb_Mod_chooses 17 = .ok (.bipush 6, 2) := by decide +kernel
theorem zd_Mod_chooses_19 : decode zb_Mod_chooses 19 = .ok (.invokestatic 70, 3) := by decide +kernel
theorem zd_Mod_chooses_22 : decode zb_Mod_chooses 22 = .ok (.iload_n 1, 1) := by decide +kernel
theorem zd_Mod_chooses_23 : decode zb_Mod_chooses 23 = .ok (.iload_n 2, 1) := by decide +kernel
theorem zd_Mod_chooses_24 : decode zb_Mod_chooses 24 = .ok (.invokestatic 175, 3) := by decide +kernel
theorem zd_Mod_chooses_27 : decode zb_Mod_chooses 27 = .ok (.ifCond .eq 7, 3) := by decide +kernel
theorem zd_Mod_chooses_30 : decode zb_Mod_chooses 30 = .ok (.iconst 1, 1) := by decide +kernel
theorem zd_Mod_chooses_31 : decode zb_Mod_chooses 31 = .ok (.goto 4, 3) := by decide +kernel
theorem zd_Mod_chooses_34 : decode zb_Mod_chooses 34 = .ok (.iconst 0, 1) := by decide +kernel
theorem zd_Mod_chooses_35 : decode zb_Mod_chooses 35 = .ok (.iastore, 1) := by decide +kernel
theorem zd_Mod_chooses_36 : decode zb_Mod_chooses 36 = .ok (.iinc 2 1, 3) := by decide +kernel
theorem zd_Mod_chooses_39 : decode zb_Mod_chooses 39 = .ok (.goto (-37), 3) := by decide +kernel
theorem zd_Mod_chooses_42 : decode zb_Mod_chooses 42 = .ok (.return_, 1) := by decide +kernel
set_option maxHeartbeats 4000000 in
theorem zl_Mod_chooses_L35 {p : Program} {l : Launch} {e : Env} {s : State} {m : MethodId} {args : Array Value} {below : List Frame} {meth : Method} {c : Code} {D : va_G} {cA : Nat → ClassId} {ad : Nat → Nat} {A : Nat → Prop} (B : zu_B p s m args c zb_Mod_chooses 3 "StonePostModel" D cA ad A) (hret : meth.sig.returnType = none) (hlk : meth.locks = false) {Y : LX} {res : IX} {k2 : Int32 → Int32 → IX → Option IX} (hk2 : ∀ (x1 : Int32) (x2 : Int32) (X : IX) (H : Heap) (locs : List Loc) (ls : Array Slot), va_P D zu_cl (zu_pic cA ad X Y) H → va_S A s.heap H locs → lv_has ls 3 [(0, .ref (ad 95)), (1, .int x1), (2, .int x2)] → k2 x1 x2 X = some res → W p l e zR_Mod_chooses s m args below meth c H locs 0 0 (MQ below (zu_Qv D cA ad A res Y) args s 0 0 A) (F0 m 2 ls [])) (x1 : Int32) (x2 : Int32) (y0 : Int32) (y1 : Int32) (X : IX) (H : Heap) (locs : List Loc) (ls : Array Slot) (hP : va_P D zu_cl (zu_pic cA ad X Y) H) (hS : va_S A s.heap H locs) (hl : lv_has ls 3 [(0, .ref (ad 95)), (1, .int x1), (2, .int x2)]) (hf : fn_Mod_chooses_L35 k2 x1 x2 y0 y1 X = some res) : W p l e zR_Mod_chooses s m args below meth c H locs 0 0 (MQ below (zu_Qv D cA ad A res Y) args s 0 0 A) (F0 m 35 ls [.int y0, .int y1, .ref (ad 96)]) := by
  obtain ⟨hx, hb, hml, hown, hts, hST⟩ := id B
  unfold fn_Mod_chooses_L35 at hf
  obtain ⟨hg7, hf⟩ := zu_gd_e hf
  refine zr_iast rfl B hP hS hf rfl (by decide) rfl hg7 zd_Mod_chooses_35 (fun X8 H locs hf hP hS => ?_)
  obtain ⟨v9, ev9, hf⟩ := zu_nx_e hf
  refine lv_iinc (v := v9) (lv' := [(2, .int v9), (0, .ref (ad 95)), (1, .int x1)]) hx hb zd_Mod_chooses_36 hl (k := 2) rfl (by rw [ev9]; rfl) (by decide) rfl (fun ls hl => ?_)
  clear ev9
  refine lv_goto (tgt := 2) hx hb zd_Mod_chooses_39 (by decide) ?_
  exact hk2 x1 v9 X8 _ _ _ hP hS (lv_sub hl [1, 2, 0] rfl) hf
set_option maxHeartbeats 4000000 in
theorem zl_Mod_chooses_B2 {p : Program} {l : Launch} {e : Env} {s : State} {m : MethodId} {args : Array Value} {below : List Frame} {meth : Method} {c : Code} {D : va_G} {cA : Nat → ClassId} {ad : Nat → Nat} {A : Nat → Prop} (B : zu_B p s m args c zb_Mod_chooses 3 "StonePostModel" D cA ad A) (hret : meth.sig.returnType = none) (hlk : meth.locks = false) {Y : LX} {res : IX} {k2 : Int32 → Int32 → IX → Option IX} (hk2 : ∀ (x1 : Int32) (x2 : Int32) (X : IX) (H : Heap) (locs : List Loc) (ls : Array Slot), va_P D zu_cl (zu_pic cA ad X Y) H → va_S A s.heap H locs → lv_has ls 3 [(0, .ref (ad 95)), (1, .int x1), (2, .int x2)] → k2 x1 x2 X = some res → W p l e zR_Mod_chooses s m args below meth c H locs 0 0 (MQ below (zu_Qv D cA ad A res Y) args s 0 0 A) (F0 m 2 ls [])) (x1 : Int32) (x2 : Int32) (X : IX) (H : Heap) (locs : List Loc) (ls : Array Slot) (hP : va_P D zu_cl (zu_pic cA ad X Y) H) (hS : va_S A s.heap H locs) (hl : lv_has ls 3 [(0, .ref (ad 95)), (1, .int x1), (2, .int x2)]) (hf : fn_Mod_chooses_B2 k2 x1 x2 X = some res) : W p l e zR_Mod_chooses s m args below meth c H locs 0 0 (MQ below (zu_Qv D cA ad A res Y) args s 0 0 A) (F0 m 2 ls []) := by
  obtain ⟨hx, hb, hml, hown, hts, hST⟩ := id B
  unfold fn_Mod_chooses_B2 at hf
  refine lv_iload_n hx hb zd_Mod_chooses_2 rfl (lv_at hl 2 rfl) ?_
  refine lv_aload_n hx hb zd_Mod_chooses_3 rfl (lv_at hl 0 rfl) ?_
  refine zg_Mod_s B hP rfl zq_861 zd_Mod_chooses_4 ?_
  refine lv_iconst (v := 1) hx hb zd_Mod_chooses_7 (by decide) ?_
  refine zr_iald (j := 1) (by decide) B hP rfl (by decide) rfl (by decide) zd_Mod_chooses_8 ?_
  refine lv_icmp_ge (tgt := 42) hx hb zd_Mod_chooses_9 (by decide) (fun c1 => ?_) (fun c1 => ?_)
  · have hf := zu_t c1 hf
    obtain rfl := Option.some.inj hf
    exact zr_vret hx hb hret hlk hP hS zd_Mod_chooses_42
  · have hf := zu_f c1 hf
    refine lv_aload_n hx hb zd_Mod_chooses_12 rfl (lv_at hl 0 rfl) ?_
    refine zg_Mod_s B hP rfl zq_861 zd_Mod_chooses_13 ?_
    refine lv_iload_n hx hb zd_Mod_chooses_16 rfl (lv_at hl 2 rfl) ?_
    refine lv_bipush (v := 6) hx hb zd_Mod_chooses_17 (by decide) ?_
    obtain ⟨v2, ehq3, hf⟩ := zu_nx_e hf
    have hq3 := ehq3.symm
    refine zw_Mod_at (rest := [.ref (ad 96)]) B hP hS hq3 zq_966 (Nat.le_of_ble_eq_true rfl) (Nat.le_of_ble_eq_true rfl) hl.1 rfl (Nat.le_of_ble_eq_true rfl) zd_Mod_chooses_19 (by decide) (fun H locs hP hS => ?_)
    clear hq3 ehq3
    refine lv_iload_n hx hb zd_Mod_chooses_22 rfl (lv_at hl 1 rfl) ?_
    refine lv_iload_n hx hb zd_Mod_chooses_23 rfl (lv_at hl 2 rfl) ?_
    obtain ⟨v4, hq5, hf⟩ := zu_b1_e hf
    refine zw_Mod_has (rest := [.int v2, .ref (ad 96)]) B hP hS hq5 zq_1117 (Nat.le_of_ble_eq_true rfl) (Nat.le_of_ble_eq_true rfl) hl.1 rfl (Nat.le_of_ble_eq_true rfl) zd_Mod_chooses_24 (by decide) (fun H locs hP hS => ?_)
    clear hq5
    refine lv_if_eq (tgt := 34) hx hb zd_Mod_chooses_27 (by decide) (fun c6 => ?_) (fun c6 => ?_)
    · have hf := zu_t c6 hf
      refine lv_iconst (v := 0) hx hb zd_Mod_chooses_34 (by decide) ?_
      exact zl_Mod_chooses_L35 B hret hlk hk2 x1 x2 (0 : Int32) v2 X _ _ _ hP hS (lv_sub hl [0, 1, 2] rfl) hf
    · have hf := zu_f c6 hf
      refine lv_iconst (v := 1) hx hb zd_Mod_chooses_30 (by decide) ?_
      refine lv_goto (tgt := 35) hx hb zd_Mod_chooses_31 (by decide) ?_
      exact zl_Mod_chooses_L35 B hret hlk hk2 x1 x2 (1 : Int32) v2 X _ _ _ hP hS (lv_sub hl [0, 1, 2] rfl) hf
theorem zl_Mod_chooses_L2 {p : Program} {l : Launch} {e : Env} {s : State} {m : MethodId} {args : Array Value} {below : List Frame} {meth : Method} {c : Code} {D : va_G} {cA : Nat → ClassId} {ad : Nat → Nat} {A : Nat → Prop} (B : zu_B p s m args c zb_Mod_chooses 3 "StonePostModel" D cA ad A) (hret : meth.sig.returnType = none) (hlk : meth.locks = false) {Y : LX} {res : IX} : ∀ (n : Nat) (x1 : Int32) (x2 : Int32) (X : IX) (H : Heap) (locs : List Loc) (ls : Array Slot), va_P D zu_cl (zu_pic cA ad X Y) H → va_S A s.heap H locs → lv_has ls 3 [(0, .ref (ad 95)), (1, .int x1), (2, .int x2)] → fn_Mod_chooses_L2 n x1 x2 X = some res → W p l e zR_Mod_chooses s m args below meth c H locs 0 0 (MQ below (zu_Qv D cA ad A res Y) args s 0 0 A) (F0 m 2 ls []) := by
  intro n
  induction n with
  | zero =>
    intro x1 x2 X H locs ls hP hS hl hf
    exact (Option.some_ne_none _ hf.symm).elim
  | succ n ih =>
    intro x1 x2 X H locs ls hP hS hl hf
    exact zl_Mod_chooses_B2 B hret hlk ih x1 x2 X H locs ls hP hS hl  hf
set_option maxHeartbeats 4000000 in
theorem zl_Mod_chooses {p : Program} {l : Launch} {e : Env} {s : State} {m : MethodId} {args : Array Value} {below : List Frame} {meth : Method} {c : Code} {D : va_G} {cA : Nat → ClassId} {ad : Nat → Nat} {A : Nat → Prop} (B : zu_B p s m args c zb_Mod_chooses 3 "StonePostModel" D cA ad A) (hret : meth.sig.returnType = none) (hlk : meth.locks = false) {Y : LX} {res : IX} {a1 : Int32} {X : IX} (H : Heap) (locs : List Loc) (ls : Array Slot) (hP : va_P D zu_cl (zu_pic cA ad X Y) H) (hS : va_S A s.heap H locs) (hl : lv_has ls 3 [(0, .ref (ad 95)), (1, .int a1)]) (hf : fn_Mod_chooses a1 X = some res) : W p l e zR_Mod_chooses s m args below meth c H locs 0 0 (MQ below (zu_Qv D cA ad A res Y) args s 0 0 A) (F0 m 0 ls []) := by
  obtain ⟨hx, hb, hml, hown, hts, hST⟩ := id B
  unfold fn_Mod_chooses at hf
  refine lv_iconst (v := 0) hx hb zd_Mod_chooses_0 (by decide) ?_
  refine lv_istore_n (lv' := [(2, .int (0 : Int32)), (0, .ref (ad 95)), (1, .int a1)]) hx hb zd_Mod_chooses_1 rfl hl (by decide) rfl (fun ls hl => ?_)
  exact zl_Mod_chooses_L2 B hret hlk 400 a1 (0 : Int32) X _ _ _ hP hS (lv_sub hl [1, 2, 0] rfl) hf
theorem zC_Mod_chooses (l : Launch) {D : va_G} {cA : Nat → ClassId} {ad : Nat → Nat} {A : Nat → Prop} {a1 : Int32} {X : IX} {Y : LX} {res : IX} (hf : fn_Mod_chooses a1 X = some res) : Met l zm_Mod_chooses (zu_ws zm_Mod_chooses zb_Mod_chooses 3 none) zR_Mod_chooses (va_Pc [.ref (ad 95), .int a1] (zu_Pre D cA ad A X Y)) (zu_Qv D cA ad A res Y) 0 0 A := by
  refine Met.ofW (cc := zb_Mod_chooses) (maxL := 3) (ret := none) (by decide +kernel) rfl ?_
  intro p e s m args below meth c s₁ B0 hml hv
  obtain ⟨rfl, hP, hST⟩ := hv
  have B : zu_B p s m _ c zb_Mod_chooses 3 "StonePostModel" D cA ad A := ⟨B0.exec, B0.bytes, hml, findClass_of_methodNamed B0.named, (fun w hw => atoms_spec (ws := zu_ws zm_Mod_chooses zb_Mod_chooses 3 none) B0.pre w (List.mem_cons_of_mem _ hw)), hST⟩
  have hl := lv_entry ([.ref (ad 95), .int a1]) (n := 3) (Nat.le_of_ble_eq_true rfl)
  rw [lg_entry_eq]
  generalize (lg_sl ([.ref (ad 95), .int a1]) ++ List.replicate (3 - (lg_sl ([.ref (ad 95), .int a1])).length) Slot.unset).toArray = ls at hl ⊢
  exact zl_Mod_chooses B B0.returns B0.notSynchronized s.heap [] ls hP va_S.rf hl  hf
theorem zw_Mod_chooses {p : Program} {l : Launch} {e : Env} {R : Room} {s : State} {m : MethodId} {args : Array Value} {below : List Frame} {meth : Method} {c : Code} {H : Heap} {locs : List Loc} {cells slots : Nat} {Q : State → Prop} {cc : ByteArray} {pc nL : Nat} {ls : Array Slot} {rest st0 : List Value} {D : va_G} {cA : Nat → ClassId} {ad : Nat → Nat} {A : Nat → Prop} {X : IX} {Y : LX} {own : String} {index : Nat} {a1 : Int32} {X1 : IX} (B : zu_B p s m args c cc nL own D cA ad A) (hP : va_P D zu_cl (zu_pic cA ad X Y) H) (hS : va_S A s.heap H locs) (hq : fn_Mod_chooses a1 X = some X1) (m1 : Cond.methodLink own index zm_Mod_chooses ∈ zu_TB) (hR1 : 1 + 1 ≤ R.frames) (hR2 : 8 + (3 + 11) + 21 ≤ R.locals) (hsz : ls.size = nL) (hst : st0 = .int a1 :: .ref (ad 95) :: rest) (hw : (rest.map fun v => v.category).sum ≤ 8) (hdg : decode cc pc = .ok (.invokevirtual index, 3)) (h00 : cells ≤ R.cells ∧ slots ≤ R.slots) (kk : ∀ (H1 : Heap) (locs1 : List Loc), va_P D zu_cl (zu_pic cA ad X1 Y) H1 → va_S A s.heap H1 locs1 → W p l e R s m args below meth c H1 locs1 cells slots Q (F0 m (pc + 3) ls (rest))) : W p l e R s m args below meth c H locs cells slots Q (F0 m pc ls st0) := by
  subst hst
  exact zr_cVv (As := [.int a1]) (rest := rest) (n := 1) (C := "StonePostModel") (T := zt_Mod) (N := 23) B hP hS (zC_Mod_chooses l  hq) (K := 7) rfl (by decide) (by decide) rfl rfl m1 zq_1168 zqP_45 zq_8 zq_1169 (by decide +kernel) ⟨hR1, hR2⟩ rfl rfl rfl hsz rfl hw hdg h00 kk
abbrev zR_Mod_plan : Room := { frames := 7, cells := 0, slots := 0, locals := 165 }
theorem zd_Mod_plan_0 : decode zb_Mod_plan 0 = .ok (.iload_n 1, 1) := by decide +kernel
theorem zd_Mod_plan_1 : decode zb_Mod_plan 1 = .ok (.invokestatic 58, 3) := by decide +kernel
theorem zd_Mod_plan_4 : decode zb_Mod_plan 4 = .ok (.ifCond .eq 15, 3) := by decide +kernel
theorem zd_Mod_plan_7 : decode zb_Mod_plan 7 = .ok (.iload_n 2, 1) := by decide +kernel
theorem zd_Mod_plan_8 : decode zb_Mod_plan 8 = .ok (.i2l, 1) := by decide +kernel
theorem zd_Mod_plan_9 : decode zb_Mod_plan 9 = .ok (.lconst 1, 1) := by decide +kernel
theorem zd_Mod_plan_10 : decode zb_Mod_plan 10 = .ok (.ldc2_w 90, 3) := by decide +kernel
theorem zd_Mod_plan_13 : decode zb_Mod_plan 13 = .ok (.invokestatic 53, 3) := by decide +kernel
theorem zd_Mod_plan_16 : decode zb_Mod_plan 16 = .ok (.ifCond .ne 10, 3) := by decide +kernel
theorem zd_Mod_plan_19 : decode zb_Mod_plan 19 = .ok (.aload_n 0, 1) := by decide +kernel
theorem zd_Mod_plan_20 : decode zb_Mod_plan 20 = .ok (.ldc 50, 2) := by decide +kernel
theorem zd_Mod_plan_22 : decode zb_Mod_plan 22 = .ok (.invokevirtual 64, 3) := by decide +kernel
theorem zd_Mod_plan_25 : decode zb_Mod_plan 25 = .ok (.ireturn, 1) := by decide +kernel
theorem zd_Mod_plan_26 : decode zb_Mod_plan 26 = .ok (.aload_n 0, 1) := by decide +kernel
theorem zd_Mod_plan_27 : decode zb_Mod_plan 27 = .ok (.getfield 7, 3) := by decide +kernel
theorem zd_Mod_plan_30 : decode zb_Mod_plan 30 = .ok (.iconst 1, 1) := by decide +kernel
theorem zd_Mod_plan_31 : decode zb_Mod_plan 31 = .ok (.iaload, 1) := by decide +kernel
theorem zd_Mod_plan_32 : decode zb_Mod_plan 32 = .ok (.bipush 8, 2) := by decide +kernel
theorem zd_Mod_plan_34 : decode zb_Mod_plan 34 = .ok (.if_icmp .le 10, 3) := by decide +kernel
theorem zd_Mod_plan_37 : decode zb_Mod_plan 37 = .ok (.aload_n 0, 1) := by decide +kernel
theorem zd_Mod_plan_38 : decode zb_Mod_plan 38 = .ok (.ldc 201, 2) := by decide +kernel
theorem zd_Mod_plan_40 : decode zb_Mod_plan 40 = .ok (.invokevirtual 64, 3) := by decide +kernel
theorem zd_Mod_plan_43 : decode zb_Mod_plan 43 = .ok (.ireturn, 1) := by decide +kernel
theorem zd_Mod_plan_44 : decode zb_Mod_plan 44 = .ok (.aload_n 0, 1) := by decide +kernel
theorem zd_Mod_plan_45 : decode zb_Mod_plan 45 = .ok (.invokevirtual 202, 3) := by decide +kernel
theorem zd_Mod_plan_48 : decode zb_Mod_plan 48 = .ok (.iconst (-1), 1) := by decide +kernel
theorem zd_Mod_plan_49 : decode zb_Mod_plan 49 = .ok (.istore_n 3, 1) := by decide +kernel
theorem zd_Mod_plan_50 : decode zb_Mod_plan 50 = .ok (.lconst 0, 1) := by decide +kernel
theorem zd_Mod_plan_51 : decode zb_Mod_plan 51 = .ok (.lstore 4, 2) := by decide +kernel
theorem zd_Mod_plan_53 : decode zb_Mod_plan 53 = .ok (.iconst 0, 1) := by decide +kernel
theorem zd_Mod_plan_54 : decode zb_Mod_plan 54 = .ok (.istore 6, 2) := by decide +kernel
theorem zd_Mod_plan_56 : decode zb_Mod_plan 56 = .ok (.iload 6, 2) := by decide +kernel
theorem zd_Mod_plan_58 : decode zb_Mod_plan 58 = .ok (.iconst 1, 1) := by decide +kernel
theorem zd_Mod_plan_59 : decode zb_Mod_plan 59 = .ok (.aload_n 0, 1) := by decide +kernel
theorem zd_Mod_plan_60 : decode zb_Mod_plan 60 = .ok (.getfield 7, 3) := by decide +kernel
theorem zd_Mod_plan_63 : decode zb_Mod_plan 63 = .ok (.iconst 1, 1) := by decide +kernel
theorem zd_Mod_plan_64 : decode zb_Mod_plan 64 = .ok (.iaload, 1) := by decide +kernel
theorem zd_Mod_plan_65 : decode zb_Mod_plan 65 = .ok (.ishl, 1) := by decide +kernel
theorem zd_Mod_plan_66 : decode zb_Mod_plan 66 = .ok (.if_icmp .ge 42, 3) := by decide +kernel
theorem zd_Mod_plan_69 : decode zb_Mod_plan 69 = .ok (.aload_n 0, 1) := by decide +kernel
theorem zd_Mod_plan_70 : decode zb_Mod_plan 70 = .ok (.iload 6, 2) := by decide +kernel
theorem zd_Mod_plan_72 : decode zb_Mod_plan 72 = .ok (.invokevirtual 205, 3) := by decide +kernel
theorem zd_Mod_plan_75 : decode zb_Mod_plan 75 = .ok (.aload_n 0, 1) := by decide +kernel
theorem zd_Mod_plan_76 : decode zb_Mod_plan 76 = .ok (.iload_n 1, 1) := by decide +kernel
theorem zd_Mod_plan_77 : decode zb_Mod_plan 77 = .ok (.iload_n 2, 1) := by decide +kernel
theorem zd_Mod_plan_78 : decode zb_Mod_plan 78 = .ok (.invokevirtual 209, 3) := by decide +kernel
theorem zd_Mod_plan_81 : decode zb_Mod_plan 81 = .ok (.lstore 7, 2) := by decide +kernel
theorem zd_Mod_plan_83 : decode zb_Mod_plan 83 = .ok (.iload_n 3, 1) := by decide +kernel
theorem zd_Mod_plan_84 : decode zb_Mod_plan 84 = .ok (.ifCond .lt 11, 3) := by decide +kernel
theorem zd_Mod_plan_87 : decode zb_Mod_plan 87 = .ok (.lload 7, 2) := by decide +kernel
theorem zd_Mod_plan_89 : decode zb_Mod_plan 89 = .ok (.lload 4, 2) := by decide +kernel
theorem zd_Mod_plan_91 : decode zb_Mod_plan 91 = .ok (.lcmp, 1) := by decide +kernel
theorem zd_Mod_plan_92 : decode zb_Mod_plan 92 = .ok (.ifCond .le 10, 3) := by decide +kernel
theorem zd_Mod_plan_95 : decode zb_Mod_plan 95 = .ok (.iload 6, 2) := by decide +kernel
theorem zd_Mod_plan_97 : decode zb_Mod_plan 97 = .ok (.istore_n 3, 1) := by decide +kernel
theorem zd_Mod_plan_98 : decode zb_Mod_plan 98 = .ok (.lload 7, 2) := by decide +kernel
theorem zd_Mod_plan_100 : decode zb_Mod_plan 100 = .ok (.lstore 4, 2) := by decide +kernel
theorem zd_Mod_plan_102 : decode zb_Mod_plan 102 = .ok (.iinc 6 1, 3) := by decide +kernel
theorem zd_Mod_plan_105 : decode zb_Mod_plan 105 = .ok (.goto (-49), 3) := by decide +kernel
theorem zd_Mod_plan_108 : decode zb_Mod_plan 108 = .ok (.aload_n 0, 1) := by decide +kernel
theorem zd_Mod_plan_109 : decode zb_Mod_plan 109 = .ok (.invokevirtual 213, 3) := by decide +kernel
theorem zd_Mod_plan_112 : decode zb_Mod_plan 112 = .ok (.iload_n 3, 1) := by decide +kernel
theorem zd_Mod_plan_113 : decode zb_Mod_plan 113 = .ok (.ireturn, 1) := by decide +kernel
set_option maxHeartbeats 4000000 in
theorem zl_Mod_plan_L102 {p : Program} {l : Launch} {e : Env} {s : State} {m : MethodId} {args : Array Value} {below : List Frame} {meth : Method} {c : Code} {D : va_G} {cA : Nat → ClassId} {ad : Nat → Nat} {A : Nat → Prop} (B : zu_B p s m args c zb_Mod_plan 9 "StonePostModel" D cA ad A) (hret : meth.sig.returnType = (some .int)) (hlk : meth.locks = false) {res : Int32 × IX × LX} {k56 : Int32 → Int32 → Int32 → Int64 → Int32 → IX → LX → Option (Int32 × IX × LX)} (hk56 : ∀ (x1 : Int32) (x2 : Int32) (x3 : Int32) (x4 : Int64) (x6 : Int32) (X : IX) (Y : LX) (H : Heap) (locs : List Loc) (ls : Array Slot), va_P D zu_cl (zu_pic cA ad X Y) H → va_S A s.heap H locs → lv_has ls 9 [(0, .ref (ad 95)), (1, .int x1), (2, .int x2), (3, .int x3), (4, .long x4), (6, .int x6)] → k56 x1 x2 x3 x4 x6 X Y = some res → W p l e zR_Mod_plan s m args below meth c H locs 0 0 (MQ below (zu_Qi D cA ad A res.1 res.2.1 res.2.2) args s 0 0 A) (F0 m 56 ls [])) (x1 : Int32) (x2 : Int32) (x3 : Int32) (x4 : Int64) (x6 : Int32) (X : IX) (Y : LX) (H : Heap) (locs : List Loc) (ls : Array Slot) (hP : va_P D zu_cl (zu_pic cA ad X Y) H) (hS : va_S A s.heap H locs) (hl : lv_has ls 9 [(0, .ref (ad 95)), (1, .int x1), (2, .int x2), (3, .int x3), (4, .long x4), (6, .int x6)]) (hf : fn_Mod_plan_L102 k56 x1 x2 x3 x4 x6 X Y = some res) : W p l e zR_Mod_plan s m args below meth c H locs 0 0 (MQ below (zu_Qi D cA ad A res.1 res.2.1 res.2.2) args s 0 0 A) (F0 m 102 ls []) := by
  obtain ⟨hx, hb, hml, hown, hts, hST⟩ := id B
  unfold fn_Mod_plan_L102 at hf
  obtain ⟨v27, ev27, hf⟩ := zu_nx_e hf
  refine lv_iinc (v := v27) (lv' := [(6, .int v27), (0, .ref (ad 95)), (1, .int x1), (2, .int x2), (3, .int x3), (4, .long x4)]) hx hb zd_Mod_plan_102 hl (k := 5) rfl (by rw [ev27]; rfl) (by decide) rfl (fun ls hl => ?_)
  clear ev27
  refine lv_goto (tgt := 56) hx hb zd_Mod_plan_105 (by decide) ?_
  exact hk56 x1 x2 x3 x4 v27 X Y _ _ _ hP hS (lv_sub hl [1, 2, 3, 4, 5, 0] rfl) hf
set_option maxHeartbeats 4000000 in
theorem zl_Mod_plan_L95 {p : Program} {l : Launch} {e : Env} {s : State} {m : MethodId} {args : Array Value} {below : List Frame} {meth : Method} {c : Code} {D : va_G} {cA : Nat → ClassId} {ad : Nat → Nat} {A : Nat → Prop} (B : zu_B p s m args c zb_Mod_plan 9 "StonePostModel" D cA ad A) (hret : meth.sig.returnType = (some .int)) (hlk : meth.locks = false) {res : Int32 × IX × LX} {k56 : Int32 → Int32 → Int32 → Int64 → Int32 → IX → LX → Option (Int32 × IX × LX)} (hk56 : ∀ (x1 : Int32) (x2 : Int32) (x3 : Int32) (x4 : Int64) (x6 : Int32) (X : IX) (Y : LX) (H : Heap) (locs : List Loc) (ls : Array Slot), va_P D zu_cl (zu_pic cA ad X Y) H → va_S A s.heap H locs → lv_has ls 9 [(0, .ref (ad 95)), (1, .int x1), (2, .int x2), (3, .int x3), (4, .long x4), (6, .int x6)] → k56 x1 x2 x3 x4 x6 X Y = some res → W p l e zR_Mod_plan s m args below meth c H locs 0 0 (MQ below (zu_Qi D cA ad A res.1 res.2.1 res.2.2) args s 0 0 A) (F0 m 56 ls [])) (x1 : Int32) (x2 : Int32) (x6 : Int32) (x7 : Int64) (X : IX) (Y : LX) (H : Heap) (locs : List Loc) (ls : Array Slot) (hP : va_P D zu_cl (zu_pic cA ad X Y) H) (hS : va_S A s.heap H locs) (hl : lv_has ls 9 [(0, .ref (ad 95)), (1, .int x1), (2, .int x2), (6, .int x6), (7, .long x7)]) (hf : fn_Mod_plan_L95 k56 x1 x2 x6 x7 X Y = some res) : W p l e zR_Mod_plan s m args below meth c H locs 0 0 (MQ below (zu_Qi D cA ad A res.1 res.2.1 res.2.2) args s 0 0 A) (F0 m 95 ls []) := by
  obtain ⟨hx, hb, hml, hown, hts, hST⟩ := id B
  unfold fn_Mod_plan_L95 at hf
  refine lv_iload hx hb zd_Mod_plan_95 (lv_at hl 3 rfl) ?_
  refine lv_istore_n (lv' := [(3, .int x6), (0, .ref (ad 95)), (1, .int x1), (2, .int x2), (6, .int x6), (7, .long x7)]) hx hb zd_Mod_plan_97 rfl hl (by decide) rfl (fun ls hl => ?_)
  refine lv_lload hx hb zd_Mod_plan_98 (lv_at hl 5 rfl) ?_
  refine lv_lstore (lv' := [(4, .long x7), (3, .int x6), (0, .ref (ad 95)), (1, .int x1), (2, .int x2), (6, .int x6), (7, .long x7)]) hx hb zd_Mod_plan_100 hl (by decide) rfl (fun ls hl => ?_)
  exact zl_Mod_plan_L102 B hret hlk hk56 x1 x2 x6 x7 x6 X Y _ _ _ hP hS (lv_sub hl [2, 3, 4, 1, 0, 5] rfl) hf
set_option maxHeartbeats 4000000 in
theorem zl_Mod_plan_B56 {p : Program} {l : Launch} {e : Env} {s : State} {m : MethodId} {args : Array Value} {below : List Frame} {meth : Method} {c : Code} {D : va_G} {cA : Nat → ClassId} {ad : Nat → Nat} {A : Nat → Prop} (B : zu_B p s m args c zb_Mod_plan 9 "StonePostModel" D cA ad A) (hret : meth.sig.returnType = (some .int)) (hlk : meth.locks = false) {res : Int32 × IX × LX} {k56 : Int32 → Int32 → Int32 → Int64 → Int32 → IX → LX → Option (Int32 × IX × LX)} (hk56 : ∀ (x1 : Int32) (x2 : Int32) (x3 : Int32) (x4 : Int64) (x6 : Int32) (X : IX) (Y : LX) (H : Heap) (locs : List Loc) (ls : Array Slot), va_P D zu_cl (zu_pic cA ad X Y) H → va_S A s.heap H locs → lv_has ls 9 [(0, .ref (ad 95)), (1, .int x1), (2, .int x2), (3, .int x3), (4, .long x4), (6, .int x6)] → k56 x1 x2 x3 x4 x6 X Y = some res → W p l e zR_Mod_plan s m args below meth c H locs 0 0 (MQ below (zu_Qi D cA ad A res.1 res.2.1 res.2.2) args s 0 0 A) (F0 m 56 ls [])) (x1 : Int32) (x2 : Int32) (x3 : Int32) (x4 : Int64) (x6 : Int32) (X : IX) (Y : LX) (H : Heap) (locs : List Loc) (ls : Array Slot) (hP : va_P D zu_cl (zu_pic cA ad X Y) H) (hS : va_S A s.heap H locs) (hl : lv_has ls 9 [(0, .ref (ad 95)), (1, .int x1), (2, .int x2), (3, .int x3), (4, .long x4), (6, .int x6)]) (hf : fn_Mod_plan_B56 k56 x1 x2 x3 x4 x6 X Y = some res) : W p l e zR_Mod_plan s m args below meth c H locs 0 0 (MQ below (zu_Qi D cA ad A res.1 res.2.1 res.2.2) args s 0 0 A) (F0 m 56 ls []) := by
  obtain ⟨hx, hb, hml, hown, hts, hST⟩ := id B
  unfold fn_Mod_plan_B56 at hf
  refine lv_iload hx hb zd_Mod_plan_56 (lv_at hl 5 rfl) ?_
  refine lv_iconst (v := 1) hx hb zd_Mod_plan_58 (by decide) ?_
  refine lv_aload_n hx hb zd_Mod_plan_59 rfl (lv_at hl 0 rfl) ?_
  refine zg_Mod_s B hP rfl zq_861 zd_Mod_plan_60 ?_
  refine lv_iconst (v := 1) hx hb zd_Mod_plan_63 (by decide) ?_
  refine zr_iald (j := 1) (by decide) B hP rfl (by decide) rfl (by decide) zd_Mod_plan_64 ?_
  refine lv_ishl hx hb zd_Mod_plan_65 ?_
  refine lv_icmp_ge (tgt := 108) hx hb zd_Mod_plan_66 (by decide) (fun c16 => ?_) (fun c16 => ?_)
  · have hf := zu_t c16 hf
    refine lv_aload_n hx hb zd_Mod_plan_108 rfl (lv_at hl 0 rfl) ?_
    obtain ⟨X17, hq18, hf⟩ := zu_b1_e hf
    refine zw_Mod_putsBack (rest := []) B hP hS hq18 zq_1174 (Nat.le_of_ble_eq_true rfl) (Nat.le_of_ble_eq_true rfl) hl.1 rfl (Nat.le_of_ble_eq_true rfl) zd_Mod_plan_109 (by decide) (fun H locs hP hS => ?_)
    clear hq18
    refine lv_iload_n hx hb zd_Mod_plan_112 rfl (lv_at hl 3 rfl) ?_
    obtain rfl := Option.some.inj hf
    exact zr_iret hx hb hret hlk hP hS zd_Mod_plan_113
  · have hf := zu_f c16 hf
    refine lv_aload_n hx hb zd_Mod_plan_69 rfl (lv_at hl 0 rfl) ?_
    refine lv_iload hx hb zd_Mod_plan_70 (lv_at hl 5 rfl) ?_
    obtain ⟨X19, hq20, hf⟩ := zu_b1_e hf
    refine zw_Mod_chooses (rest := []) B hP hS hq20 zq_1166 (Nat.le_of_ble_eq_true rfl) (Nat.le_of_ble_eq_true rfl) hl.1 rfl (Nat.le_of_ble_eq_true rfl) zd_Mod_plan_72 (by decide) (fun H locs hP hS => ?_)
    clear hq20
    refine lv_aload_n hx hb zd_Mod_plan_75 rfl (lv_at hl 0 rfl) ?_
    refine lv_iload_n hx hb zd_Mod_plan_76 rfl (lv_at hl 1 rfl) ?_
    refine lv_iload_n hx hb zd_Mod_plan_77 rfl (lv_at hl 2 rfl) ?_
    obtain ⟨v21, X22, Y23, hq24, hf⟩ := zu_b3_e hf
    refine zw_Mod_homeParts (rest := []) B hP hS hq24 zq_1170 (Nat.le_of_ble_eq_true rfl) (Nat.le_of_ble_eq_true rfl) hl.1 rfl (Nat.le_of_ble_eq_true rfl) zd_Mod_plan_78 (by decide) (fun H locs hP hS => ?_)
    clear hq24
    refine lv_lstore (lv' := [(7, .long v21), (0, .ref (ad 95)), (1, .int x1), (2, .int x2), (3, .int x3), (4, .long x4), (6, .int x6)]) hx hb zd_Mod_plan_81 hl (by decide) rfl (fun ls hl => ?_)
    refine lv_iload_n hx hb zd_Mod_plan_83 rfl (lv_at hl 4 rfl) ?_
    refine lv_if_lt (tgt := 95) hx hb zd_Mod_plan_84 (by decide) (fun c25 => ?_) (fun c25 => ?_)
    · have hf := zu_t c25 hf
      exact zl_Mod_plan_L95 B hret hlk hk56 x1 x2 x6 v21 X22 Y23 _ _ _ hP hS (lv_sub hl [1, 2, 3, 6, 0] rfl) hf
    · have hf := zu_f c25 hf
      refine lv_lload hx hb zd_Mod_plan_87 (lv_at hl 0 rfl) ?_
      refine lv_lload hx hb zd_Mod_plan_89 (lv_at hl 5 rfl) ?_
      refine W.lcmp hx hb zd_Mod_plan_91 ?_
      refine lv_if_le (tgt := 102) hx hb zd_Mod_plan_92 (by decide) (fun c26 => ?_) (fun c26 => ?_)
      · have hf := zu_t c26 hf
        exact zl_Mod_plan_L102 B hret hlk hk56 x1 x2 x3 x4 x6 X22 Y23 _ _ _ hP hS (lv_sub hl [1, 2, 3, 4, 5, 6] rfl) hf
      · have hf := zu_f c26 hf
        exact zl_Mod_plan_L95 B hret hlk hk56 x1 x2 x6 v21 X22 Y23 _ _ _ hP hS (lv_sub hl [1, 2, 3, 6, 0] rfl) hf
theorem zl_Mod_plan_L56 {p : Program} {l : Launch} {e : Env} {s : State} {m : MethodId} {args : Array Value} {below : List Frame} {meth : Method} {c : Code} {D : va_G} {cA : Nat → ClassId} {ad : Nat → Nat} {A : Nat → Prop} (B : zu_B p s m args c zb_Mod_plan 9 "StonePostModel" D cA ad A) (hret : meth.sig.returnType = (some .int)) (hlk : meth.locks = false) {res : Int32 × IX × LX} : ∀ (n : Nat) (x1 : Int32) (x2 : Int32) (x3 : Int32) (x4 : Int64) (x6 : Int32) (X : IX) (Y : LX) (H : Heap) (locs : List Loc) (ls : Array Slot), va_P D zu_cl (zu_pic cA ad X Y) H → va_S A s.heap H locs → lv_has ls 9 [(0, .ref (ad 95)), (1, .int x1), (2, .int x2), (3, .int x3), (4, .long x4), (6, .int x6)] → fn_Mod_plan_L56 n x1 x2 x3 x4 x6 X Y = some res → W p l e zR_Mod_plan s m args below meth c H locs 0 0 (MQ below (zu_Qi D cA ad A res.1 res.2.1 res.2.2) args s 0 0 A) (F0 m 56 ls []) := by
  intro n
  induction n with
  | zero =>
    intro x1 x2 x3 x4 x6 X Y H locs ls hP hS hl hf
    exact (Option.some_ne_none _ hf.symm).elim
  | succ n ih =>
    intro x1 x2 x3 x4 x6 X Y H locs ls hP hS hl hf
    exact zl_Mod_plan_B56 B hret hlk ih x1 x2 x3 x4 x6 X Y H locs ls hP hS hl  hf
set_option maxHeartbeats 4000000 in
theorem zl_Mod_plan_L19 {p : Program} {l : Launch} {e : Env} {s : State} {m : MethodId} {args : Array Value} {below : List Frame} {meth : Method} {c : Code} {D : va_G} {cA : Nat → ClassId} {ad : Nat → Nat} {A : Nat → Prop} (B : zu_B p s m args c zb_Mod_plan 9 "StonePostModel" D cA ad A) (hret : meth.sig.returnType = (some .int)) (hlk : meth.locks = false) {res : Int32 × IX × LX} (X : IX) (Y : LX) (H : Heap) (locs : List Loc) (ls : Array Slot) (hP : va_P D zu_cl (zu_pic cA ad X Y) H) (hS : va_S A s.heap H locs) (hl : lv_has ls 9 [(0, .ref (ad 95))]) (hf : fn_Mod_plan_L19 X Y = some res) : W p l e zR_Mod_plan s m args below meth c H locs 0 0 (MQ below (zu_Qi D cA ad A res.1 res.2.1 res.2.2) args s 0 0 A) (F0 m 19 ls []) := by
  obtain ⟨hx, hb, hml, hown, hts, hST⟩ := id B
  unfold fn_Mod_plan_L19 at hf
  refine lv_aload_n hx hb zd_Mod_plan_19 rfl (lv_at hl 0 rfl) ?_
  refine lv_ldc (v := -1000001) hx hb hown (hts _ zq_943) zd_Mod_plan_20 ?_
  obtain ⟨v13, X14, hq15, hf⟩ := zu_b2_e hf
  refine zw_Mod_finds (rest := []) B hP hS hq15 zq_944 (Nat.le_of_ble_eq_true rfl) (Nat.le_of_ble_eq_true rfl) hl.1 rfl (Nat.le_of_ble_eq_true rfl) zd_Mod_plan_22 (by decide) (fun H locs hP hS => ?_)
  clear hq15
  obtain rfl := Option.some.inj hf
  exact zr_iret hx hb hret hlk hP hS zd_Mod_plan_25
set_option maxHeartbeats 4000000 in
theorem zl_Mod_plan {p : Program} {l : Launch} {e : Env} {s : State} {m : MethodId} {args : Array Value} {below : List Frame} {meth : Method} {c : Code} {D : va_G} {cA : Nat → ClassId} {ad : Nat → Nat} {A : Nat → Prop} (B : zu_B p s m args c zb_Mod_plan 9 "StonePostModel" D cA ad A) (hret : meth.sig.returnType = (some .int)) (hlk : meth.locks = false) {res : Int32 × IX × LX} {a1 : Int32} {a2 : Int32} {X : IX} {Y : LX} (H : Heap) (locs : List Loc) (ls : Array Slot) (hP : va_P D zu_cl (zu_pic cA ad X Y) H) (hS : va_S A s.heap H locs) (hl : lv_has ls 9 [(0, .ref (ad 95)), (1, .int a1), (2, .int a2)]) (hf : fn_Mod_plan a1 a2 X Y = some res) : W p l e zR_Mod_plan s m args below meth c H locs 0 0 (MQ below (zu_Qi D cA ad A res.1 res.2.1 res.2.2) args s 0 0 A) (F0 m 0 ls []) := by
  obtain ⟨hx, hb, hml, hown, hts, hST⟩ := id B
  unfold fn_Mod_plan at hf
  refine lv_iload_n hx hb zd_Mod_plan_0 rfl (lv_at hl 1 rfl) ?_
  obtain ⟨v1, hq2, hf⟩ := zu_b1_e hf
  refine zw_Mod_isCell (rest := []) B hP hS hq2 zq_935 (Nat.le_of_ble_eq_true rfl) (Nat.le_of_ble_eq_true rfl) hl.1 rfl (Nat.le_of_ble_eq_true rfl) zd_Mod_plan_1 (by decide) (fun H locs hP hS => ?_)
  clear hq2
  refine lv_if_eq (tgt := 19) hx hb zd_Mod_plan_4 (by decide) (fun c3 => ?_) (fun c3 => ?_)
  · have hf := zu_t c3 hf
    exact zl_Mod_plan_L19 B hret hlk X Y _ _ _ hP hS (lv_sub hl [0] rfl) hf
  · have hf := zu_f c3 hf
    refine lv_iload_n hx hb zd_Mod_plan_7 rfl (lv_at hl 2 rfl) ?_
    refine lv_i2l hx hb zd_Mod_plan_8 rfl ?_
    refine lv_lconst (v := 1) hx hb zd_Mod_plan_9 (by decide) ?_
    refine lv_ldc2 (v := 8) hx hb hown (hts _ zq_983) zd_Mod_plan_10 ?_
    obtain ⟨v4, hq5, hf⟩ := zu_b1_e hf
    refine zw_Mod_in (rest := []) B hP hS hq5 zq_939 (Nat.le_of_ble_eq_true rfl) (Nat.le_of_ble_eq_true rfl) hl.1 rfl (Nat.le_of_ble_eq_true rfl) zd_Mod_plan_13 (by decide) (fun H locs hP hS => ?_)
    clear hq5
    refine lv_if_ne (tgt := 26) hx hb zd_Mod_plan_16 (by decide) (fun c6 => ?_) (fun c6 => ?_)
    · have hf := zu_f c6 hf
      refine lv_aload_n hx hb zd_Mod_plan_26 rfl (lv_at hl 0 rfl) ?_
      refine zg_Mod_s B hP rfl zq_861 zd_Mod_plan_27 ?_
      refine lv_iconst (v := 1) hx hb zd_Mod_plan_30 (by decide) ?_
      refine zr_iald (j := 1) (by decide) B hP rfl (by decide) rfl (by decide) zd_Mod_plan_31 ?_
      refine lv_bipush (v := 8) hx hb zd_Mod_plan_32 (by decide) ?_
      refine lv_icmp_le (tgt := 44) hx hb zd_Mod_plan_34 (by decide) (fun c7 => ?_) (fun c7 => ?_)
      · have hf := zu_t c7 hf
        refine lv_aload_n hx hb zd_Mod_plan_44 rfl (lv_at hl 0 rfl) ?_
        obtain ⟨X8, hq9, hf⟩ := zu_b1_e hf
        refine zw_Mod_puts (rest := []) B hP hS hq9 zq_1162 (Nat.le_of_ble_eq_true rfl) (Nat.le_of_ble_eq_true rfl) hl.1 rfl (Nat.le_of_ble_eq_true rfl) zd_Mod_plan_45 (by decide) (fun H locs hP hS => ?_)
        clear hq9
        refine lv_iconst (v := -1) hx hb zd_Mod_plan_48 (by decide) ?_
        refine lv_istore_n (lv' := [(3, .int (-1 : Int32)), (0, .ref (ad 95)), (1, .int a1), (2, .int a2)]) hx hb zd_Mod_plan_49 rfl hl (by decide) rfl (fun ls hl => ?_)
        refine lv_lconst (v := 0) hx hb zd_Mod_plan_50 (by decide) ?_
        refine lv_lstore (lv' := [(4, .long (0 : Int64)), (3, .int (-1 : Int32)), (0, .ref (ad 95)), (1, .int a1), (2, .int a2)]) hx hb zd_Mod_plan_51 hl (by decide) rfl (fun ls hl => ?_)
        refine lv_iconst (v := 0) hx hb zd_Mod_plan_53 (by decide) ?_
        refine lv_istore (lv' := [(6, .int (0 : Int32)), (4, .long (0 : Int64)), (3, .int (-1 : Int32)), (0, .ref (ad 95)), (1, .int a1), (2, .int a2)]) hx hb zd_Mod_plan_54 hl (by decide) rfl (fun ls hl => ?_)
        exact zl_Mod_plan_L56 B hret hlk 400 a1 a2 (-1 : Int32) (0 : Int64) (0 : Int32) X8 Y _ _ _ hP hS (lv_sub hl [3, 4, 5, 2, 1, 0] rfl) hf
      · have hf := zu_f c7 hf
        refine lv_aload_n hx hb zd_Mod_plan_37 rfl (lv_at hl 0 rfl) ?_
        refine lv_ldc (v := -1000007) hx hb hown (hts _ zq_1161) zd_Mod_plan_38 ?_
        obtain ⟨v10, X11, hq12, hf⟩ := zu_b2_e hf
        refine zw_Mod_finds (rest := []) B hP hS hq12 zq_944 (Nat.le_of_ble_eq_true rfl) (Nat.le_of_ble_eq_true rfl) hl.1 rfl (Nat.le_of_ble_eq_true rfl) zd_Mod_plan_40 (by decide) (fun H locs hP hS => ?_)
        clear hq12
        obtain rfl := Option.some.inj hf
        exact zr_iret hx hb hret hlk hP hS zd_Mod_plan_43
    · have hf := zu_t c6 hf
      exact zl_Mod_plan_L19 B hret hlk X Y _ _ _ hP hS (lv_sub hl [0] rfl) hf
theorem zC_Mod_plan (l : Launch) {D : va_G} {cA : Nat → ClassId} {ad : Nat → Nat} {A : Nat → Prop} {a1 : Int32} {a2 : Int32} {X : IX} {Y : LX} {res : Int32 × IX × LX} (hf : fn_Mod_plan a1 a2 X Y = some res) : Met l zm_Mod_plan (zu_ws zm_Mod_plan zb_Mod_plan 9 (some .int)) zR_Mod_plan (va_Pc [.ref (ad 95), .int a1, .int a2] (zu_Pre D cA ad A X Y)) (zu_Qi D cA ad A res.1 res.2.1 res.2.2) 0 0 A := by
  refine Met.ofW (cc := zb_Mod_plan) (maxL := 9) (ret := (some .int)) (by decide +kernel) rfl ?_
  intro p e s m args below meth c s₁ B0 hml hv
  obtain ⟨rfl, hP, hST⟩ := hv
  have B : zu_B p s m _ c zb_Mod_plan 9 "StonePostModel" D cA ad A := ⟨B0.exec, B0.bytes, hml, findClass_of_methodNamed B0.named, (fun w hw => atoms_spec (ws := zu_ws zm_Mod_plan zb_Mod_plan 9 (some .int)) B0.pre w (List.mem_cons_of_mem _ hw)), hST⟩
  have hl := lv_entry ([.ref (ad 95), .int a1, .int a2]) (n := 9) (Nat.le_of_ble_eq_true rfl)
  rw [lg_entry_eq]
  generalize (lg_sl ([.ref (ad 95), .int a1, .int a2]) ++ List.replicate (9 - (lg_sl ([.ref (ad 95), .int a1, .int a2])).length) Slot.unset).toArray = ls at hl ⊢
  exact zl_Mod_plan B B0.returns B0.notSynchronized s.heap [] ls hP va_S.rf hl  hf
theorem zw_Mod_plan {p : Program} {l : Launch} {e : Env} {R : Room} {s : State} {m : MethodId} {args : Array Value} {below : List Frame} {meth : Method} {c : Code} {H : Heap} {locs : List Loc} {cells slots : Nat} {Q : State → Prop} {cc : ByteArray} {pc nL : Nat} {ls : Array Slot} {rest st0 : List Value} {D : va_G} {cA : Nat → ClassId} {ad : Nat → Nat} {A : Nat → Prop} {X : IX} {Y : LX} {own : String} {index : Nat} {a1 : Int32} {a2 : Int32} {v1 : Int32} {X1 : IX} {Y1 : LX} (B : zu_B p s m args c cc nL own D cA ad A) (hP : va_P D zu_cl (zu_pic cA ad X Y) H) (hS : va_S A s.heap H locs) (hq : fn_Mod_plan a1 a2 X Y = some (v1, X1, Y1)) (m1 : Cond.methodLink own index zm_Mod_plan ∈ zu_TB) (hR1 : 7 + 1 ≤ R.frames) (hR2 : 8 + (9 + 11) + 165 ≤ R.locals) (hsz : ls.size = nL) (hst : st0 = .int a2 :: .int a1 :: .ref (ad 95) :: rest) (hw : (rest.map fun v => v.category).sum ≤ 8) (hdg : decode cc pc = .ok (.invokevirtual index, 3)) (h00 : cells ≤ R.cells ∧ slots ≤ R.slots) (kk : ∀ (H1 : Heap) (locs1 : List Loc), va_P D zu_cl (zu_pic cA ad X1 Y1) H1 → va_S A s.heap H1 locs1 → W p l e R s m args below meth c H1 locs1 cells slots Q (F0 m (pc + 3) ls (.int v1 :: rest))) : W p l e R s m args below meth c H locs cells slots Q (F0 m pc ls st0) := by
  subst hst
  exact zr_cVi (As := [.int a1, .int a2]) (rest := rest) (n := 2) (C := "StonePostModel") (T := zt_Mod) (N := 23) B hP hS (zC_Mod_plan l  hq) (K := 7) rfl (by decide) (by decide) rfl rfl m1 zq_1158 zq_1159 zq_8 zq_1160 (by decide +kernel) ⟨hR1, hR2⟩ rfl rfl rfl hsz rfl hw hdg h00 kk
abbrev zR_Mod_set : Room := { frames := 2, cells := 0, slots := 0, locals := 43 }
theorem zd_Mod_set_0 : decode zb_Mod_set 0 = .ok (.iload_n 1, 1) := by decide +kernel
theorem zd_Mod_set_1 : decode zb_Mod_set 1 = .ok (.i2l, 1) := by decide +kernel
theorem zd_Mod_set_2 : decode zb_Mod_set 2 = .ok (.lconst 0, 1) := by decide +kernel
theorem zd_Mod_set_3 : decode zb_Mod_set 3 = .ok (.iconst 1, 1) := by decide +kernel
theorem zd_Mod_set_4 : decode zb_Mod_set 4 = .ok (.aload_n 0, 1) := by decide +kernel
theorem zd_Mod_set_5 : decode zb_Mod_set 5 = .ok (.getfield 7, 3) := by decide +kernel
theorem zd_Mod_set_8 : decode zb_Mod_set 8 = .ok (.iconst 1, 1) := by decide +kernel
theorem zd_Mod_set_9 : decode zb_Mod_set 9 = .ok (.iaload, 1) := by decide +kernel
theorem zd_Mod_set_10 : decode zb_Mod_set 10 = .ok (.ishl, 1) := by decide +kernel
theorem zd_Mod_set_11 : decode zb_Mod_set 11 = .ok (.iconst 1, 1) := by decide +kernel
theorem zd_Mod_set_12 : decode zb_Mod_set 12 = .ok (.isub, 1) := by decide +kernel
theorem zd_Mod_set_13 : decode zb_Mod_set 13 = .ok (.i2l, 1) := by decide +kernel
theorem zd_Mod_set_14 : decode zb_Mod_set 14 = .ok (.invokestatic 53, 3) := by decide +kernel
theorem zd_Mod_set_17 : decode zb_Mod_set 17 = .ok (.ifCond .ne 10, 3) := by decide +kernel
theorem zd_Mod_set_20 : decode zb_Mod_set 20 = .ok (.aload_n 0, 1) := by decide +kernel
theorem zd_Mod_set_21 : decode zb_Mod_set 21 = .ok (.ldc 50, 2) := by decide +kernel
theorem zd_Mod_set_23 : decode zb_Mod_set 23 = .ok (.invokevirtual 64, 3) := by decide +kernel
theorem zd_Mod_set_26 : decode zb_Mod_set 26 = .ok (.ireturn, 1) := by decide +kernel
theorem zd_Mod_set_27 : decode zb_Mod_set 27 = .ok (.iconst 0, 1) := by decide +kernel
theorem zd_Mod_set_28 : decode zb_Mod_set 28 = .ok (.istore_n 2, 1) := by decide +kernel
theorem zd_Mod_set_29 : decode zb_Mod_set 29 = .ok (.iconst 0, 1) := by decide +kernel
theorem zd_Mod_set_30 : decode zb_Mod_set 30 = .ok (.istore_n 3, 1) := by decide +kernel
theorem zd_Mod_set_31 : decode zb_Mod_set 31 = .ok (.iload_n 3, 1) := by decide +kernel
theorem zd_Mod_set_32 : decode zb_Mod_set 32 = .ok (.aload_n 0, 1) := by decide +kernel
theorem zd_Mod_set_33 : decode zb_Mod_set 33 = .ok (.getfield 7, 3) := by decide +kernel
theorem zd_Mod_set_36 : decode zb_Mod_set 36 = .ok (.iconst 1, 1) := by decide +kernel
theorem zd_Mod_set_37 : decode zb_Mod_set 37 = .ok (.iaload, 1) := by decide +kernel
theorem zd_Mod_set_38 : decode zb_Mod_set 38 = .ok (.if_icmp .ge 40, 3) := by decide +kernel
theorem zd_Mod_set_41 : decode zb_Mod_set 41 = .ok (.iload_n 2, 1) := by decide +kernel
theorem zd_Mod_set_42 : decode zb_Mod_set 42 = .ok (.iload_n 1, 1) := by decide +kernel
theorem zd_Mod_set_43 : decode zb_Mod_set 43 = .ok (.iload_n 3, 1) := by decide +kernel
theorem zd_Mod_set_44 : decode zb_Mod_set 44 = .ok (.invokestatic 175, 3) := by decide +kernel
theorem zd_Mod_set_47 : decode zb_Mod_set 47 = .ok (.ifCond .eq 7, 3) := by decide +kernel
theorem zd_Mod_set_50 : decode zb_Mod_set 50 = .ok (.iconst 1, 1) := by decide +kernel
theorem zd_Mod_set_51 : decode zb_Mod_set 51 = .ok (.goto 4, 3) := by decide +kernel
theorem zd_Mod_set_54 : decode zb_Mod_set 54 = .ok (.iconst 0, 1) := by decide +kernel
theorem zd_Mod_set_55 : decode zb_Mod_set 55 = .ok (.aload_n 0, 1) := by decide +kernel
theorem zd_Mod_set_56 : decode zb_Mod_set 56 = .ok (.iload_n 3, 1) := by decide +kernel
theorem zd_Mod_set_57 : decode zb_Mod_set 57 = .ok (.bipush 6, 2) := by decide +kernel
theorem zd_Mod_set_59 : decode zb_Mod_set 59 = .ok (.invokevirtual 74, 3) := by decide +kernel
theorem zd_Mod_set_62 : decode zb_Mod_set 62 = .ok (.if_icmp .eq 7, 3) := by decide +kernel
theorem zd_Mod_set_65 : decode zb_Mod_set 65 = .ok (.iconst 1, 1) := by decide +kernel
theorem zd_Mod_set_66 : decode zb_Mod_set 66 = .ok (.goto 4, 3) := by decide +kernel
theorem zd_Mod_set_69 : decode zb_Mod_set 69 = .ok (.iconst 0, 1) := by decide +kernel
theorem zd_Mod_set_70 : decode zb_Mod_set 70 = .ok (.iadd, 1) := by decide +kernel
theorem zd_Mod_set_71 : decode zb_Mod_set 71 = .ok (.istore_n 2, 1) := by decide +kernel
theorem zd_Mod_set_72 : decode zb_Mod_set 72 = .ok (.iinc 3 1, 3) := by decide +kernel
theorem zd_Mod_set_75 : decode zb_Mod_set 75 = .ok (.goto (-44), 3) := by decide +kernel
theorem zd_Mod_set_78 : decode zb_Mod_set 78 = .ok (.aload_n 0, 1) := by decide +kernel
theorem zd_Mod_set_79 : decode zb_Mod_set 79 = .ok (.iload_n 1, 1) := by decide +kernel
theorem zd_Mod_set_80 : decode zb_Mod_set 80 = .ok (.invokevirtual 205, 3) := by decide +kernel
theorem zd_Mod_set_83 : decode zb_Mod_set 83 = .ok (.iload_n 2, 1) := by decide +kernel
theorem zd_Mod_set_84 : decode zb_Mod_set 84 = .ok (.ireturn, 1) := by decide +kernel
set_option maxHeartbeats 4000000 in
theorem zl_Mod_set_L70 {p : Program} {l : Launch} {e : Env} {s : State} {m : MethodId} {args : Array Value} {below : List Frame} {meth : Method} {c : Code} {D : va_G} {cA : Nat → ClassId} {ad : Nat → Nat} {A : Nat → Prop} (B : zu_B p s m args c zb_Mod_set 4 "StonePostModel" D cA ad A) (hret : meth.sig.returnType = (some .int)) (hlk : meth.locks = false) {Y : LX} {res : Int32 × IX} {k31 : Int32 → Int32 → Int32 → IX → Option (Int32 × IX)} (hk31 : ∀ (x1 : Int32) (x2 : Int32) (x3 : Int32) (X : IX) (H : Heap) (locs : List Loc) (ls : Array Slot), va_P D zu_cl (zu_pic cA ad X Y) H → va_S A s.heap H locs → lv_has ls 4 [(0, .ref (ad 95)), (1, .int x1), (2, .int x2), (3, .int x3)] → k31 x1 x2 x3 X = some res → W p l e zR_Mod_set s m args below meth c H locs 0 0 (MQ below (zu_Qi D cA ad A res.1 res.2 Y) args s 0 0 A) (F0 m 31 ls [])) (x1 : Int32) (x3 : Int32) (y0 : Int32) (y1 : Int32) (X : IX) (H : Heap) (locs : List Loc) (ls : Array Slot) (hP : va_P D zu_cl (zu_pic cA ad X Y) H) (hS : va_S A s.heap H locs) (hl : lv_has ls 4 [(0, .ref (ad 95)), (1, .int x1), (3, .int x3)]) (hf : fn_Mod_set_L70 k31 x1 x3 y0 y1 X = some res) : W p l e zR_Mod_set s m args below meth c H locs 0 0 (MQ below (zu_Qi D cA ad A res.1 res.2 Y) args s 0 0 A) (F0 m 70 ls [.int y0, .int y1]) := by
  obtain ⟨hx, hb, hml, hown, hts, hST⟩ := id B
  unfold fn_Mod_set_L70 at hf
  refine lv_iadd hx hb zd_Mod_set_70 ?_
  refine zr_nxi hf (fun v16 hf => ?_)
  refine lv_istore_n (lv' := [(2, .int v16), (0, .ref (ad 95)), (1, .int x1), (3, .int x3)]) hx hb zd_Mod_set_71 rfl hl (by decide) rfl (fun ls hl => ?_)
  obtain ⟨v17, ev17, hf⟩ := zu_nx_e hf
  refine lv_iinc (v := v17) (lv' := [(3, .int v17), (2, .int v16), (0, .ref (ad 95)), (1, .int x1)]) hx hb zd_Mod_set_72 hl (k := 3) rfl (by rw [ev17]; rfl) (by decide) rfl (fun ls hl => ?_)
  clear ev17
  refine lv_goto (tgt := 31) hx hb zd_Mod_set_75 (by decide) ?_
  exact hk31 x1 v16 v17 X _ _ _ hP hS (lv_sub hl [2, 3, 1, 0] rfl) hf
set_option maxHeartbeats 4000000 in
theorem zl_Mod_set_L55 {p : Program} {l : Launch} {e : Env} {s : State} {m : MethodId} {args : Array Value} {below : List Frame} {meth : Method} {c : Code} {D : va_G} {cA : Nat → ClassId} {ad : Nat → Nat} {A : Nat → Prop} (B : zu_B p s m args c zb_Mod_set 4 "StonePostModel" D cA ad A) (hret : meth.sig.returnType = (some .int)) (hlk : meth.locks = false) {Y : LX} {res : Int32 × IX} {k31 : Int32 → Int32 → Int32 → IX → Option (Int32 × IX)} (hk31 : ∀ (x1 : Int32) (x2 : Int32) (x3 : Int32) (X : IX) (H : Heap) (locs : List Loc) (ls : Array Slot), va_P D zu_cl (zu_pic cA ad X Y) H → va_S A s.heap H locs → lv_has ls 4 [(0, .ref (ad 95)), (1, .int x1), (2, .int x2), (3, .int x3)] → k31 x1 x2 x3 X = some res → W p l e zR_Mod_set s m args below meth c H locs 0 0 (MQ below (zu_Qi D cA ad A res.1 res.2 Y) args s 0 0 A) (F0 m 31 ls [])) (x1 : Int32) (x3 : Int32) (y0 : Int32) (y1 : Int32) (X : IX) (H : Heap) (locs : List Loc) (ls : Array Slot) (hP : va_P D zu_cl (zu_pic cA ad X Y) H) (hS : va_S A s.heap H locs) (hl : lv_has ls 4 [(0, .ref (ad 95)), (1, .int x1), (3, .int x3)]) (hf : fn_Mod_set_L55 k31 x1 x3 y0 y1 X = some res) : W p l e zR_Mod_set s m args below meth c H locs 0 0 (MQ below (zu_Qi D cA ad A res.1 res.2 Y) args s 0 0 A) (F0 m 55 ls [.int y0, .int y1]) := by
  obtain ⟨hx, hb, hml, hown, hts, hST⟩ := id B
  unfold fn_Mod_set_L55 at hf
  refine lv_aload_n hx hb zd_Mod_set_55 rfl (lv_at hl 0 rfl) ?_
  refine lv_iload_n hx hb zd_Mod_set_56 rfl (lv_at hl 2 rfl) ?_
  refine lv_bipush (v := 6) hx hb zd_Mod_set_57 (by decide) ?_
  obtain ⟨v13, hq14, hf⟩ := zu_b1_e hf
  refine zw_Mod_its (rest := [.int y0, .int y1]) B hP hS hq14 zq_962 (Nat.le_of_ble_eq_true rfl) (Nat.le_of_ble_eq_true rfl) hl.1 rfl (Nat.le_of_ble_eq_true rfl) zd_Mod_set_59 (by decide) (fun H locs hP hS => ?_)
  clear hq14
  refine lv_icmp_eq (tgt := 69) hx hb zd_Mod_set_62 (by decide) (fun c15 => ?_) (fun c15 => ?_)
  · have hf := zu_t c15 hf
    refine lv_iconst (v := 0) hx hb zd_Mod_set_69 (by decide) ?_
    exact zl_Mod_set_L70 B hret hlk hk31 x1 x3 (0 : Int32) y1 X _ _ _ hP hS (lv_sub hl [0, 1, 2] rfl) hf
  · have hf := zu_f c15 hf
    refine lv_iconst (v := 1) hx hb zd_Mod_set_65 (by decide) ?_
    refine lv_goto (tgt := 70) hx hb zd_Mod_set_66 (by decide) ?_
    exact zl_Mod_set_L70 B hret hlk hk31 x1 x3 (1 : Int32) y1 X _ _ _ hP hS (lv_sub hl [0, 1, 2] rfl) hf
set_option maxHeartbeats 4000000 in
theorem zl_Mod_set_B31 {p : Program} {l : Launch} {e : Env} {s : State} {m : MethodId} {args : Array Value} {below : List Frame} {meth : Method} {c : Code} {D : va_G} {cA : Nat → ClassId} {ad : Nat → Nat} {A : Nat → Prop} (B : zu_B p s m args c zb_Mod_set 4 "StonePostModel" D cA ad A) (hret : meth.sig.returnType = (some .int)) (hlk : meth.locks = false) {Y : LX} {res : Int32 × IX} {k31 : Int32 → Int32 → Int32 → IX → Option (Int32 × IX)} (hk31 : ∀ (x1 : Int32) (x2 : Int32) (x3 : Int32) (X : IX) (H : Heap) (locs : List Loc) (ls : Array Slot), va_P D zu_cl (zu_pic cA ad X Y) H → va_S A s.heap H locs → lv_has ls 4 [(0, .ref (ad 95)), (1, .int x1), (2, .int x2), (3, .int x3)] → k31 x1 x2 x3 X = some res → W p l e zR_Mod_set s m args below meth c H locs 0 0 (MQ below (zu_Qi D cA ad A res.1 res.2 Y) args s 0 0 A) (F0 m 31 ls [])) (x1 : Int32) (x2 : Int32) (x3 : Int32) (X : IX) (H : Heap) (locs : List Loc) (ls : Array Slot) (hP : va_P D zu_cl (zu_pic cA ad X Y) H) (hS : va_S A s.heap H locs) (hl : lv_has ls 4 [(0, .ref (ad 95)), (1, .int x1), (2, .int x2), (3, .int x3)]) (hf : fn_Mod_set_B31 k31 x1 x2 x3 X = some res) : W p l e zR_Mod_set s m args below meth c H locs 0 0 (MQ below (zu_Qi D cA ad A res.1 res.2 Y) args s 0 0 A) (F0 m 31 ls []) := by
  obtain ⟨hx, hb, hml, hown, hts, hST⟩ := id B
  unfold fn_Mod_set_B31 at hf
  refine lv_iload_n hx hb zd_Mod_set_31 rfl (lv_at hl 3 rfl) ?_
  refine lv_aload_n hx hb zd_Mod_set_32 rfl (lv_at hl 0 rfl) ?_
  refine zg_Mod_s B hP rfl zq_861 zd_Mod_set_33 ?_
  refine lv_iconst (v := 1) hx hb zd_Mod_set_36 (by decide) ?_
  refine zr_iald (j := 1) (by decide) B hP rfl (by decide) rfl (by decide) zd_Mod_set_37 ?_
  refine lv_icmp_ge (tgt := 78) hx hb zd_Mod_set_38 (by decide) (fun c7 => ?_) (fun c7 => ?_)
  · have hf := zu_t c7 hf
    refine lv_aload_n hx hb zd_Mod_set_78 rfl (lv_at hl 0 rfl) ?_
    refine lv_iload_n hx hb zd_Mod_set_79 rfl (lv_at hl 1 rfl) ?_
    obtain ⟨X8, hq9, hf⟩ := zu_b1_e hf
    refine zw_Mod_chooses (rest := []) B hP hS hq9 zq_1166 (Nat.le_of_ble_eq_true rfl) (Nat.le_of_ble_eq_true rfl) hl.1 rfl (Nat.le_of_ble_eq_true rfl) zd_Mod_set_80 (by decide) (fun H locs hP hS => ?_)
    clear hq9
    refine lv_iload_n hx hb zd_Mod_set_83 rfl (lv_at hl 2 rfl) ?_
    obtain rfl := Option.some.inj hf
    exact zr_iret hx hb hret hlk hP hS zd_Mod_set_84
  · have hf := zu_f c7 hf
    refine lv_iload_n hx hb zd_Mod_set_41 rfl (lv_at hl 2 rfl) ?_
    refine lv_iload_n hx hb zd_Mod_set_42 rfl (lv_at hl 1 rfl) ?_
    refine lv_iload_n hx hb zd_Mod_set_43 rfl (lv_at hl 3 rfl) ?_
    obtain ⟨v10, hq11, hf⟩ := zu_b1_e hf
    refine zw_Mod_has (rest := [.int x2]) B hP hS hq11 zq_1117 (Nat.le_of_ble_eq_true rfl) (Nat.le_of_ble_eq_true rfl) hl.1 rfl (Nat.le_of_ble_eq_true rfl) zd_Mod_set_44 (by decide) (fun H locs hP hS => ?_)
    clear hq11
    refine lv_if_eq (tgt := 54) hx hb zd_Mod_set_47 (by decide) (fun c12 => ?_) (fun c12 => ?_)
    · have hf := zu_t c12 hf
      refine lv_iconst (v := 0) hx hb zd_Mod_set_54 (by decide) ?_
      exact zl_Mod_set_L55 B hret hlk hk31 x1 x3 (0 : Int32) x2 X _ _ _ hP hS (lv_sub hl [0, 1, 3] rfl) hf
    · have hf := zu_f c12 hf
      refine lv_iconst (v := 1) hx hb zd_Mod_set_50 (by decide) ?_
      refine lv_goto (tgt := 55) hx hb zd_Mod_set_51 (by decide) ?_
      exact zl_Mod_set_L55 B hret hlk hk31 x1 x3 (1 : Int32) x2 X _ _ _ hP hS (lv_sub hl [0, 1, 3] rfl) hf
theorem zl_Mod_set_L31 {p : Program} {l : Launch} {e : Env} {s : State} {m : MethodId} {args : Array Value} {below : List Frame} {meth : Method} {c : Code} {D : va_G} {cA : Nat → ClassId} {ad : Nat → Nat} {A : Nat → Prop} (B : zu_B p s m args c zb_Mod_set 4 "StonePostModel" D cA ad A) (hret : meth.sig.returnType = (some .int)) (hlk : meth.locks = false) {Y : LX} {res : Int32 × IX} : ∀ (n : Nat) (x1 : Int32) (x2 : Int32) (x3 : Int32) (X : IX) (H : Heap) (locs : List Loc) (ls : Array Slot), va_P D zu_cl (zu_pic cA ad X Y) H → va_S A s.heap H locs → lv_has ls 4 [(0, .ref (ad 95)), (1, .int x1), (2, .int x2), (3, .int x3)] → fn_Mod_set_L31 n x1 x2 x3 X = some res → W p l e zR_Mod_set s m args below meth c H locs 0 0 (MQ below (zu_Qi D cA ad A res.1 res.2 Y) args s 0 0 A) (F0 m 31 ls []) := by
  intro n
  induction n with
  | zero =>
    intro x1 x2 x3 X H locs ls hP hS hl hf
    exact (Option.some_ne_none _ hf.symm).elim
  | succ n ih =>
    intro x1 x2 x3 X H locs ls hP hS hl hf
    exact zl_Mod_set_B31 B hret hlk ih x1 x2 x3 X H locs ls hP hS hl  hf
set_option maxHeartbeats 4000000 in
theorem zl_Mod_set {p : Program} {l : Launch} {e : Env} {s : State} {m : MethodId} {args : Array Value} {below : List Frame} {meth : Method} {c : Code} {D : va_G} {cA : Nat → ClassId} {ad : Nat → Nat} {A : Nat → Prop} (B : zu_B p s m args c zb_Mod_set 4 "StonePostModel" D cA ad A) (hret : meth.sig.returnType = (some .int)) (hlk : meth.locks = false) {Y : LX} {res : Int32 × IX} {a1 : Int32} {X : IX} (H : Heap) (locs : List Loc) (ls : Array Slot) (hP : va_P D zu_cl (zu_pic cA ad X Y) H) (hS : va_S A s.heap H locs) (hl : lv_has ls 4 [(0, .ref (ad 95)), (1, .int a1)]) (hf : fn_Mod_set a1 X = some res) : W p l e zR_Mod_set s m args below meth c H locs 0 0 (MQ below (zu_Qi D cA ad A res.1 res.2 Y) args s 0 0 A) (F0 m 0 ls []) := by
  obtain ⟨hx, hb, hml, hown, hts, hST⟩ := id B
  unfold fn_Mod_set at hf
  refine lv_iload_n hx hb zd_Mod_set_0 rfl (lv_at hl 1 rfl) ?_
  refine lv_i2l hx hb zd_Mod_set_1 rfl ?_
  refine lv_lconst (v := 0) hx hb zd_Mod_set_2 (by decide) ?_
  refine lv_iconst (v := 1) hx hb zd_Mod_set_3 (by decide) ?_
  refine lv_aload_n hx hb zd_Mod_set_4 rfl (lv_at hl 0 rfl) ?_
  refine zg_Mod_s B hP rfl zq_861 zd_Mod_set_5 ?_
  refine lv_iconst (v := 1) hx hb zd_Mod_set_8 (by decide) ?_
  refine zr_iald (j := 1) (by decide) B hP rfl (by decide) rfl (by decide) zd_Mod_set_9 ?_
  refine lv_ishl hx hb zd_Mod_set_10 ?_
  refine lv_iconst (v := 1) hx hb zd_Mod_set_11 (by decide) ?_
  refine lv_isub hx hb zd_Mod_set_12 ?_
  refine lv_i2l hx hb zd_Mod_set_13 rfl ?_
  obtain ⟨v1, hq2, hf⟩ := zu_b1_e hf
  refine zw_Mod_in (rest := []) B hP hS hq2 zq_939 (Nat.le_of_ble_eq_true rfl) (Nat.le_of_ble_eq_true rfl) hl.1 rfl (Nat.le_of_ble_eq_true rfl) zd_Mod_set_14 (by decide) (fun H locs hP hS => ?_)
  clear hq2
  refine lv_if_ne (tgt := 27) hx hb zd_Mod_set_17 (by decide) (fun c3 => ?_) (fun c3 => ?_)
  · have hf := zu_f c3 hf
    refine lv_iconst (v := 0) hx hb zd_Mod_set_27 (by decide) ?_
    refine lv_istore_n (lv' := [(2, .int (0 : Int32)), (0, .ref (ad 95)), (1, .int a1)]) hx hb zd_Mod_set_28 rfl hl (by decide) rfl (fun ls hl => ?_)
    refine lv_iconst (v := 0) hx hb zd_Mod_set_29 (by decide) ?_
    refine lv_istore_n (lv' := [(3, .int (0 : Int32)), (2, .int (0 : Int32)), (0, .ref (ad 95)), (1, .int a1)]) hx hb zd_Mod_set_30 rfl hl (by decide) rfl (fun ls hl => ?_)
    exact zl_Mod_set_L31 B hret hlk 400 a1 (0 : Int32) (0 : Int32) X _ _ _ hP hS (lv_sub hl [2, 3, 1, 0] rfl) hf
  · have hf := zu_t c3 hf
    refine lv_aload_n hx hb zd_Mod_set_20 rfl (lv_at hl 0 rfl) ?_
    refine lv_ldc (v := -1000001) hx hb hown (hts _ zq_943) zd_Mod_set_21 ?_
    obtain ⟨v4, X5, hq6, hf⟩ := zu_b2_e hf
    refine zw_Mod_finds (rest := []) B hP hS hq6 zq_944 (Nat.le_of_ble_eq_true rfl) (Nat.le_of_ble_eq_true rfl) hl.1 rfl (Nat.le_of_ble_eq_true rfl) zd_Mod_set_23 (by decide) (fun H locs hP hS => ?_)
    clear hq6
    obtain rfl := Option.some.inj hf
    exact zr_iret hx hb hret hlk hP hS zd_Mod_set_26
theorem zC_Mod_set (l : Launch) {D : va_G} {cA : Nat → ClassId} {ad : Nat → Nat} {A : Nat → Prop} {a1 : Int32} {X : IX} {Y : LX} {res : Int32 × IX} (hf : fn_Mod_set a1 X = some res) : Met l zm_Mod_set (zu_ws zm_Mod_set zb_Mod_set 4 (some .int)) zR_Mod_set (va_Pc [.ref (ad 95), .int a1] (zu_Pre D cA ad A X Y)) (zu_Qi D cA ad A res.1 res.2 Y) 0 0 A := by
  refine Met.ofW (cc := zb_Mod_set) (maxL := 4) (ret := (some .int)) (by decide +kernel) rfl ?_
  intro p e s m args below meth c s₁ B0 hml hv
  obtain ⟨rfl, hP, hST⟩ := hv
  have B : zu_B p s m _ c zb_Mod_set 4 "StonePostModel" D cA ad A := ⟨B0.exec, B0.bytes, hml, findClass_of_methodNamed B0.named, (fun w hw => atoms_spec (ws := zu_ws zm_Mod_set zb_Mod_set 4 (some .int)) B0.pre w (List.mem_cons_of_mem _ hw)), hST⟩
  have hl := lv_entry ([.ref (ad 95), .int a1]) (n := 4) (Nat.le_of_ble_eq_true rfl)
  rw [lg_entry_eq]
  generalize (lg_sl ([.ref (ad 95), .int a1]) ++ List.replicate (4 - (lg_sl ([.ref (ad 95), .int a1])).length) Slot.unset).toArray = ls at hl ⊢
  exact zl_Mod_set B B0.returns B0.notSynchronized s.heap [] ls hP va_S.rf hl  hf
theorem zw_Mod_set {p : Program} {l : Launch} {e : Env} {R : Room} {s : State} {m : MethodId} {args : Array Value} {below : List Frame} {meth : Method} {c : Code} {H : Heap} {locs : List Loc} {cells slots : Nat} {Q : State → Prop} {cc : ByteArray} {pc nL : Nat} {ls : Array Slot} {rest st0 : List Value} {D : va_G} {cA : Nat → ClassId} {ad : Nat → Nat} {A : Nat → Prop} {X : IX} {Y : LX} {own : String} {index : Nat} {a1 : Int32} {v1 : Int32} {X1 : IX} (B : zu_B p s m args c cc nL own D cA ad A) (hP : va_P D zu_cl (zu_pic cA ad X Y) H) (hS : va_S A s.heap H locs) (hq : fn_Mod_set a1 X = some (v1, X1)) (m1 : Cond.methodLink own index zm_Mod_set ∈ zu_TB) (hR1 : 2 + 1 ≤ R.frames) (hR2 : 8 + (4 + 11) + 43 ≤ R.locals) (hsz : ls.size = nL) (hst : st0 = .int a1 :: .ref (ad 95) :: rest) (hw : (rest.map fun v => v.category).sum ≤ 8) (hdg : decode cc pc = .ok (.invokevirtual index, 3)) (h00 : cells ≤ R.cells ∧ slots ≤ R.slots) (kk : ∀ (H1 : Heap) (locs1 : List Loc), va_P D zu_cl (zu_pic cA ad X1 Y) H1 → va_S A s.heap H1 locs1 → W p l e R s m args below meth c H1 locs1 cells slots Q (F0 m (pc + 3) ls (.int v1 :: rest))) : W p l e R s m args below meth c H locs cells slots Q (F0 m pc ls st0) := by
  subst hst
  exact zr_cVi (As := [.int a1]) (rest := rest) (n := 1) (C := "StonePostModel") (T := zt_Mod) (N := 23) B hP hS (zC_Mod_set l  hq) (K := 7) rfl (by decide) (by decide) rfl rfl m1 zq_1179 zq_1180 zq_8 zq_1181 (by decide +kernel) ⟨hR1, hR2⟩ rfl rfl rfl hsz rfl hw hdg h00 kk
abbrev zR_Mod_isTry : Room := { frames := 2, cells := 0, slots := 0, locals := 45 }
theorem zd_Mod_isTry_0 : decode zb_Mod_isTry 0 = .ok (.iload_n 0, 1) := by decide +kernel
theorem zd_Mod_isTry_1 : decode zb_Mod_isTry 1 = .ok (.invokestatic 58, 3) := by decide +kernel
theorem zd_Mod_isTry_4 : decode zb_Mod_isTry 4 = .ok (.ifCond .eq 19, 3) := by decide +kernel
theorem zd_Mod_isTry_7 : decode zb_Mod_isTry 7 = .ok (.iload_n 1, 1) := by decide +kernel
theorem zd_Mod_isTry_8 : decode zb_Mod_isTry 8 = .ok (.i2l, 1) := by decide +kernel
theorem zd_Mod_isTry_9 : decode zb_Mod_isTry 9 = .ok (.lconst 1, 1) := by decide +kernel
theorem zd_Mod_isTry_10 : decode zb_Mod_isTry 10 = .ok (.ldc2_w 216, 3) := by decide +kernel
theorem zd_Mod_isTry_13 : decode zb_Mod_isTry 13 = .ok (.invokestatic 53, 3) := by decide +kernel
theorem zd_Mod_isTry_16 : decode zb_Mod_isTry 16 = .ok (.ifCond .eq 7, 3) := by decide +kernel
theorem zd_Mod_isTry_19 : decode zb_Mod_isTry 19 = .ok (.iconst 1, 1) := by decide +kernel
theorem zd_Mod_isTry_20 : decode zb_Mod_isTry 20 = .ok (.goto 4, 3) := by decide +kernel
theorem zd_Mod_isTry_23 : decode zb_Mod_isTry 23 = .ok (.iconst 0, 1) := by decide +kernel
theorem zd_Mod_isTry_24 : decode zb_Mod_isTry 24 = .ok (.ireturn, 1) := by decide +kernel
set_option maxHeartbeats 4000000 in
theorem zl_Mod_isTry_L24 {p : Program} {l : Launch} {e : Env} {s : State} {m : MethodId} {args : Array Value} {below : List Frame} {meth : Method} {c : Code} {D : va_G} {cA : Nat → ClassId} {ad : Nat → Nat} {A : Nat → Prop} (B : zu_B p s m args c zb_Mod_isTry 2 "StonePostModel" D cA ad A) (hret : meth.sig.returnType = (some .boolean)) (hlk : meth.locks = false) {X : IX} {Y : LX} {res : Int32} (y0 : Int32) (H : Heap) (locs : List Loc) (ls : Array Slot) (hP : va_P D zu_cl (zu_pic cA ad X Y) H) (hS : va_S A s.heap H locs) (hl : lv_has ls 2 []) (hf : fn_Mod_isTry_L24 y0 = some res) : W p l e zR_Mod_isTry s m args below meth c H locs 0 0 (MQ below (zu_Qi D cA ad A res X Y) args s 0 0 A) (F0 m 24 ls [.int y0]) := by
  obtain ⟨hx, hb, hml, hown, hts, hST⟩ := id B
  unfold fn_Mod_isTry_L24 at hf
  obtain ⟨hg7, hf⟩ := zu_gd_e hf
  obtain rfl := Option.some.inj hf
  exact zr_zret hx hb hret hlk hP hS hg7 zd_Mod_isTry_24
set_option maxHeartbeats 4000000 in
theorem zl_Mod_isTry_L23 {p : Program} {l : Launch} {e : Env} {s : State} {m : MethodId} {args : Array Value} {below : List Frame} {meth : Method} {c : Code} {D : va_G} {cA : Nat → ClassId} {ad : Nat → Nat} {A : Nat → Prop} (B : zu_B p s m args c zb_Mod_isTry 2 "StonePostModel" D cA ad A) (hret : meth.sig.returnType = (some .boolean)) (hlk : meth.locks = false) {X : IX} {Y : LX} {res : Int32} (H : Heap) (locs : List Loc) (ls : Array Slot) (hP : va_P D zu_cl (zu_pic cA ad X Y) H) (hS : va_S A s.heap H locs) (hl : lv_has ls 2 []) (hf : fn_Mod_isTry_L23 = some res) : W p l e zR_Mod_isTry s m args below meth c H locs 0 0 (MQ below (zu_Qi D cA ad A res X Y) args s 0 0 A) (F0 m 23 ls []) := by
  obtain ⟨hx, hb, hml, hown, hts, hST⟩ := id B
  unfold fn_Mod_isTry_L23 at hf
  refine lv_iconst (v := 0) hx hb zd_Mod_isTry_23 (by decide) ?_
  exact zl_Mod_isTry_L24 B hret hlk (0 : Int32) _ _ _ hP hS (lv_sub hl [] rfl) hf
set_option maxHeartbeats 4000000 in
theorem zl_Mod_isTry {p : Program} {l : Launch} {e : Env} {s : State} {m : MethodId} {args : Array Value} {below : List Frame} {meth : Method} {c : Code} {D : va_G} {cA : Nat → ClassId} {ad : Nat → Nat} {A : Nat → Prop} (B : zu_B p s m args c zb_Mod_isTry 2 "StonePostModel" D cA ad A) (hret : meth.sig.returnType = (some .boolean)) (hlk : meth.locks = false) {X : IX} {Y : LX} {res : Int32} {a0 : Int32} {a1 : Int32} (H : Heap) (locs : List Loc) (ls : Array Slot) (hP : va_P D zu_cl (zu_pic cA ad X Y) H) (hS : va_S A s.heap H locs) (hl : lv_has ls 2 [(0, .int a0), (1, .int a1)]) (hf : fn_Mod_isTry a0 a1 = some res) : W p l e zR_Mod_isTry s m args below meth c H locs 0 0 (MQ below (zu_Qi D cA ad A res X Y) args s 0 0 A) (F0 m 0 ls []) := by
  obtain ⟨hx, hb, hml, hown, hts, hST⟩ := id B
  unfold fn_Mod_isTry at hf
  refine lv_iload_n hx hb zd_Mod_isTry_0 rfl (lv_at hl 0 rfl) ?_
  obtain ⟨v1, hq2, hf⟩ := zu_b1_e hf
  refine zw_Mod_isCell (rest := []) B hP hS hq2 zq_935 (Nat.le_of_ble_eq_true rfl) (Nat.le_of_ble_eq_true rfl) hl.1 rfl (Nat.le_of_ble_eq_true rfl) zd_Mod_isTry_1 (by decide) (fun H locs hP hS => ?_)
  clear hq2
  refine lv_if_eq (tgt := 23) hx hb zd_Mod_isTry_4 (by decide) (fun c3 => ?_) (fun c3 => ?_)
  · have hf := zu_t c3 hf
    exact zl_Mod_isTry_L23 B hret hlk _ _ _ hP hS (lv_sub hl [] rfl) hf
  · have hf := zu_f c3 hf
    refine lv_iload_n hx hb zd_Mod_isTry_7 rfl (lv_at hl 1 rfl) ?_
    refine lv_i2l hx hb zd_Mod_isTry_8 rfl ?_
    refine lv_lconst (v := 1) hx hb zd_Mod_isTry_9 (by decide) ?_
    refine lv_ldc2 (v := 10) hx hb hown (hts _ zq_1189) zd_Mod_isTry_10 ?_
    obtain ⟨v4, hq5, hf⟩ := zu_b1_e hf
    refine zw_Mod_in (rest := []) B hP hS hq5 zq_939 (Nat.le_of_ble_eq_true rfl) (Nat.le_of_ble_eq_true rfl) hl.1 rfl (Nat.le_of_ble_eq_true rfl) zd_Mod_isTry_13 (by decide) (fun H locs hP hS => ?_)
    clear hq5
    refine lv_if_eq (tgt := 23) hx hb zd_Mod_isTry_16 (by decide) (fun c6 => ?_) (fun c6 => ?_)
    · have hf := zu_t c6 hf
      exact zl_Mod_isTry_L23 B hret hlk _ _ _ hP hS (lv_sub hl [] rfl) hf
    · have hf := zu_f c6 hf
      refine lv_iconst (v := 1) hx hb zd_Mod_isTry_19 (by decide) ?_
      refine lv_goto (tgt := 24) hx hb zd_Mod_isTry_20 (by decide) ?_
      exact zl_Mod_isTry_L24 B hret hlk (1 : Int32) _ _ _ hP hS (lv_sub hl [] rfl) hf
theorem zC_Mod_isTry (l : Launch) {D : va_G} {cA : Nat → ClassId} {ad : Nat → Nat} {A : Nat → Prop} {a0 : Int32} {a1 : Int32} {X : IX} {Y : LX} {res : Int32} (hf : fn_Mod_isTry a0 a1 = some res) : Met l zm_Mod_isTry (zu_ws zm_Mod_isTry zb_Mod_isTry 2 (some .boolean)) zR_Mod_isTry (va_Pc [.int a0, .int a1] (zu_Pre D cA ad A X Y)) (zu_Qi D cA ad A res X Y) 0 0 A := by
  refine Met.ofW (cc := zb_Mod_isTry) (maxL := 2) (ret := (some .boolean)) (by decide +kernel) rfl ?_
  intro p e s m args below meth c s₁ B0 hml hv
  obtain ⟨rfl, hP, hST⟩ := hv
  have B : zu_B p s m _ c zb_Mod_isTry 2 "StonePostModel" D cA ad A := ⟨B0.exec, B0.bytes, hml, findClass_of_methodNamed B0.named, (fun w hw => atoms_spec (ws := zu_ws zm_Mod_isTry zb_Mod_isTry 2 (some .boolean)) B0.pre w (List.mem_cons_of_mem _ hw)), hST⟩
  have hl := lv_entry ([.int a0, .int a1]) (n := 2) (Nat.le_of_ble_eq_true rfl)
  rw [lg_entry_eq]
  generalize (lg_sl ([.int a0, .int a1]) ++ List.replicate (2 - (lg_sl ([.int a0, .int a1])).length) Slot.unset).toArray = ls at hl ⊢
  exact zl_Mod_isTry B B0.returns B0.notSynchronized s.heap [] ls hP va_S.rf hl  hf
theorem zw_Mod_isTry {p : Program} {l : Launch} {e : Env} {R : Room} {s : State} {m : MethodId} {args : Array Value} {below : List Frame} {meth : Method} {c : Code} {H : Heap} {locs : List Loc} {cells slots : Nat} {Q : State → Prop} {cc : ByteArray} {pc nL : Nat} {ls : Array Slot} {rest st0 : List Value} {D : va_G} {cA : Nat → ClassId} {ad : Nat → Nat} {A : Nat → Prop} {X : IX} {Y : LX} {own : String} {index : Nat} {a0 : Int32} {a1 : Int32} {v1 : Int32} (B : zu_B p s m args c cc nL own D cA ad A) (hP : va_P D zu_cl (zu_pic cA ad X Y) H) (hS : va_S A s.heap H locs) (hq : fn_Mod_isTry a0 a1 = some v1) (m1 : Cond.methodLink own index zm_Mod_isTry ∈ zu_TB) (hR1 : 2 + 1 ≤ R.frames) (hR2 : 8 + (2 + 11) + 45 ≤ R.locals) (hsz : ls.size = nL) (hst : st0 = .int a1 :: .int a0 ::  rest) (hw : (rest.map fun v => v.category).sum ≤ 8) (hdg : decode cc pc = .ok (.invokestatic index, 3)) (h00 : cells ≤ R.cells ∧ slots ≤ R.slots) (kk : ∀ (H1 : Heap) (locs1 : List Loc), va_P D zu_cl (zu_pic cA ad X Y) H1 → va_S A s.heap H1 locs1 → W p l e R s m args below meth c H1 locs1 cells slots Q (F0 m (pc + 3) ls (.int v1 :: rest))) : W p l e R s m args below meth c H locs cells slots Q (F0 m pc ls st0) := by
  subst hst
  exact zr_cSi (As := [.int a0, .int a1]) (rest := rest) (n := 2) B hP hS (zC_Mod_isTry l  hq) m1 zq_1187 zq_8 zq_1188 (by decide +kernel) ⟨hR1, hR2⟩ rfl rfl rfl hsz rfl hw hdg h00 kk
abbrev zR_Mod_missed : Room := { frames := 7, cells := 0, slots := 0, locals := 165 }
theorem zd_Mod_missed_0 : decode zb_Mod_missed 0 = .ok (.iload_n 1, 1) := by decide +kernel
theorem zd_Mod_missed_1 : decode zb_Mod_missed 1 = .ok (.iload_n 2, 1) := by decide +kernel
theorem zd_Mod_missed_2 : decode zb_Mod_missed 2 = .ok (.invokestatic 218, 3) := by decide +kernel
theorem zd_Mod_missed_5 : decode zb_Mod_missed 5 = .ok (.ifCond .ne 10, 3) := by decide +kernel
theorem zd_Mod_missed_8 : decode zb_Mod_missed 8 = .ok (.aload_n 0, 1) := by decide +kernel
theorem zd_Mod_missed_9 : decode zb_Mod_missed 9 = .ok (.ldc 50, 2) := by decide +kernel
theorem zd_Mod_missed_11 : decode zb_Mod_missed 11 = .ok (.invokevirtual 64, 3) := by decide +kernel
theorem zd_Mod_missed_14 : decode zb_Mod_missed 14 = .ok (.ireturn, 1) := by decide +kernel
theorem zd_Mod_missed_15 : decode zb_Mod_missed 15 = .ok (.iconst (-1), 1) := by decide +kernel
theorem zd_Mod_missed_16 : decode zb_Mod_missed 16 = .ok (.istore_n 3, 1) := by decide +kernel
theorem zd_Mod_missed_17 : decode zb_Mod_missed 17 = .ok (.lconst 0, 1) := by decide +kernel
theorem zd_Mod_missed_18 : decode zb_Mod_missed 18 = .ok (.lstore 4, 2) := by decide +kernel
theorem zd_Mod_missed_20 : decode zb_Mod_missed 20 = .ok (.iconst 0, 1) := by decide +kernel
theorem zd_Mod_missed_21 : decode zb_Mod_missed 21 = .ok (.istore 6, 2) := by decide +kernel
theorem zd_Mod_missed_23 : decode zb_Mod_missed 23 = .ok (.iload 6, 2) := by decide +kernel
theorem zd_Mod_missed_25 : decode zb_Mod_missed 25 = .ok (.aload_n 0, 1) := by decide +kernel
theorem zd_Mod_missed_26 : decode zb_Mod_missed 26 = .ok (.getfield 7, 3) := by decide +kernel
theorem zd_Mod_missed_29 : decode zb_Mod_missed 29 = .ok (.iconst 1, 1) := by decide +kernel
theorem zd_Mod_missed_30 : decode zb_Mod_missed 30 = .ok (.iaload, 1) := by decide +kernel
theorem zd_Mod_missed_31 : decode zb_Mod_missed 31 = .ok (.if_icmp .ge 73, 3) := by decide +kernel
theorem zd_Mod_missed_34 : decode zb_Mod_missed 34 = .ok (.aload_n 0, 1) := by decide +kernel
theorem zd_Mod_missed_35 : decode zb_Mod_missed 35 = .ok (.iload 6, 2) := by decide +kernel
theorem zd_Mod_missed_37 : decode zb_Mod_missed 37 = .ok (.bipush 7, 2) := by decide +kernel
theorem zd_Mod_missed_39 : decode zb_Mod_missed 39 = .ok (.invokevirtual 74, 3) := by decide +kernel
theorem zd_Mod_missed_42 : decode zb_Mod_missed 42 = .ok (.ifCond .ne 56, 3) := by decide +kernel
theorem zd_Mod_missed_45 : decode zb_Mod_missed 45 = .ok (.aload_n 0, 1) := by decide +kernel
theorem zd_Mod_missed_46 : decode zb_Mod_missed 46 = .ok (.getfield 7, 3) := by decide +kernel
theorem zd_Mod_missed_49 : decode zb_Mod_missed 49 = .ok (.iload 6, 2) := by decide +kernel
theorem zd_Mod_missed_51 : decode zb_Mod_missed 51 = .ok (.bipush 7, 2) := by decide +kernel
theorem zd_Mod_missed_53 : decode zb_Mod_missed 53 = .ok (.invokestatic 70, 3) := by decide +kernel
theorem zd_Mod_missed_56 : decode zb_Mod_missed 56 = .ok (.iconst 1, 1) := by decide +kernel
theorem zd_Mod_missed_57 : decode zb_Mod_missed 57 = .ok (.iastore, 1) := by decide +kernel
theorem zd_Mod_missed_58 : decode zb_Mod_missed 58 = .ok (.aload_n 0, 1) := by decide +kernel
theorem zd_Mod_missed_59 : decode zb_Mod_missed 59 = .ok (.iload_n 1, 1) := by decide +kernel
theorem zd_Mod_missed_60 : decode zb_Mod_missed 60 = .ok (.iload_n 2, 1) := by decide +kernel
theorem zd_Mod_missed_61 : decode zb_Mod_missed 61 = .ok (.invokevirtual 209, 3) := by decide +kernel
theorem zd_Mod_missed_64 : decode zb_Mod_missed 64 = .ok (.lstore 7, 2) := by decide +kernel
theorem zd_Mod_missed_66 : decode zb_Mod_missed 66 = .ok (.aload_n 0, 1) := by decide +kernel
theorem zd_Mod_missed_67 : decode zb_Mod_missed 67 = .ok (.getfield 7, 3) := by decide +kernel
theorem zd_Mod_missed_70 : decode zb_Mod_missed 70 = .ok (.iload 6, 2) := by decide +kernel
theorem zd_Mod_missed_72 : decode zb_Mod_missed 72 = .ok (.bipush 7, 2) := by decide +kernel
theorem zd_Mod_missed_74 : decode zb_Mod_missed 74 = .ok (.invokestatic 70, 3) := by decide +kernel
theorem zd_Mod_missed_77 : decode zb_Mod_missed 77 = .ok (.iconst 0, 1) := by decide +kernel
theorem zd_Mod_missed_78 : decode zb_Mod_missed 78 = .ok (.iastore, 1) := by decide +kernel
theorem zd_Mod_missed_79 : decode zb_Mod_missed 79 = .ok (.iload_n 3, 1) := by decide +kernel
theorem zd_Mod_missed_80 : decode zb_Mod_missed 80 = .ok (.ifCond .lt 11, 3) := by decide +kernel
theorem zd_Mod_missed_83 : decode zb_Mod_missed 83 = .ok (.lload 7, 2) := by decide +kernel
theorem zd_Mod_missed_85 : decode zb_Mod_missed 85 = .ok (.lload 4, 2) := by decide +kernel
theorem zd_Mod_missed_87 : decode zb_Mod_missed 87 = .ok (.lcmp, 1) := by decide +kernel
theorem zd_Mod_missed_88 : decode zb_Mod_missed 88 = .ok (.ifCond .ge 10, 3) := by decide +kernel
theorem zd_Mod_missed_91 : decode zb_Mod_missed 91 = .ok (.iload 6, 2) := by decide +kernel
theorem zd_Mod_missed_93 : decode zb_Mod_missed 93 = .ok (.istore_n 3, 1) := by decide +kernel
theorem zd_Mod_missed_94 : decode zb_Mod_missed 94 = .ok (.lload 7, 2) := by decide +kernel
theorem zd_Mod_missed_96 : decode zb_Mod_missed 96 = .ok (.lstore 4, 2) := by decide +kernel
theorem zd_Mod_missed_98 : decode zb_Mod_missed 98 = .ok (.iinc 6 1, 3) := by decide +kernel
theorem zd_Mod_missed_101 : decode zb_Mod_missed 101 = .ok (.goto (-78), 3) := by decide +kernel
theorem zd_Mod_missed_104 : decode zb_Mod_missed 104 = .ok (.iload_n 3, 1) := by decide +kernel
theorem zd_Mod_missed_105 : decode zb_Mod_missed 105 = .ok (.ifCond .ge 12, 3) := by decide +kernel
theorem zd_Mod_missed_108 : decode zb_Mod_missed 108 = .ok (.aload_n 0, 1) := by decide +kernel
theorem zd_Mod_missed_109 : decode zb_Mod_missed 109 = .ok (.ldc 128, 2) := by decide +kernel
theorem zd_Mod_missed_111 : decode zb_Mod_missed 111 = .ok (.invokevirtual 64, 3) := by decide +kernel
theorem zd_Mod_missed_114 : decode zb_Mod_missed 114 = .ok (.goto 4, 3) := by decide +kernel
theorem zd_Mod_missed_117 : decode zb_Mod_missed 117 = .ok (.iload_n 3, 1) := by decide +kernel
theorem zd_Mod_missed_118 : decode zb_Mod_missed 118 = .ok (.ireturn, 1) := by decide +kernel
set_option maxHeartbeats 4000000 in
theorem zl_Mod_missed_L118 {p : Program} {l : Launch} {e : Env} {s : State} {m : MethodId} {args : Array Value} {below : List Frame} {meth : Method} {c : Code} {D : va_G} {cA : Nat → ClassId} {ad : Nat → Nat} {A : Nat → Prop} (B : zu_B p s m args c zb_Mod_missed 9 "StonePostModel" D cA ad A) (hret : meth.sig.returnType = (some .int)) (hlk : meth.locks = false) {res : Int32 × IX × LX} (y0 : Int32) (X : IX) (Y : LX) (H : Heap) (locs : List Loc) (ls : Array Slot) (hP : va_P D zu_cl (zu_pic cA ad X Y) H) (hS : va_S A s.heap H locs) (hl : lv_has ls 9 []) (hf : fn_Mod_missed_L118 y0 X Y = some res) : W p l e zR_Mod_missed s m args below meth c H locs 0 0 (MQ below (zu_Qi D cA ad A res.1 res.2.1 res.2.2) args s 0 0 A) (F0 m 118 ls [.int y0]) := by
  obtain ⟨hx, hb, hml, hown, hts, hST⟩ := id B
  unfold fn_Mod_missed_L118 at hf
  obtain rfl := Option.some.inj hf
  exact zr_iret hx hb hret hlk hP hS zd_Mod_missed_118
set_option maxHeartbeats 4000000 in
theorem zl_Mod_missed_L98 {p : Program} {l : Launch} {e : Env} {s : State} {m : MethodId} {args : Array Value} {below : List Frame} {meth : Method} {c : Code} {D : va_G} {cA : Nat → ClassId} {ad : Nat → Nat} {A : Nat → Prop} (B : zu_B p s m args c zb_Mod_missed 9 "StonePostModel" D cA ad A) (hret : meth.sig.returnType = (some .int)) (hlk : meth.locks = false) {res : Int32 × IX × LX} {k23 : Int32 → Int32 → Int32 → Int64 → Int32 → IX → LX → Option (Int32 × IX × LX)} (hk23 : ∀ (x1 : Int32) (x2 : Int32) (x3 : Int32) (x4 : Int64) (x6 : Int32) (X : IX) (Y : LX) (H : Heap) (locs : List Loc) (ls : Array Slot), va_P D zu_cl (zu_pic cA ad X Y) H → va_S A s.heap H locs → lv_has ls 9 [(0, .ref (ad 95)), (1, .int x1), (2, .int x2), (3, .int x3), (4, .long x4), (6, .int x6)] → k23 x1 x2 x3 x4 x6 X Y = some res → W p l e zR_Mod_missed s m args below meth c H locs 0 0 (MQ below (zu_Qi D cA ad A res.1 res.2.1 res.2.2) args s 0 0 A) (F0 m 23 ls [])) (x1 : Int32) (x2 : Int32) (x3 : Int32) (x4 : Int64) (x6 : Int32) (X : IX) (Y : LX) (H : Heap) (locs : List Loc) (ls : Array Slot) (hP : va_P D zu_cl (zu_pic cA ad X Y) H) (hS : va_S A s.heap H locs) (hl : lv_has ls 9 [(0, .ref (ad 95)), (1, .int x1), (2, .int x2), (3, .int x3), (4, .long x4), (6, .int x6)]) (hf : fn_Mod_missed_L98 k23 x1 x2 x3 x4 x6 X Y = some res) : W p l e zR_Mod_missed s m args below meth c H locs 0 0 (MQ below (zu_Qi D cA ad A res.1 res.2.1 res.2.2) args s 0 0 A) (F0 m 98 ls []) := by
  obtain ⟨hx, hb, hml, hown, hts, hST⟩ := id B
  unfold fn_Mod_missed_L98 at hf
  obtain ⟨v29, ev29, hf⟩ := zu_nx_e hf
  refine lv_iinc (v := v29) (lv' := [(6, .int v29), (0, .ref (ad 95)), (1, .int x1), (2, .int x2), (3, .int x3), (4, .long x4)]) hx hb zd_Mod_missed_98 hl (k := 5) rfl (by rw [ev29]; rfl) (by decide) rfl (fun ls hl => ?_)
  clear ev29
  refine lv_goto (tgt := 23) hx hb zd_Mod_missed_101 (by decide) ?_
  exact hk23 x1 x2 x3 x4 v29 X Y _ _ _ hP hS (lv_sub hl [1, 2, 3, 4, 5, 0] rfl) hf
set_option maxHeartbeats 4000000 in
theorem zl_Mod_missed_L91 {p : Program} {l : Launch} {e : Env} {s : State} {m : MethodId} {args : Array Value} {below : List Frame} {meth : Method} {c : Code} {D : va_G} {cA : Nat → ClassId} {ad : Nat → Nat} {A : Nat → Prop} (B : zu_B p s m args c zb_Mod_missed 9 "StonePostModel" D cA ad A) (hret : meth.sig.returnType = (some .int)) (hlk : meth.locks = false) {res : Int32 × IX × LX} {k23 : Int32 → Int32 → Int32 → Int64 → Int32 → IX → LX → Option (Int32 × IX × LX)} (hk23 : ∀ (x1 : Int32) (x2 : Int32) (x3 : Int32) (x4 : Int64) (x6 : Int32) (X : IX) (Y : LX) (H : Heap) (locs : List Loc) (ls : Array Slot), va_P D zu_cl (zu_pic cA ad X Y) H → va_S A s.heap H locs → lv_has ls 9 [(0, .ref (ad 95)), (1, .int x1), (2, .int x2), (3, .int x3), (4, .long x4), (6, .int x6)] → k23 x1 x2 x3 x4 x6 X Y = some res → W p l e zR_Mod_missed s m args below meth c H locs 0 0 (MQ below (zu_Qi D cA ad A res.1 res.2.1 res.2.2) args s 0 0 A) (F0 m 23 ls [])) (x1 : Int32) (x2 : Int32) (x6 : Int32) (x7 : Int64) (X : IX) (Y : LX) (H : Heap) (locs : List Loc) (ls : Array Slot) (hP : va_P D zu_cl (zu_pic cA ad X Y) H) (hS : va_S A s.heap H locs) (hl : lv_has ls 9 [(0, .ref (ad 95)), (1, .int x1), (2, .int x2), (6, .int x6), (7, .long x7)]) (hf : fn_Mod_missed_L91 k23 x1 x2 x6 x7 X Y = some res) : W p l e zR_Mod_missed s m args below meth c H locs 0 0 (MQ below (zu_Qi D cA ad A res.1 res.2.1 res.2.2) args s 0 0 A) (F0 m 91 ls []) := by
  obtain ⟨hx, hb, hml, hown, hts, hST⟩ := id B
  unfold fn_Mod_missed_L91 at hf
  refine lv_iload hx hb zd_Mod_missed_91 (lv_at hl 3 rfl) ?_
  refine lv_istore_n (lv' := [(3, .int x6), (0, .ref (ad 95)), (1, .int x1), (2, .int x2), (6, .int x6), (7, .long x7)]) hx hb zd_Mod_missed_93 rfl hl (by decide) rfl (fun ls hl => ?_)
  refine lv_lload hx hb zd_Mod_missed_94 (lv_at hl 5 rfl) ?_
  refine lv_lstore (lv' := [(4, .long x7), (3, .int x6), (0, .ref (ad 95)), (1, .int x1), (2, .int x2), (6, .int x6), (7, .long x7)]) hx hb zd_Mod_missed_96 hl (by decide) rfl (fun ls hl => ?_)
  exact zl_Mod_missed_L98 B hret hlk hk23 x1 x2 x6 x7 x6 X Y _ _ _ hP hS (lv_sub hl [2, 3, 4, 1, 0, 5] rfl) hf
set_option maxHeartbeats 4000000 in
theorem zl_Mod_missed_B23 {p : Program} {l : Launch} {e : Env} {s : State} {m : MethodId} {args : Array Value} {below : List Frame} {meth : Method} {c : Code} {D : va_G} {cA : Nat → ClassId} {ad : Nat → Nat} {A : Nat → Prop} (B : zu_B p s m args c zb_Mod_missed 9 "StonePostModel" D cA ad A) (hret : meth.sig.returnType = (some .int)) (hlk : meth.locks = false) {res : Int32 × IX × LX} {k23 : Int32 → Int32 → Int32 → Int64 → Int32 → IX → LX → Option (Int32 × IX × LX)} (hk23 : ∀ (x1 : Int32) (x2 : Int32) (x3 : Int32) (x4 : Int64) (x6 : Int32) (X : IX) (Y : LX) (H : Heap) (locs : List Loc) (ls : Array Slot), va_P D zu_cl (zu_pic cA ad X Y) H → va_S A s.heap H locs → lv_has ls 9 [(0, .ref (ad 95)), (1, .int x1), (2, .int x2), (3, .int x3), (4, .long x4), (6, .int x6)] → k23 x1 x2 x3 x4 x6 X Y = some res → W p l e zR_Mod_missed s m args below meth c H locs 0 0 (MQ below (zu_Qi D cA ad A res.1 res.2.1 res.2.2) args s 0 0 A) (F0 m 23 ls [])) (x1 : Int32) (x2 : Int32) (x3 : Int32) (x4 : Int64) (x6 : Int32) (X : IX) (Y : LX) (H : Heap) (locs : List Loc) (ls : Array Slot) (hP : va_P D zu_cl (zu_pic cA ad X Y) H) (hS : va_S A s.heap H locs) (hl : lv_has ls 9 [(0, .ref (ad 95)), (1, .int x1), (2, .int x2), (3, .int x3), (4, .long x4), (6, .int x6)]) (hf : fn_Mod_missed_B23 k23 x1 x2 x3 x4 x6 X Y = some res) : W p l e zR_Mod_missed s m args below meth c H locs 0 0 (MQ below (zu_Qi D cA ad A res.1 res.2.1 res.2.2) args s 0 0 A) (F0 m 23 ls []) := by
  obtain ⟨hx, hb, hml, hown, hts, hST⟩ := id B
  unfold fn_Mod_missed_B23 at hf
  refine lv_iload hx hb zd_Mod_missed_23 (lv_at hl 5 rfl) ?_
  refine lv_aload_n hx hb zd_Mod_missed_25 rfl (lv_at hl 0 rfl) ?_
  refine zg_Mod_s B hP rfl zq_861 zd_Mod_missed_26 ?_
  refine lv_iconst (v := 1) hx hb zd_Mod_missed_29 (by decide) ?_
  refine zr_iald (j := 1) (by decide) B hP rfl (by decide) rfl (by decide) zd_Mod_missed_30 ?_
  refine lv_icmp_ge (tgt := 104) hx hb zd_Mod_missed_31 (by decide) (fun c7 => ?_) (fun c7 => ?_)
  · have hf := zu_t c7 hf
    refine lv_iload_n hx hb zd_Mod_missed_104 rfl (lv_at hl 3 rfl) ?_
    refine lv_if_ge (tgt := 117) hx hb zd_Mod_missed_105 (by decide) (fun c8 => ?_) (fun c8 => ?_)
    · have hf := zu_t c8 hf
      refine lv_iload_n hx hb zd_Mod_missed_117 rfl (lv_at hl 3 rfl) ?_
      exact zl_Mod_missed_L118 B hret hlk x3 X Y _ _ _ hP hS (lv_sub hl [] rfl) hf
    · have hf := zu_f c8 hf
      refine lv_aload_n hx hb zd_Mod_missed_108 rfl (lv_at hl 0 rfl) ?_
      refine lv_ldc (v := -1000004) hx hb hown (hts _ zq_1041) zd_Mod_missed_109 ?_
      obtain ⟨v9, X10, hq11, hf⟩ := zu_b2_e hf
      refine zw_Mod_finds (rest := []) B hP hS hq11 zq_944 (Nat.le_of_ble_eq_true rfl) (Nat.le_of_ble_eq_true rfl) hl.1 rfl (Nat.le_of_ble_eq_true rfl) zd_Mod_missed_111 (by decide) (fun H locs hP hS => ?_)
      clear hq11
      refine lv_goto (tgt := 118) hx hb zd_Mod_missed_114 (by decide) ?_
      exact zl_Mod_missed_L118 B hret hlk v9 X10 Y _ _ _ hP hS (lv_sub hl [] rfl) hf
  · have hf := zu_f c7 hf
    refine lv_aload_n hx hb zd_Mod_missed_34 rfl (lv_at hl 0 rfl) ?_
    refine lv_iload hx hb zd_Mod_missed_35 (lv_at hl 5 rfl) ?_
    refine lv_bipush (v := 7) hx hb zd_Mod_missed_37 (by decide) ?_
    obtain ⟨v12, hq13, hf⟩ := zu_b1_e hf
    refine zw_Mod_its (rest := []) B hP hS hq13 zq_962 (Nat.le_of_ble_eq_true rfl) (Nat.le_of_ble_eq_true rfl) hl.1 rfl (Nat.le_of_ble_eq_true rfl) zd_Mod_missed_39 (by decide) (fun H locs hP hS => ?_)
    clear hq13
    refine lv_if_ne (tgt := 98) hx hb zd_Mod_missed_42 (by decide) (fun c14 => ?_) (fun c14 => ?_)
    · have hf := zu_f c14 hf
      exact zl_Mod_missed_L98 B hret hlk hk23 x1 x2 x3 x4 x6 X Y _ _ _ hP hS (lv_sub hl [0, 1, 2, 3, 4, 5] rfl) hf
    · have hf := zu_t c14 hf
      refine lv_aload_n hx hb zd_Mod_missed_45 rfl (lv_at hl 0 rfl) ?_
      refine zg_Mod_s B hP rfl zq_861 zd_Mod_missed_46 ?_
      refine lv_iload hx hb zd_Mod_missed_49 (lv_at hl 5 rfl) ?_
      refine lv_bipush (v := 7) hx hb zd_Mod_missed_51 (by decide) ?_
      obtain ⟨v15, ehq16, hf⟩ := zu_nx_e hf
      have hq16 := ehq16.symm
      refine zw_Mod_at (rest := [.ref (ad 96)]) B hP hS hq16 zq_966 (Nat.le_of_ble_eq_true rfl) (Nat.le_of_ble_eq_true rfl) hl.1 rfl (Nat.le_of_ble_eq_true rfl) zd_Mod_missed_53 (by decide) (fun H locs hP hS => ?_)
      clear hq16 ehq16
      refine lv_iconst (v := 1) hx hb zd_Mod_missed_56 (by decide) ?_
      obtain ⟨hg17, hf⟩ := zu_gd_e hf
      refine zr_iast rfl B hP hS hf rfl (by decide) rfl hg17 zd_Mod_missed_57 (fun X18 H locs hf hP hS => ?_)
      refine lv_aload_n hx hb zd_Mod_missed_58 rfl (lv_at hl 0 rfl) ?_
      refine lv_iload_n hx hb zd_Mod_missed_59 rfl (lv_at hl 1 rfl) ?_
      refine lv_iload_n hx hb zd_Mod_missed_60 rfl (lv_at hl 2 rfl) ?_
      obtain ⟨v19, X20, Y21, hq22, hf⟩ := zu_b3_e hf
      refine zw_Mod_homeParts (rest := []) B hP hS hq22 zq_1170 (Nat.le_of_ble_eq_true rfl) (Nat.le_of_ble_eq_true rfl) hl.1 rfl (Nat.le_of_ble_eq_true rfl) zd_Mod_missed_61 (by decide) (fun H locs hP hS => ?_)
      clear hq22
      refine lv_lstore (lv' := [(7, .long v19), (0, .ref (ad 95)), (1, .int x1), (2, .int x2), (3, .int x3), (4, .long x4), (6, .int x6)]) hx hb zd_Mod_missed_64 hl (by decide) rfl (fun ls hl => ?_)
      refine lv_aload_n hx hb zd_Mod_missed_66 rfl (lv_at hl 1 rfl) ?_
      refine zg_Mod_s B hP rfl zq_861 zd_Mod_missed_67 ?_
      refine lv_iload hx hb zd_Mod_missed_70 (lv_at hl 6 rfl) ?_
      refine lv_bipush (v := 7) hx hb zd_Mod_missed_72 (by decide) ?_
      obtain ⟨v23, ehq24, hf⟩ := zu_nx_e hf
      have hq24 := ehq24.symm
      refine zw_Mod_at (rest := [.ref (ad 96)]) B hP hS hq24 zq_966 (Nat.le_of_ble_eq_true rfl) (Nat.le_of_ble_eq_true rfl) hl.1 rfl (Nat.le_of_ble_eq_true rfl) zd_Mod_missed_74 (by decide) (fun H locs hP hS => ?_)
      clear hq24 ehq24
      refine lv_iconst (v := 0) hx hb zd_Mod_missed_77 (by decide) ?_
      obtain ⟨hg25, hf⟩ := zu_gd_e hf
      refine zr_iast rfl B hP hS hf rfl (by decide) rfl hg25 zd_Mod_missed_78 (fun X26 H locs hf hP hS => ?_)
      refine lv_iload_n hx hb zd_Mod_missed_79 rfl (lv_at hl 4 rfl) ?_
      refine lv_if_lt (tgt := 91) hx hb zd_Mod_missed_80 (by decide) (fun c27 => ?_) (fun c27 => ?_)
      · have hf := zu_t c27 hf
        exact zl_Mod_missed_L91 B hret hlk hk23 x1 x2 x6 v19 X26 Y21 _ _ _ hP hS (lv_sub hl [1, 2, 3, 6, 0] rfl) hf
      · have hf := zu_f c27 hf
        refine lv_lload hx hb zd_Mod_missed_83 (lv_at hl 0 rfl) ?_
        refine lv_lload hx hb zd_Mod_missed_85 (lv_at hl 5 rfl) ?_
        refine W.lcmp hx hb zd_Mod_missed_87 ?_
        refine lv_if_ge (tgt := 98) hx hb zd_Mod_missed_88 (by decide) (fun c28 => ?_) (fun c28 => ?_)
        · have hf := zu_t c28 hf
          exact zl_Mod_missed_L98 B hret hlk hk23 x1 x2 x3 x4 x6 X26 Y21 _ _ _ hP hS (lv_sub hl [1, 2, 3, 4, 5, 6] rfl) hf
        · have hf := zu_f c28 hf
          exact zl_Mod_missed_L91 B hret hlk hk23 x1 x2 x6 v19 X26 Y21 _ _ _ hP hS (lv_sub hl [1, 2, 3, 6, 0] rfl) hf
theorem zl_Mod_missed_L23 {p : Program} {l : Launch} {e : Env} {s : State} {m : MethodId} {args : Array Value} {below : List Frame} {meth : Method} {c : Code} {D : va_G} {cA : Nat → ClassId} {ad : Nat → Nat} {A : Nat → Prop} (B : zu_B p s m args c zb_Mod_missed 9 "StonePostModel" D cA ad A) (hret : meth.sig.returnType = (some .int)) (hlk : meth.locks = false) {res : Int32 × IX × LX} : ∀ (n : Nat) (x1 : Int32) (x2 : Int32) (x3 : Int32) (x4 : Int64) (x6 : Int32) (X : IX) (Y : LX) (H : Heap) (locs : List Loc) (ls : Array Slot), va_P D zu_cl (zu_pic cA ad X Y) H → va_S A s.heap H locs → lv_has ls 9 [(0, .ref (ad 95)), (1, .int x1), (2, .int x2), (3, .int x3), (4, .long x4), (6, .int x6)] → fn_Mod_missed_L23 n x1 x2 x3 x4 x6 X Y = some res → W p l e zR_Mod_missed s m args below meth c H locs 0 0 (MQ below (zu_Qi D cA ad A res.1 res.2.1 res.2.2) args s 0 0 A) (F0 m 23 ls []) := by
  intro n
  induction n with
  | zero =>
    intro x1 x2 x3 x4 x6 X Y H locs ls hP hS hl hf
    exact (Option.some_ne_none _ hf.symm).elim
  | succ n ih =>
    intro x1 x2 x3 x4 x6 X Y H locs ls hP hS hl hf
    exact zl_Mod_missed_B23 B hret hlk ih x1 x2 x3 x4 x6 X Y H locs ls hP hS hl  hf
set_option maxHeartbeats 4000000 in
theorem zl_Mod_missed {p : Program} {l : Launch} {e : Env} {s : State} {m : MethodId} {args : Array Value} {below : List Frame} {meth : Method} {c : Code} {D : va_G} {cA : Nat → ClassId} {ad : Nat → Nat} {A : Nat → Prop} (B : zu_B p s m args c zb_Mod_missed 9 "StonePostModel" D cA ad A) (hret : meth.sig.returnType = (some .int)) (hlk : meth.locks = false) {res : Int32 × IX × LX} {a1 : Int32} {a2 : Int32} {X : IX} {Y : LX} (H : Heap) (locs : List Loc) (ls : Array Slot) (hP : va_P D zu_cl (zu_pic cA ad X Y) H) (hS : va_S A s.heap H locs) (hl : lv_has ls 9 [(0, .ref (ad 95)), (1, .int a1), (2, .int a2)]) (hf : fn_Mod_missed a1 a2 X Y = some res) : W p l e zR_Mod_missed s m args below meth c H locs 0 0 (MQ below (zu_Qi D cA ad A res.1 res.2.1 res.2.2) args s 0 0 A) (F0 m 0 ls []) := by
  obtain ⟨hx, hb, hml, hown, hts, hST⟩ := id B
  unfold fn_Mod_missed at hf
  refine lv_iload_n hx hb zd_Mod_missed_0 rfl (lv_at hl 1 rfl) ?_
  refine lv_iload_n hx hb zd_Mod_missed_1 rfl (lv_at hl 2 rfl) ?_
  obtain ⟨v1, hq2, hf⟩ := zu_b1_e hf
  refine zw_Mod_isTry (rest := []) B hP hS hq2 zq_1186 (Nat.le_of_ble_eq_true rfl) (Nat.le_of_ble_eq_true rfl) hl.1 rfl (Nat.le_of_ble_eq_true rfl) zd_Mod_missed_2 (by decide) (fun H locs hP hS => ?_)
  clear hq2
  refine lv_if_ne (tgt := 15) hx hb zd_Mod_missed_5 (by decide) (fun c3 => ?_) (fun c3 => ?_)
  · have hf := zu_f c3 hf
    refine lv_iconst (v := -1) hx hb zd_Mod_missed_15 (by decide) ?_
    refine lv_istore_n (lv' := [(3, .int (-1 : Int32)), (0, .ref (ad 95)), (1, .int a1), (2, .int a2)]) hx hb zd_Mod_missed_16 rfl hl (by decide) rfl (fun ls hl => ?_)
    refine lv_lconst (v := 0) hx hb zd_Mod_missed_17 (by decide) ?_
    refine lv_lstore (lv' := [(4, .long (0 : Int64)), (3, .int (-1 : Int32)), (0, .ref (ad 95)), (1, .int a1), (2, .int a2)]) hx hb zd_Mod_missed_18 hl (by decide) rfl (fun ls hl => ?_)
    refine lv_iconst (v := 0) hx hb zd_Mod_missed_20 (by decide) ?_
    refine lv_istore (lv' := [(6, .int (0 : Int32)), (4, .long (0 : Int64)), (3, .int (-1 : Int32)), (0, .ref (ad 95)), (1, .int a1), (2, .int a2)]) hx hb zd_Mod_missed_21 hl (by decide) rfl (fun ls hl => ?_)
    exact zl_Mod_missed_L23 B hret hlk 400 a1 a2 (-1 : Int32) (0 : Int64) (0 : Int32) X Y _ _ _ hP hS (lv_sub hl [3, 4, 5, 2, 1, 0] rfl) hf
  · have hf := zu_t c3 hf
    refine lv_aload_n hx hb zd_Mod_missed_8 rfl (lv_at hl 0 rfl) ?_
    refine lv_ldc (v := -1000001) hx hb hown (hts _ zq_943) zd_Mod_missed_9 ?_
    obtain ⟨v4, X5, hq6, hf⟩ := zu_b2_e hf
    refine zw_Mod_finds (rest := []) B hP hS hq6 zq_944 (Nat.le_of_ble_eq_true rfl) (Nat.le_of_ble_eq_true rfl) hl.1 rfl (Nat.le_of_ble_eq_true rfl) zd_Mod_missed_11 (by decide) (fun H locs hP hS => ?_)
    clear hq6
    obtain rfl := Option.some.inj hf
    exact zr_iret hx hb hret hlk hP hS zd_Mod_missed_14
theorem zC_Mod_missed (l : Launch) {D : va_G} {cA : Nat → ClassId} {ad : Nat → Nat} {A : Nat → Prop} {a1 : Int32} {a2 : Int32} {X : IX} {Y : LX} {res : Int32 × IX × LX} (hf : fn_Mod_missed a1 a2 X Y = some res) : Met l zm_Mod_missed (zu_ws zm_Mod_missed zb_Mod_missed 9 (some .int)) zR_Mod_missed (va_Pc [.ref (ad 95), .int a1, .int a2] (zu_Pre D cA ad A X Y)) (zu_Qi D cA ad A res.1 res.2.1 res.2.2) 0 0 A := by
  refine Met.ofW (cc := zb_Mod_missed) (maxL := 9) (ret := (some .int)) (by decide +kernel) rfl ?_
  intro p e s m args below meth c s₁ B0 hml hv
  obtain ⟨rfl, hP, hST⟩ := hv
  have B : zu_B p s m _ c zb_Mod_missed 9 "StonePostModel" D cA ad A := ⟨B0.exec, B0.bytes, hml, findClass_of_methodNamed B0.named, (fun w hw => atoms_spec (ws := zu_ws zm_Mod_missed zb_Mod_missed 9 (some .int)) B0.pre w (List.mem_cons_of_mem _ hw)), hST⟩
  have hl := lv_entry ([.ref (ad 95), .int a1, .int a2]) (n := 9) (Nat.le_of_ble_eq_true rfl)
  rw [lg_entry_eq]
  generalize (lg_sl ([.ref (ad 95), .int a1, .int a2]) ++ List.replicate (9 - (lg_sl ([.ref (ad 95), .int a1, .int a2])).length) Slot.unset).toArray = ls at hl ⊢
  exact zl_Mod_missed B B0.returns B0.notSynchronized s.heap [] ls hP va_S.rf hl  hf
theorem zw_Mod_missed {p : Program} {l : Launch} {e : Env} {R : Room} {s : State} {m : MethodId} {args : Array Value} {below : List Frame} {meth : Method} {c : Code} {H : Heap} {locs : List Loc} {cells slots : Nat} {Q : State → Prop} {cc : ByteArray} {pc nL : Nat} {ls : Array Slot} {rest st0 : List Value} {D : va_G} {cA : Nat → ClassId} {ad : Nat → Nat} {A : Nat → Prop} {X : IX} {Y : LX} {own : String} {index : Nat} {a1 : Int32} {a2 : Int32} {v1 : Int32} {X1 : IX} {Y1 : LX} (B : zu_B p s m args c cc nL own D cA ad A) (hP : va_P D zu_cl (zu_pic cA ad X Y) H) (hS : va_S A s.heap H locs) (hq : fn_Mod_missed a1 a2 X Y = some (v1, X1, Y1)) (m1 : Cond.methodLink own index zm_Mod_missed ∈ zu_TB) (hR1 : 7 + 1 ≤ R.frames) (hR2 : 8 + (9 + 11) + 165 ≤ R.locals) (hsz : ls.size = nL) (hst : st0 = .int a2 :: .int a1 :: .ref (ad 95) :: rest) (hw : (rest.map fun v => v.category).sum ≤ 8) (hdg : decode cc pc = .ok (.invokevirtual index, 3)) (h00 : cells ≤ R.cells ∧ slots ≤ R.slots) (kk : ∀ (H1 : Heap) (locs1 : List Loc), va_P D zu_cl (zu_pic cA ad X1 Y1) H1 → va_S A s.heap H1 locs1 → W p l e R s m args below meth c H1 locs1 cells slots Q (F0 m (pc + 3) ls (.int v1 :: rest))) : W p l e R s m args below meth c H locs cells slots Q (F0 m pc ls st0) := by
  subst hst
  exact zr_cVi (As := [.int a1, .int a2]) (rest := rest) (n := 2) (C := "StonePostModel") (T := zt_Mod) (N := 23) B hP hS (zC_Mod_missed l  hq) (K := 7) rfl (by decide) (by decide) rfl rfl m1 zq_1183 zq_1184 zq_8 zq_1185 (by decide +kernel) ⟨hR1, hR2⟩ rfl rfl rfl hsz rfl hw hdg h00 kk
abbrev zR_Mod_stand : Room := { frames := 7, cells := 0, slots := 0, locals := 165 }
theorem zd_Mod_stand_0 : decode zb_Mod_stand 0 = .ok (.iload_n 1, 1) := by decide +kernel
theorem zd_Mod_stand_1 : decode zb_Mod_stand 1 = .ok (.iload_n 2, 1) := by decide +kernel
theorem zd_Mod_stand_2 : decode zb_Mod_stand 2 = .ok (.invokestatic 218, 3) := by decide +kernel
theorem zd_Mod_stand_5 : decode zb_Mod_stand 5 = .ok (.ifCond .ne 10, 3) := by decide +kernel
theorem zd_Mod_stand_8 : decode zb_Mod_stand 8 = .ok (.aload_n 0, 1) := by decide +kernel
theorem zd_Mod_stand_9 : decode zb_Mod_stand 9 = .ok (.ldc 50, 2) := by decide +kernel
theorem zd_Mod_stand_11 : decode zb_Mod_stand 11 = .ok (.invokevirtual 64, 3) := by decide +kernel
theorem zd_Mod_stand_14 : decode zb_Mod_stand 14 = .ok (.ireturn, 1) := by decide +kernel
theorem zd_Mod_stand_15 : decode zb_Mod_stand 15 = .ok (.aload_n 0, 1) := by decide +kernel
theorem zd_Mod_stand_16 : decode zb_Mod_stand 16 = .ok (.getfield 7, 3) := by decide +kernel
theorem zd_Mod_stand_19 : decode zb_Mod_stand 19 = .ok (.iconst 1, 1) := by decide +kernel
theorem zd_Mod_stand_20 : decode zb_Mod_stand 20 = .ok (.iaload, 1) := by decide +kernel
theorem zd_Mod_stand_21 : decode zb_Mod_stand 21 = .ok (.bipush 10, 2) := by decide +kernel
theorem zd_Mod_stand_23 : decode zb_Mod_stand 23 = .ok (.if_icmp .ne 10, 3) := by decide +kernel
theorem zd_Mod_stand_26 : decode zb_Mod_stand 26 = .ok (.aload_n 0, 1) := by decide +kernel
theorem zd_Mod_stand_27 : decode zb_Mod_stand 27 = .ok (.ldc 83, 2) := by decide +kernel
theorem zd_Mod_stand_29 : decode zb_Mod_stand 29 = .ok (.invokevirtual 64, 3) := by decide +kernel
theorem zd_Mod_stand_32 : decode zb_Mod_stand 32 = .ok (.ireturn, 1) := by decide +kernel
theorem zd_Mod_stand_33 : decode zb_Mod_stand 33 = .ok (.aload_n 0, 1) := by decide +kernel
theorem zd_Mod_stand_34 : decode zb_Mod_stand 34 = .ok (.invokevirtual 202, 3) := by decide +kernel
theorem zd_Mod_stand_37 : decode zb_Mod_stand 37 = .ok (.iconst (-1), 1) := by decide +kernel
theorem zd_Mod_stand_38 : decode zb_Mod_stand 38 = .ok (.istore_n 3, 1) := by decide +kernel
theorem zd_Mod_stand_39 : decode zb_Mod_stand 39 = .ok (.lconst 0, 1) := by decide +kernel
theorem zd_Mod_stand_40 : decode zb_Mod_stand 40 = .ok (.lstore 4, 2) := by decide +kernel
theorem zd_Mod_stand_42 : decode zb_Mod_stand 42 = .ok (.iconst 0, 1) := by decide +kernel
theorem zd_Mod_stand_43 : decode zb_Mod_stand 43 = .ok (.istore 6, 2) := by decide +kernel
theorem zd_Mod_stand_45 : decode zb_Mod_stand 45 = .ok (.iload 6, 2) := by decide +kernel
theorem zd_Mod_stand_47 : decode zb_Mod_stand 47 = .ok (.bipush 24, 2) := by decide +kernel
theorem zd_Mod_stand_49 : decode zb_Mod_stand 49 = .ok (.if_icmp .ge 58, 3) := by decide +kernel
theorem zd_Mod_stand_52 : decode zb_Mod_stand 52 = .ok (.aload_n 0, 1) := by decide +kernel
theorem zd_Mod_stand_53 : decode zb_Mod_stand 53 = .ok (.iload 6, 2) := by decide +kernel
theorem zd_Mod_stand_55 : decode zb_Mod_stand 55 = .ok (.invokevirtual 79, 3) := by decide +kernel
theorem zd_Mod_stand_58 : decode zb_Mod_stand 58 = .ok (.ifCond .ge 43, 3) := by decide +kernel
theorem zd_Mod_stand_61 : decode zb_Mod_stand 61 = .ok (.aload_n 0, 1) := by decide +kernel
theorem zd_Mod_stand_62 : decode zb_Mod_stand 62 = .ok (.iconst 0, 1) := by decide +kernel
theorem zd_Mod_stand_63 : decode zb_Mod_stand 63 = .ok (.iload 6, 2) := by decide +kernel
theorem zd_Mod_stand_65 : decode zb_Mod_stand 65 = .ok (.invokevirtual 84, 3) := by decide +kernel
theorem zd_Mod_stand_68 : decode zb_Mod_stand 68 = .ok (.istore 7, 2) := by decide +kernel
theorem zd_Mod_stand_70 : decode zb_Mod_stand 70 = .ok (.aload_n 0, 1) := by decide +kernel
theorem zd_Mod_stand_71 : decode zb_Mod_stand 71 = .ok (.iload_n 1, 1) := by decide +kernel
theorem zd_Mod_stand_72 : decode zb_Mod_stand 72 = .ok (.iload_n 2, 1) := by decide +kernel
theorem zd_Mod_stand_73 : decode zb_Mod_stand 73 = .ok (.invokevirtual 209, 3) := by decide +kernel
theorem zd_Mod_stand_76 : decode zb_Mod_stand 76 = .ok (.lstore 8, 2) := by decide +kernel
theorem zd_Mod_stand_78 : decode zb_Mod_stand 78 = .ok (.aload_n 0, 1) := by decide +kernel
theorem zd_Mod_stand_79 : decode zb_Mod_stand 79 = .ok (.invokevirtual 213, 3) := by decide +kernel
theorem zd_Mod_stand_82 : decode zb_Mod_stand 82 = .ok (.iload_n 3, 1) := by decide +kernel
theorem zd_Mod_stand_83 : decode zb_Mod_stand 83 = .ok (.ifCond .lt 11, 3) := by decide +kernel
theorem zd_Mod_stand_86 : decode zb_Mod_stand 86 = .ok (.lload 8, 2) := by decide +kernel
theorem zd_Mod_stand_88 : decode zb_Mod_stand 88 = .ok (.lload 4, 2) := by decide +kernel
theorem zd_Mod_stand_90 : decode zb_Mod_stand 90 = .ok (.lcmp, 1) := by decide +kernel
theorem zd_Mod_stand_91 : decode zb_Mod_stand 91 = .ok (.ifCond .le 10, 3) := by decide +kernel
theorem zd_Mod_stand_94 : decode zb_Mod_stand 94 = .ok (.iload 6, 2) := by decide +kernel
theorem zd_Mod_stand_96 : decode zb_Mod_stand 96 = .ok (.istore_n 3, 1) := by decide +kernel
theorem zd_Mod_stand_97 : decode zb_Mod_stand 97 = .ok (.lload 8, 2) := by decide +kernel
theorem zd_Mod_stand_99 : decode zb_Mod_stand 99 = .ok (.lstore 4, 2) := by decide +kernel
theorem zd_Mod_stand_101 : decode zb_Mod_stand 101 = .ok (.iinc 6 1, 3) := by decide +kernel
theorem zd_Mod_stand_104 : decode zb_Mod_stand 104 = .ok (.goto (-59), 3) := by decide +kernel
theorem zd_Mod_stand_107 : decode zb_Mod_stand 107 = .ok (.iload_n 3, 1) := by decide +kernel
theorem zd_Mod_stand_108 : decode zb_Mod_stand 108 = .ok (.ireturn, 1) := by decide +kernel
set_option maxHeartbeats 4000000 in
theorem zl_Mod_stand_L101 {p : Program} {l : Launch} {e : Env} {s : State} {m : MethodId} {args : Array Value} {below : List Frame} {meth : Method} {c : Code} {D : va_G} {cA : Nat → ClassId} {ad : Nat → Nat} {A : Nat → Prop} (B : zu_B p s m args c zb_Mod_stand 10 "StonePostModel" D cA ad A) (hret : meth.sig.returnType = (some .int)) (hlk : meth.locks = false) {res : Int32 × IX × LX} {k45 : Int32 → Int32 → Int32 → Int64 → Int32 → IX → LX → Option (Int32 × IX × LX)} (hk45 : ∀ (x1 : Int32) (x2 : Int32) (x3 : Int32) (x4 : Int64) (x6 : Int32) (X : IX) (Y : LX) (H : Heap) (locs : List Loc) (ls : Array Slot), va_P D zu_cl (zu_pic cA ad X Y) H → va_S A s.heap H locs → lv_has ls 10 [(0, .ref (ad 95)), (1, .int x1), (2, .int x2), (3, .int x3), (4, .long x4), (6, .int x6)] → k45 x1 x2 x3 x4 x6 X Y = some res → W p l e zR_Mod_stand s m args below meth c H locs 0 0 (MQ below (zu_Qi D cA ad A res.1 res.2.1 res.2.2) args s 0 0 A) (F0 m 45 ls [])) (x1 : Int32) (x2 : Int32) (x3 : Int32) (x4 : Int64) (x6 : Int32) (X : IX) (Y : LX) (H : Heap) (locs : List Loc) (ls : Array Slot) (hP : va_P D zu_cl (zu_pic cA ad X Y) H) (hS : va_S A s.heap H locs) (hl : lv_has ls 10 [(0, .ref (ad 95)), (1, .int x1), (2, .int x2), (3, .int x3), (4, .long x4), (6, .int x6)]) (hf : fn_Mod_stand_L101 k45 x1 x2 x3 x4 x6 X Y = some res) : W p l e zR_Mod_stand s m args below meth c H locs 0 0 (MQ below (zu_Qi D cA ad A res.1 res.2.1 res.2.2) args s 0 0 A) (F0 m 101 ls []) := by
  obtain ⟨hx, hb, hml, hown, hts, hST⟩ := id B
  unfold fn_Mod_stand_L101 at hf
  obtain ⟨v28, ev28, hf⟩ := zu_nx_e hf
  refine lv_iinc (v := v28) (lv' := [(6, .int v28), (0, .ref (ad 95)), (1, .int x1), (2, .int x2), (3, .int x3), (4, .long x4)]) hx hb zd_Mod_stand_101 hl (k := 5) rfl (by rw [ev28]; rfl) (by decide) rfl (fun ls hl => ?_)
  clear ev28
  refine lv_goto (tgt := 45) hx hb zd_Mod_stand_104 (by decide) ?_
  exact hk45 x1 x2 x3 x4 v28 X Y _ _ _ hP hS (lv_sub hl [1, 2, 3, 4, 5, 0] rfl) hf
set_option maxHeartbeats 4000000 in
theorem zl_Mod_stand_L94 {p : Program} {l : Launch} {e : Env} {s : State} {m : MethodId} {args : Array Value} {below : List Frame} {meth : Method} {c : Code} {D : va_G} {cA : Nat → ClassId} {ad : Nat → Nat} {A : Nat → Prop} (B : zu_B p s m args c zb_Mod_stand 10 "StonePostModel" D cA ad A) (hret : meth.sig.returnType = (some .int)) (hlk : meth.locks = false) {res : Int32 × IX × LX} {k45 : Int32 → Int32 → Int32 → Int64 → Int32 → IX → LX → Option (Int32 × IX × LX)} (hk45 : ∀ (x1 : Int32) (x2 : Int32) (x3 : Int32) (x4 : Int64) (x6 : Int32) (X : IX) (Y : LX) (H : Heap) (locs : List Loc) (ls : Array Slot), va_P D zu_cl (zu_pic cA ad X Y) H → va_S A s.heap H locs → lv_has ls 10 [(0, .ref (ad 95)), (1, .int x1), (2, .int x2), (3, .int x3), (4, .long x4), (6, .int x6)] → k45 x1 x2 x3 x4 x6 X Y = some res → W p l e zR_Mod_stand s m args below meth c H locs 0 0 (MQ below (zu_Qi D cA ad A res.1 res.2.1 res.2.2) args s 0 0 A) (F0 m 45 ls [])) (x1 : Int32) (x2 : Int32) (x6 : Int32) (x8 : Int64) (X : IX) (Y : LX) (H : Heap) (locs : List Loc) (ls : Array Slot) (hP : va_P D zu_cl (zu_pic cA ad X Y) H) (hS : va_S A s.heap H locs) (hl : lv_has ls 10 [(0, .ref (ad 95)), (1, .int x1), (2, .int x2), (6, .int x6), (8, .long x8)]) (hf : fn_Mod_stand_L94 k45 x1 x2 x6 x8 X Y = some res) : W p l e zR_Mod_stand s m args below meth c H locs 0 0 (MQ below (zu_Qi D cA ad A res.1 res.2.1 res.2.2) args s 0 0 A) (F0 m 94 ls []) := by
  obtain ⟨hx, hb, hml, hown, hts, hST⟩ := id B
  unfold fn_Mod_stand_L94 at hf
  refine lv_iload hx hb zd_Mod_stand_94 (lv_at hl 3 rfl) ?_
  refine lv_istore_n (lv' := [(3, .int x6), (0, .ref (ad 95)), (1, .int x1), (2, .int x2), (6, .int x6), (8, .long x8)]) hx hb zd_Mod_stand_96 rfl hl (by decide) rfl (fun ls hl => ?_)
  refine lv_lload hx hb zd_Mod_stand_97 (lv_at hl 5 rfl) ?_
  refine lv_lstore (lv' := [(4, .long x8), (3, .int x6), (0, .ref (ad 95)), (1, .int x1), (2, .int x2), (6, .int x6), (8, .long x8)]) hx hb zd_Mod_stand_99 hl (by decide) rfl (fun ls hl => ?_)
  exact zl_Mod_stand_L101 B hret hlk hk45 x1 x2 x6 x8 x6 X Y _ _ _ hP hS (lv_sub hl [2, 3, 4, 1, 0, 5] rfl) hf
set_option maxHeartbeats 4000000 in
theorem zl_Mod_stand_B45 {p : Program} {l : Launch} {e : Env} {s : State} {m : MethodId} {args : Array Value} {below : List Frame} {meth : Method} {c : Code} {D : va_G} {cA : Nat → ClassId} {ad : Nat → Nat} {A : Nat → Prop} (B : zu_B p s m args c zb_Mod_stand 10 "StonePostModel" D cA ad A) (hret : meth.sig.returnType = (some .int)) (hlk : meth.locks = false) {res : Int32 × IX × LX} {k45 : Int32 → Int32 → Int32 → Int64 → Int32 → IX → LX → Option (Int32 × IX × LX)} (hk45 : ∀ (x1 : Int32) (x2 : Int32) (x3 : Int32) (x4 : Int64) (x6 : Int32) (X : IX) (Y : LX) (H : Heap) (locs : List Loc) (ls : Array Slot), va_P D zu_cl (zu_pic cA ad X Y) H → va_S A s.heap H locs → lv_has ls 10 [(0, .ref (ad 95)), (1, .int x1), (2, .int x2), (3, .int x3), (4, .long x4), (6, .int x6)] → k45 x1 x2 x3 x4 x6 X Y = some res → W p l e zR_Mod_stand s m args below meth c H locs 0 0 (MQ below (zu_Qi D cA ad A res.1 res.2.1 res.2.2) args s 0 0 A) (F0 m 45 ls [])) (x1 : Int32) (x2 : Int32) (x3 : Int32) (x4 : Int64) (x6 : Int32) (X : IX) (Y : LX) (H : Heap) (locs : List Loc) (ls : Array Slot) (hP : va_P D zu_cl (zu_pic cA ad X Y) H) (hS : va_S A s.heap H locs) (hl : lv_has ls 10 [(0, .ref (ad 95)), (1, .int x1), (2, .int x2), (3, .int x3), (4, .long x4), (6, .int x6)]) (hf : fn_Mod_stand_B45 k45 x1 x2 x3 x4 x6 X Y = some res) : W p l e zR_Mod_stand s m args below meth c H locs 0 0 (MQ below (zu_Qi D cA ad A res.1 res.2.1 res.2.2) args s 0 0 A) (F0 m 45 ls []) := by
  obtain ⟨hx, hb, hml, hown, hts, hST⟩ := id B
  unfold fn_Mod_stand_B45 at hf
  refine lv_iload hx hb zd_Mod_stand_45 (lv_at hl 5 rfl) ?_
  refine lv_bipush (v := 24) hx hb zd_Mod_stand_47 (by decide) ?_
  refine lv_icmp_ge (tgt := 107) hx hb zd_Mod_stand_49 (by decide) (fun c13 => ?_) (fun c13 => ?_)
  · have hf := zu_t c13 hf
    refine lv_iload_n hx hb zd_Mod_stand_107 rfl (lv_at hl 3 rfl) ?_
    obtain rfl := Option.some.inj hf
    exact zr_iret hx hb hret hlk hP hS zd_Mod_stand_108
  · have hf := zu_f c13 hf
    refine lv_aload_n hx hb zd_Mod_stand_52 rfl (lv_at hl 0 rfl) ?_
    refine lv_iload hx hb zd_Mod_stand_53 (lv_at hl 5 rfl) ?_
    obtain ⟨v14, hq15, hf⟩ := zu_b1_e hf
    refine zw_Mod_standing (rest := []) B hP hS hq15 zq_958 (Nat.le_of_ble_eq_true rfl) (Nat.le_of_ble_eq_true rfl) hl.1 rfl (Nat.le_of_ble_eq_true rfl) zd_Mod_stand_55 (by decide) (fun H locs hP hS => ?_)
    clear hq15
    refine lv_if_ge (tgt := 101) hx hb zd_Mod_stand_58 (by decide) (fun c16 => ?_) (fun c16 => ?_)
    · have hf := zu_t c16 hf
      exact zl_Mod_stand_L101 B hret hlk hk45 x1 x2 x3 x4 x6 X Y _ _ _ hP hS (lv_sub hl [0, 1, 2, 3, 4, 5] rfl) hf
    · have hf := zu_f c16 hf
      refine lv_aload_n hx hb zd_Mod_stand_61 rfl (lv_at hl 0 rfl) ?_
      refine lv_iconst (v := 0) hx hb zd_Mod_stand_62 (by decide) ?_
      refine lv_iload hx hb zd_Mod_stand_63 (lv_at hl 5 rfl) ?_
      obtain ⟨v17, X18, hq19, hf⟩ := zu_b2_e hf
      refine zw_Mod_newThrower (rest := []) B hP hS hq19 zq_971 (Nat.le_of_ble_eq_true rfl) (Nat.le_of_ble_eq_true rfl) hl.1 rfl (Nat.le_of_ble_eq_true rfl) zd_Mod_stand_65 (by decide) (fun H locs hP hS => ?_)
      clear hq19
      refine lv_istore (lv' := [(7, .int v17), (0, .ref (ad 95)), (1, .int x1), (2, .int x2), (3, .int x3), (4, .long x4), (6, .int x6)]) hx hb zd_Mod_stand_68 hl (by decide) rfl (fun ls hl => ?_)
      refine lv_aload_n hx hb zd_Mod_stand_70 rfl (lv_at hl 1 rfl) ?_
      refine lv_iload_n hx hb zd_Mod_stand_71 rfl (lv_at hl 2 rfl) ?_
      refine lv_iload_n hx hb zd_Mod_stand_72 rfl (lv_at hl 3 rfl) ?_
      obtain ⟨v20, X21, Y22, hq23, hf⟩ := zu_b3_e hf
      refine zw_Mod_homeParts (rest := []) B hP hS hq23 zq_1170 (Nat.le_of_ble_eq_true rfl) (Nat.le_of_ble_eq_true rfl) hl.1 rfl (Nat.le_of_ble_eq_true rfl) zd_Mod_stand_73 (by decide) (fun H locs hP hS => ?_)
      clear hq23
      refine lv_lstore (lv' := [(8, .long v20), (7, .int v17), (0, .ref (ad 95)), (1, .int x1), (2, .int x2), (3, .int x3), (4, .long x4), (6, .int x6)]) hx hb zd_Mod_stand_76 hl (by decide) rfl (fun ls hl => ?_)
      refine lv_aload_n hx hb zd_Mod_stand_78 rfl (lv_at hl 2 rfl) ?_
      obtain ⟨X24, hq25, hf⟩ := zu_b1_e hf
      refine zw_Mod_putsBack (rest := []) B hP hS hq25 zq_1174 (Nat.le_of_ble_eq_true rfl) (Nat.le_of_ble_eq_true rfl) hl.1 rfl (Nat.le_of_ble_eq_true rfl) zd_Mod_stand_79 (by decide) (fun H locs hP hS => ?_)
      clear hq25
      refine lv_iload_n hx hb zd_Mod_stand_82 rfl (lv_at hl 5 rfl) ?_
      refine lv_if_lt (tgt := 94) hx hb zd_Mod_stand_83 (by decide) (fun c26 => ?_) (fun c26 => ?_)
      · have hf := zu_t c26 hf
        exact zl_Mod_stand_L94 B hret hlk hk45 x1 x2 x6 v20 X24 Y22 _ _ _ hP hS (lv_sub hl [2, 3, 4, 7, 0] rfl) hf
      · have hf := zu_f c26 hf
        refine lv_lload hx hb zd_Mod_stand_86 (lv_at hl 0 rfl) ?_
        refine lv_lload hx hb zd_Mod_stand_88 (lv_at hl 6 rfl) ?_
        refine W.lcmp hx hb zd_Mod_stand_90 ?_
        refine lv_if_le (tgt := 101) hx hb zd_Mod_stand_91 (by decide) (fun c27 => ?_) (fun c27 => ?_)
        · have hf := zu_t c27 hf
          exact zl_Mod_stand_L101 B hret hlk hk45 x1 x2 x3 x4 x6 X24 Y22 _ _ _ hP hS (lv_sub hl [2, 3, 4, 5, 6, 7] rfl) hf
        · have hf := zu_f c27 hf
          exact zl_Mod_stand_L94 B hret hlk hk45 x1 x2 x6 v20 X24 Y22 _ _ _ hP hS (lv_sub hl [2, 3, 4, 7, 0] rfl) hf
theorem zl_Mod_stand_L45 {p : Program} {l : Launch} {e : Env} {s : State} {m : MethodId} {args : Array Value} {below : List Frame} {meth : Method} {c : Code} {D : va_G} {cA : Nat → ClassId} {ad : Nat → Nat} {A : Nat → Prop} (B : zu_B p s m args c zb_Mod_stand 10 "StonePostModel" D cA ad A) (hret : meth.sig.returnType = (some .int)) (hlk : meth.locks = false) {res : Int32 × IX × LX} : ∀ (n : Nat) (x1 : Int32) (x2 : Int32) (x3 : Int32) (x4 : Int64) (x6 : Int32) (X : IX) (Y : LX) (H : Heap) (locs : List Loc) (ls : Array Slot), va_P D zu_cl (zu_pic cA ad X Y) H → va_S A s.heap H locs → lv_has ls 10 [(0, .ref (ad 95)), (1, .int x1), (2, .int x2), (3, .int x3), (4, .long x4), (6, .int x6)] → fn_Mod_stand_L45 n x1 x2 x3 x4 x6 X Y = some res → W p l e zR_Mod_stand s m args below meth c H locs 0 0 (MQ below (zu_Qi D cA ad A res.1 res.2.1 res.2.2) args s 0 0 A) (F0 m 45 ls []) := by
  intro n
  induction n with
  | zero =>
    intro x1 x2 x3 x4 x6 X Y H locs ls hP hS hl hf
    exact (Option.some_ne_none _ hf.symm).elim
  | succ n ih =>
    intro x1 x2 x3 x4 x6 X Y H locs ls hP hS hl hf
    exact zl_Mod_stand_B45 B hret hlk ih x1 x2 x3 x4 x6 X Y H locs ls hP hS hl  hf
set_option maxHeartbeats 4000000 in
theorem zl_Mod_stand {p : Program} {l : Launch} {e : Env} {s : State} {m : MethodId} {args : Array Value} {below : List Frame} {meth : Method} {c : Code} {D : va_G} {cA : Nat → ClassId} {ad : Nat → Nat} {A : Nat → Prop} (B : zu_B p s m args c zb_Mod_stand 10 "StonePostModel" D cA ad A) (hret : meth.sig.returnType = (some .int)) (hlk : meth.locks = false) {res : Int32 × IX × LX} {a1 : Int32} {a2 : Int32} {X : IX} {Y : LX} (H : Heap) (locs : List Loc) (ls : Array Slot) (hP : va_P D zu_cl (zu_pic cA ad X Y) H) (hS : va_S A s.heap H locs) (hl : lv_has ls 10 [(0, .ref (ad 95)), (1, .int a1), (2, .int a2)]) (hf : fn_Mod_stand a1 a2 X Y = some res) : W p l e zR_Mod_stand s m args below meth c H locs 0 0 (MQ below (zu_Qi D cA ad A res.1 res.2.1 res.2.2) args s 0 0 A) (F0 m 0 ls []) := by
  obtain ⟨hx, hb, hml, hown, hts, hST⟩ := id B
  unfold fn_Mod_stand at hf
  refine lv_iload_n hx hb zd_Mod_stand_0 rfl (lv_at hl 1 rfl) ?_
  refine lv_iload_n hx hb zd_Mod_stand_1 rfl (lv_at hl 2 rfl) ?_
  obtain ⟨v1, hq2, hf⟩ := zu_b1_e hf
  refine zw_Mod_isTry (rest := []) B hP hS hq2 zq_1186 (Nat.le_of_ble_eq_true rfl) (Nat.le_of_ble_eq_true rfl) hl.1 rfl (Nat.le_of_ble_eq_true rfl) zd_Mod_stand_2 (by decide) (fun H locs hP hS => ?_)
  clear hq2
  refine lv_if_ne (tgt := 15) hx hb zd_Mod_stand_5 (by decide) (fun c3 => ?_) (fun c3 => ?_)
  · have hf := zu_f c3 hf
    refine lv_aload_n hx hb zd_Mod_stand_15 rfl (lv_at hl 0 rfl) ?_
    refine zg_Mod_s B hP rfl zq_861 zd_Mod_stand_16 ?_
    refine lv_iconst (v := 1) hx hb zd_Mod_stand_19 (by decide) ?_
    refine zr_iald (j := 1) (by decide) B hP rfl (by decide) rfl (by decide) zd_Mod_stand_20 ?_
    refine lv_bipush (v := 10) hx hb zd_Mod_stand_21 (by decide) ?_
    refine lv_icmp_ne (tgt := 33) hx hb zd_Mod_stand_23 (by decide) (fun c4 => ?_) (fun c4 => ?_)
    · have hf := zu_f c4 hf
      refine lv_aload_n hx hb zd_Mod_stand_33 rfl (lv_at hl 0 rfl) ?_
      obtain ⟨X5, hq6, hf⟩ := zu_b1_e hf
      refine zw_Mod_puts (rest := []) B hP hS hq6 zq_1162 (Nat.le_of_ble_eq_true rfl) (Nat.le_of_ble_eq_true rfl) hl.1 rfl (Nat.le_of_ble_eq_true rfl) zd_Mod_stand_34 (by decide) (fun H locs hP hS => ?_)
      clear hq6
      refine lv_iconst (v := -1) hx hb zd_Mod_stand_37 (by decide) ?_
      refine lv_istore_n (lv' := [(3, .int (-1 : Int32)), (0, .ref (ad 95)), (1, .int a1), (2, .int a2)]) hx hb zd_Mod_stand_38 rfl hl (by decide) rfl (fun ls hl => ?_)
      refine lv_lconst (v := 0) hx hb zd_Mod_stand_39 (by decide) ?_
      refine lv_lstore (lv' := [(4, .long (0 : Int64)), (3, .int (-1 : Int32)), (0, .ref (ad 95)), (1, .int a1), (2, .int a2)]) hx hb zd_Mod_stand_40 hl (by decide) rfl (fun ls hl => ?_)
      refine lv_iconst (v := 0) hx hb zd_Mod_stand_42 (by decide) ?_
      refine lv_istore (lv' := [(6, .int (0 : Int32)), (4, .long (0 : Int64)), (3, .int (-1 : Int32)), (0, .ref (ad 95)), (1, .int a1), (2, .int a2)]) hx hb zd_Mod_stand_43 hl (by decide) rfl (fun ls hl => ?_)
      exact zl_Mod_stand_L45 B hret hlk 400 a1 a2 (-1 : Int32) (0 : Int64) (0 : Int32) X5 Y _ _ _ hP hS (lv_sub hl [3, 4, 5, 2, 1, 0] rfl) hf
    · have hf := zu_t c4 hf
      refine lv_aload_n hx hb zd_Mod_stand_26 rfl (lv_at hl 0 rfl) ?_
      refine lv_ldc (v := -1000002) hx hb hown (hts _ zq_970) zd_Mod_stand_27 ?_
      obtain ⟨v7, X8, hq9, hf⟩ := zu_b2_e hf
      refine zw_Mod_finds (rest := []) B hP hS hq9 zq_944 (Nat.le_of_ble_eq_true rfl) (Nat.le_of_ble_eq_true rfl) hl.1 rfl (Nat.le_of_ble_eq_true rfl) zd_Mod_stand_29 (by decide) (fun H locs hP hS => ?_)
      clear hq9
      obtain rfl := Option.some.inj hf
      exact zr_iret hx hb hret hlk hP hS zd_Mod_stand_32
  · have hf := zu_t c3 hf
    refine lv_aload_n hx hb zd_Mod_stand_8 rfl (lv_at hl 0 rfl) ?_
    refine lv_ldc (v := -1000001) hx hb hown (hts _ zq_943) zd_Mod_stand_9 ?_
    obtain ⟨v10, X11, hq12, hf⟩ := zu_b2_e hf
    refine zw_Mod_finds (rest := []) B hP hS hq12 zq_944 (Nat.le_of_ble_eq_true rfl) (Nat.le_of_ble_eq_true rfl) hl.1 rfl (Nat.le_of_ble_eq_true rfl) zd_Mod_stand_11 (by decide) (fun H locs hP hS => ?_)
    clear hq12
    obtain rfl := Option.some.inj hf
    exact zr_iret hx hb hret hlk hP hS zd_Mod_stand_14
theorem zC_Mod_stand (l : Launch) {D : va_G} {cA : Nat → ClassId} {ad : Nat → Nat} {A : Nat → Prop} {a1 : Int32} {a2 : Int32} {X : IX} {Y : LX} {res : Int32 × IX × LX} (hf : fn_Mod_stand a1 a2 X Y = some res) : Met l zm_Mod_stand (zu_ws zm_Mod_stand zb_Mod_stand 10 (some .int)) zR_Mod_stand (va_Pc [.ref (ad 95), .int a1, .int a2] (zu_Pre D cA ad A X Y)) (zu_Qi D cA ad A res.1 res.2.1 res.2.2) 0 0 A := by
  refine Met.ofW (cc := zb_Mod_stand) (maxL := 10) (ret := (some .int)) (by decide +kernel) rfl ?_
  intro p e s m args below meth c s₁ B0 hml hv
  obtain ⟨rfl, hP, hST⟩ := hv
  have B : zu_B p s m _ c zb_Mod_stand 10 "StonePostModel" D cA ad A := ⟨B0.exec, B0.bytes, hml, findClass_of_methodNamed B0.named, (fun w hw => atoms_spec (ws := zu_ws zm_Mod_stand zb_Mod_stand 10 (some .int)) B0.pre w (List.mem_cons_of_mem _ hw)), hST⟩
  have hl := lv_entry ([.ref (ad 95), .int a1, .int a2]) (n := 10) (Nat.le_of_ble_eq_true rfl)
  rw [lg_entry_eq]
  generalize (lg_sl ([.ref (ad 95), .int a1, .int a2]) ++ List.replicate (10 - (lg_sl ([.ref (ad 95), .int a1, .int a2])).length) Slot.unset).toArray = ls at hl ⊢
  exact zl_Mod_stand B B0.returns B0.notSynchronized s.heap [] ls hP va_S.rf hl  hf
theorem zw_Mod_stand {p : Program} {l : Launch} {e : Env} {R : Room} {s : State} {m : MethodId} {args : Array Value} {below : List Frame} {meth : Method} {c : Code} {H : Heap} {locs : List Loc} {cells slots : Nat} {Q : State → Prop} {cc : ByteArray} {pc nL : Nat} {ls : Array Slot} {rest st0 : List Value} {D : va_G} {cA : Nat → ClassId} {ad : Nat → Nat} {A : Nat → Prop} {X : IX} {Y : LX} {own : String} {index : Nat} {a1 : Int32} {a2 : Int32} {v1 : Int32} {X1 : IX} {Y1 : LX} (B : zu_B p s m args c cc nL own D cA ad A) (hP : va_P D zu_cl (zu_pic cA ad X Y) H) (hS : va_S A s.heap H locs) (hq : fn_Mod_stand a1 a2 X Y = some (v1, X1, Y1)) (m1 : Cond.methodLink own index zm_Mod_stand ∈ zu_TB) (hR1 : 7 + 1 ≤ R.frames) (hR2 : 8 + (10 + 11) + 165 ≤ R.locals) (hsz : ls.size = nL) (hst : st0 = .int a2 :: .int a1 :: .ref (ad 95) :: rest) (hw : (rest.map fun v => v.category).sum ≤ 8) (hdg : decode cc pc = .ok (.invokevirtual index, 3)) (h00 : cells ≤ R.cells ∧ slots ≤ R.slots) (kk : ∀ (H1 : Heap) (locs1 : List Loc), va_P D zu_cl (zu_pic cA ad X1 Y1) H1 → va_S A s.heap H1 locs1 → W p l e R s m args below meth c H1 locs1 cells slots Q (F0 m (pc + 3) ls (.int v1 :: rest))) : W p l e R s m args below meth c H locs cells slots Q (F0 m pc ls st0) := by
  subst hst
  exact zr_cVi (As := [.int a1, .int a2]) (rest := rest) (n := 2) (C := "StonePostModel") (T := zt_Mod) (N := 23) B hP hS (zC_Mod_stand l  hq) (K := 7) rfl (by decide) (by decide) rfl rfl m1 zq_1191 zq_1192 zq_8 zq_1193 (by decide +kernel) ⟨hR1, hR2⟩ rfl rfl rfl hsz rfl hw hdg h00 kk
abbrev zR_Mod_fetchFor : Room := { frames := 7, cells := 0, slots := 0, locals := 165 }
theorem zd_Mod_fetchFor_0 : decode zb_Mod_fetchFor 0 = .ok (.iload_n 1, 1) := by decide +kernel
theorem zd_Mod_fetchFor_1 : decode zb_Mod_fetchFor 1 = .ok (.iload_n 2, 1) := by decide +kernel
theorem zd_Mod_fetchFor_2 : decode zb_Mod_fetchFor 2 = .ok (.invokestatic 218, 3) := by decide +kernel
theorem zd_Mod_fetchFor_5 : decode zb_Mod_fetchFor 5 = .ok (.ifCond .ne 10, 3) := by decide +kernel
theorem zd_Mod_fetchFor_8 : decode zb_Mod_fetchFor 8 = .ok (.aload_n 0, 1) := by decide +kernel
theorem zd_Mod_fetchFor_9 : decode zb_Mod_fetchFor 9 = .ok (.ldc 50, 2) := by decide +kernel
theorem zd_Mod_fetchFor_11 : decode zb_Mod_fetchFor 11 = .ok (.invokevirtual 64, 3) := by decide +kernel
theorem zd_Mod_fetchFor_14 : decode zb_Mod_fetchFor 14 = .ok (.ireturn, 1) := by decide +kernel
theorem zd_Mod_fetchFor_15 : decode zb_Mod_fetchFor 15 = .ok (.aload_n 0, 1) := by decide +kernel
theorem zd_Mod_fetchFor_16 : decode zb_Mod_fetchFor 16 = .ok (.getfield 7, 3) := by decide +kernel
theorem zd_Mod_fetchFor_19 : decode zb_Mod_fetchFor 19 = .ok (.iconst 4, 1) := by decide +kernel
theorem zd_Mod_fetchFor_20 : decode zb_Mod_fetchFor 20 = .ok (.iaload, 1) := by decide +kernel
theorem zd_Mod_fetchFor_21 : decode zb_Mod_fetchFor 21 = .ok (.istore_n 3, 1) := by decide +kernel
theorem zd_Mod_fetchFor_22 : decode zb_Mod_fetchFor 22 = .ok (.iconst (-1), 1) := by decide +kernel
theorem zd_Mod_fetchFor_23 : decode zb_Mod_fetchFor 23 = .ok (.istore 4, 2) := by decide +kernel
theorem zd_Mod_fetchFor_25 : decode zb_Mod_fetchFor 25 = .ok (.lconst 0, 1) := by decide +kernel
theorem zd_Mod_fetchFor_26 : decode zb_Mod_fetchFor 26 = .ok (.lstore 5, 2) := by decide +kernel
theorem zd_Mod_fetchFor_28 : decode zb_Mod_fetchFor 28 = .ok (.iconst 0, 1) := by decide +kernel
theorem zd_Mod_fetchFor_29 : decode zb_Mod_fetchFor 29 = .ok (.istore 7, 2) := by decide +kernel
theorem zd_Mod_fetchFor_31 : decode zb_Mod_fetchFor 31 = .ok (.iload 7, 2) := by decide +kernel
theorem zd_Mod_fetchFor_33 : decode zb_Mod_fetchFor 33 = .ok (.bipush 10, 2) := by decide +kernel
theorem zd_Mod_fetchFor_35 : decode zb_Mod_fetchFor 35 = .ok (.if_icmp .ge 46, 3) := by decide +kernel
theorem zd_Mod_fetchFor_38 : decode zb_Mod_fetchFor 38 = .ok (.aload_n 0, 1) := by decide +kernel
theorem zd_Mod_fetchFor_39 : decode zb_Mod_fetchFor 39 = .ok (.getfield 7, 3) := by decide +kernel
theorem zd_Mod_fetchFor_42 : decode zb_Mod_fetchFor 42 = .ok (.iconst 4, 1) := by decide +kernel
theorem zd_Mod_fetchFor_43 : decode zb_Mod_fetchFor 43 = .ok (.iload 7, 2) := by decide +kernel
theorem zd_Mod_fetchFor_45 : decode zb_Mod_fetchFor 45 = .ok (.iastore, 1) := by decide +kernel
theorem zd_Mod_fetchFor_46 : decode zb_Mod_fetchFor 46 = .ok (.aload_n 0, 1) := by decide +kernel
theorem zd_Mod_fetchFor_47 : decode zb_Mod_fetchFor 47 = .ok (.iload_n 1, 1) := by decide +kernel
theorem zd_Mod_fetchFor_48 : decode zb_Mod_fetchFor 48 = .ok (.iload_n 2, 1) := by decide +kernel
theorem zd_Mod_fetchFor_49 : decode zb_Mod_fetchFor 49 = .ok (.invokevirtual 209, 3) := by decide +kernel
theorem zd_Mod_fetchFor_52 : decode zb_Mod_fetchFor 52 = .ok (.lstore 8, 2) := by decide +kernel
theorem zd_Mod_fetchFor_54 : decode zb_Mod_fetchFor 54 = .ok (.iload 4, 2) := by decide +kernel
theorem zd_Mod_fetchFor_56 : decode zb_Mod_fetchFor 56 = .ok (.ifCond .lt 11, 3) := by decide +kernel
theorem zd_Mod_fetchFor_59 : decode zb_Mod_fetchFor 59 = .ok (.lload 8, 2) := by decide +kernel
theorem zd_Mod_fetchFor_61 : decode zb_Mod_fetchFor 61 = .ok (.lload 5, 2) := by decide +kernel
theorem zd_Mod_fetchFor_63 : decode zb_Mod_fetchFor 63 = .ok (.lcmp, 1) := by decide +kernel
theorem zd_Mod_fetchFor_64 : decode zb_Mod_fetchFor 64 = .ok (.ifCond .le 11, 3) := by decide +kernel
theorem zd_Mod_fetchFor_67 : decode zb_Mod_fetchFor 67 = .ok (.iload 7, 2) := by decide +kernel
theorem zd_Mod_fetchFor_69 : decode zb_Mod_fetchFor 69 = .ok (.istore 4, 2) := by decide +kernel
theorem zd_Mod_fetchFor_71 : decode zb_Mod_fetchFor 71 = .ok (.lload 8, 2) := by decide +kernel
theorem zd_Mod_fetchFor_73 : decode zb_Mod_fetchFor 73 = .ok (.lstore 5, 2) := by decide +kernel
theorem zd_Mod_fetchFor_75 : decode zb_Mod_fetchFor 75 = .ok (.iinc 7 1, 3) := by decide +kernel
theorem zd_Mod_fetchFor_78 : decode zb_Mod_fetchFor 78 = .ok (.goto (-47), 3) := by decide +kernel
theorem zd_Mod_fetchFor_81 : decode zb_Mod_fetchFor 81 = .ok (.aload_n 0, 1) := by decide +kernel
theorem zd_Mod_fetchFor_82 : decode zb_Mod_fetchFor 82 = .ok (.getfield 7, 3) := by decide +kernel
theorem zd_Mod_fetchFor_85 : decode zb_Mod_fetchFor 85 = .ok (.iconst 4, 1) := by decide +kernel
theorem zd_Mod_fetchFor_86 : decode zb_Mod_fetchFor 86 = .ok (.iload_n 3, 1) := by decide +kernel
theorem zd_Mod_fetchFor_87 : decode zb_Mod_fetchFor 87 = .ok (.iastore, 1) := by decide +kernel
theorem zd_Mod_fetchFor_88 : decode zb_Mod_fetchFor 88 = .ok (.iload 4, 2) := by decide +kernel
theorem zd_Mod_fetchFor_90 : decode zb_Mod_fetchFor 90 = .ok (.ireturn, 1) := by decide +kernel
set_option maxHeartbeats 4000000 in
theorem zl_Mod_fetchFor_L75 {p : Program} {l : Launch} {e : Env} {s : State} {m : MethodId} {args : Array Value} {below : List Frame} {meth : Method} {c : Code} {D : va_G} {cA : Nat → ClassId} {ad : Nat → Nat} {A : Nat → Prop} (B : zu_B p s m args c zb_Mod_fetchFor 10 "StonePostModel" D cA ad A) (hret : meth.sig.returnType = (some .int)) (hlk : meth.locks = false) {res : Int32 × IX × LX} {k31 : Int32 → Int32 → Int32 → Int32 → Int64 → Int32 → IX → LX → Option (Int32 × IX × LX)} (hk31 : ∀ (x1 : Int32) (x2 : Int32) (x3 : Int32) (x4 : Int32) (x5 : Int64) (x7 : Int32) (X : IX) (Y : LX) (H : Heap) (locs : List Loc) (ls : Array Slot), va_P D zu_cl (zu_pic cA ad X Y) H → va_S A s.heap H locs → lv_has ls 10 [(0, .ref (ad 95)), (1, .int x1), (2, .int x2), (3, .int x3), (4, .int x4), (5, .long x5), (7, .int x7)] → k31 x1 x2 x3 x4 x5 x7 X Y = some res → W p l e zR_Mod_fetchFor s m args below meth c H locs 0 0 (MQ below (zu_Qi D cA ad A res.1 res.2.1 res.2.2) args s 0 0 A) (F0 m 31 ls [])) (x1 : Int32) (x2 : Int32) (x3 : Int32) (x4 : Int32) (x5 : Int64) (x7 : Int32) (X : IX) (Y : LX) (H : Heap) (locs : List Loc) (ls : Array Slot) (hP : va_P D zu_cl (zu_pic cA ad X Y) H) (hS : va_S A s.heap H locs) (hl : lv_has ls 10 [(0, .ref (ad 95)), (1, .int x1), (2, .int x2), (3, .int x3), (4, .int x4), (5, .long x5), (7, .int x7)]) (hf : fn_Mod_fetchFor_L75 k31 x1 x2 x3 x4 x5 x7 X Y = some res) : W p l e zR_Mod_fetchFor s m args below meth c H locs 0 0 (MQ below (zu_Qi D cA ad A res.1 res.2.1 res.2.2) args s 0 0 A) (F0 m 75 ls []) := by
  obtain ⟨hx, hb, hml, hown, hts, hST⟩ := id B
  unfold fn_Mod_fetchFor_L75 at hf
  obtain ⟨v17, ev17, hf⟩ := zu_nx_e hf
  refine lv_iinc (v := v17) (lv' := [(7, .int v17), (0, .ref (ad 95)), (1, .int x1), (2, .int x2), (3, .int x3), (4, .int x4), (5, .long x5)]) hx hb zd_Mod_fetchFor_75 hl (k := 6) rfl (by rw [ev17]; rfl) (by decide) rfl (fun ls hl => ?_)
  clear ev17
  refine lv_goto (tgt := 31) hx hb zd_Mod_fetchFor_78 (by decide) ?_
  exact hk31 x1 x2 x3 x4 x5 v17 X Y _ _ _ hP hS (lv_sub hl [1, 2, 3, 4, 5, 6, 0] rfl) hf
set_option maxHeartbeats 4000000 in
theorem zl_Mod_fetchFor_L67 {p : Program} {l : Launch} {e : Env} {s : State} {m : MethodId} {args : Array Value} {below : List Frame} {meth : Method} {c : Code} {D : va_G} {cA : Nat → ClassId} {ad : Nat → Nat} {A : Nat → Prop} (B : zu_B p s m args c zb_Mod_fetchFor 10 "StonePostModel" D cA ad A) (hret : meth.sig.returnType = (some .int)) (hlk : meth.locks = false) {res : Int32 × IX × LX} {k31 : Int32 → Int32 → Int32 → Int32 → Int64 → Int32 → IX → LX → Option (Int32 × IX × LX)} (hk31 : ∀ (x1 : Int32) (x2 : Int32) (x3 : Int32) (x4 : Int32) (x5 : Int64) (x7 : Int32) (X : IX) (Y : LX) (H : Heap) (locs : List Loc) (ls : Array Slot), va_P D zu_cl (zu_pic cA ad X Y) H → va_S A s.heap H locs → lv_has ls 10 [(0, .ref (ad 95)), (1, .int x1), (2, .int x2), (3, .int x3), (4, .int x4), (5, .long x5), (7, .int x7)] → k31 x1 x2 x3 x4 x5 x7 X Y = some res → W p l e zR_Mod_fetchFor s m args below meth c H locs 0 0 (MQ below (zu_Qi D cA ad A res.1 res.2.1 res.2.2) args s 0 0 A) (F0 m 31 ls [])) (x1 : Int32) (x2 : Int32) (x3 : Int32) (x7 : Int32) (x8 : Int64) (X : IX) (Y : LX) (H : Heap) (locs : List Loc) (ls : Array Slot) (hP : va_P D zu_cl (zu_pic cA ad X Y) H) (hS : va_S A s.heap H locs) (hl : lv_has ls 10 [(0, .ref (ad 95)), (1, .int x1), (2, .int x2), (3, .int x3), (7, .int x7), (8, .long x8)]) (hf : fn_Mod_fetchFor_L67 k31 x1 x2 x3 x7 x8 X Y = some res) : W p l e zR_Mod_fetchFor s m args below meth c H locs 0 0 (MQ below (zu_Qi D cA ad A res.1 res.2.1 res.2.2) args s 0 0 A) (F0 m 67 ls []) := by
  obtain ⟨hx, hb, hml, hown, hts, hST⟩ := id B
  unfold fn_Mod_fetchFor_L67 at hf
  refine lv_iload hx hb zd_Mod_fetchFor_67 (lv_at hl 4 rfl) ?_
  refine lv_istore (lv' := [(4, .int x7), (0, .ref (ad 95)), (1, .int x1), (2, .int x2), (3, .int x3), (7, .int x7), (8, .long x8)]) hx hb zd_Mod_fetchFor_69 hl (by decide) rfl (fun ls hl => ?_)
  refine lv_lload hx hb zd_Mod_fetchFor_71 (lv_at hl 6 rfl) ?_
  refine lv_lstore (lv' := [(5, .long x8), (4, .int x7), (0, .ref (ad 95)), (1, .int x1), (2, .int x2), (3, .int x3), (7, .int x7), (8, .long x8)]) hx hb zd_Mod_fetchFor_73 hl (by decide) rfl (fun ls hl => ?_)
  exact zl_Mod_fetchFor_L75 B hret hlk hk31 x1 x2 x3 x7 x8 x7 X Y _ _ _ hP hS (lv_sub hl [2, 3, 4, 5, 1, 0, 6] rfl) hf
set_option maxHeartbeats 4000000 in
theorem zl_Mod_fetchFor_B31 {p : Program} {l : Launch} {e : Env} {s : State} {m : MethodId} {args : Array Value} {below : List Frame} {meth : Method} {c : Code} {D : va_G} {cA : Nat → ClassId} {ad : Nat → Nat} {A : Nat → Prop} (B : zu_B p s m args c zb_Mod_fetchFor 10 "StonePostModel" D cA ad A) (hret : meth.sig.returnType = (some .int)) (hlk : meth.locks = false) {res : Int32 × IX × LX} {k31 : Int32 → Int32 → Int32 → Int32 → Int64 → Int32 → IX → LX → Option (Int32 × IX × LX)} (hk31 : ∀ (x1 : Int32) (x2 : Int32) (x3 : Int32) (x4 : Int32) (x5 : Int64) (x7 : Int32) (X : IX) (Y : LX) (H : Heap) (locs : List Loc) (ls : Array Slot), va_P D zu_cl (zu_pic cA ad X Y) H → va_S A s.heap H locs → lv_has ls 10 [(0, .ref (ad 95)), (1, .int x1), (2, .int x2), (3, .int x3), (4, .int x4), (5, .long x5), (7, .int x7)] → k31 x1 x2 x3 x4 x5 x7 X Y = some res → W p l e zR_Mod_fetchFor s m args below meth c H locs 0 0 (MQ below (zu_Qi D cA ad A res.1 res.2.1 res.2.2) args s 0 0 A) (F0 m 31 ls [])) (x1 : Int32) (x2 : Int32) (x3 : Int32) (x4 : Int32) (x5 : Int64) (x7 : Int32) (X : IX) (Y : LX) (H : Heap) (locs : List Loc) (ls : Array Slot) (hP : va_P D zu_cl (zu_pic cA ad X Y) H) (hS : va_S A s.heap H locs) (hl : lv_has ls 10 [(0, .ref (ad 95)), (1, .int x1), (2, .int x2), (3, .int x3), (4, .int x4), (5, .long x5), (7, .int x7)]) (hf : fn_Mod_fetchFor_B31 k31 x1 x2 x3 x4 x5 x7 X Y = some res) : W p l e zR_Mod_fetchFor s m args below meth c H locs 0 0 (MQ below (zu_Qi D cA ad A res.1 res.2.1 res.2.2) args s 0 0 A) (F0 m 31 ls []) := by
  obtain ⟨hx, hb, hml, hown, hts, hST⟩ := id B
  unfold fn_Mod_fetchFor_B31 at hf
  refine lv_iload hx hb zd_Mod_fetchFor_31 (lv_at hl 6 rfl) ?_
  refine lv_bipush (v := 10) hx hb zd_Mod_fetchFor_33 (by decide) ?_
  refine lv_icmp_ge (tgt := 81) hx hb zd_Mod_fetchFor_35 (by decide) (fun c8 => ?_) (fun c8 => ?_)
  · have hf := zu_t c8 hf
    refine lv_aload_n hx hb zd_Mod_fetchFor_81 rfl (lv_at hl 0 rfl) ?_
    refine zg_Mod_s B hP rfl zq_861 zd_Mod_fetchFor_82 ?_
    refine lv_iconst (v := 4) hx hb zd_Mod_fetchFor_85 (by decide) ?_
    refine lv_iload_n hx hb zd_Mod_fetchFor_86 rfl (lv_at hl 3 rfl) ?_
    refine zr_iast (j := 4) (by decide) B hP hS hf rfl (by decide) rfl (by decide) zd_Mod_fetchFor_87 (fun X9 H locs hf hP hS => ?_)
    refine lv_iload hx hb zd_Mod_fetchFor_88 (lv_at hl 4 rfl) ?_
    obtain rfl := Option.some.inj hf
    exact zr_iret hx hb hret hlk hP hS zd_Mod_fetchFor_90
  · have hf := zu_f c8 hf
    refine lv_aload_n hx hb zd_Mod_fetchFor_38 rfl (lv_at hl 0 rfl) ?_
    refine zg_Mod_s B hP rfl zq_861 zd_Mod_fetchFor_39 ?_
    refine lv_iconst (v := 4) hx hb zd_Mod_fetchFor_42 (by decide) ?_
    refine lv_iload hx hb zd_Mod_fetchFor_43 (lv_at hl 6 rfl) ?_
    refine zr_iast (j := 4) (by decide) B hP hS hf rfl (by decide) rfl (by decide) zd_Mod_fetchFor_45 (fun X10 H locs hf hP hS => ?_)
    refine lv_aload_n hx hb zd_Mod_fetchFor_46 rfl (lv_at hl 0 rfl) ?_
    refine lv_iload_n hx hb zd_Mod_fetchFor_47 rfl (lv_at hl 1 rfl) ?_
    refine lv_iload_n hx hb zd_Mod_fetchFor_48 rfl (lv_at hl 2 rfl) ?_
    obtain ⟨v11, X12, Y13, hq14, hf⟩ := zu_b3_e hf
    refine zw_Mod_homeParts (rest := []) B hP hS hq14 zq_1170 (Nat.le_of_ble_eq_true rfl) (Nat.le_of_ble_eq_true rfl) hl.1 rfl (Nat.le_of_ble_eq_true rfl) zd_Mod_fetchFor_49 (by decide) (fun H locs hP hS => ?_)
    clear hq14
    refine lv_lstore (lv' := [(8, .long v11), (0, .ref (ad 95)), (1, .int x1), (2, .int x2), (3, .int x3), (4, .int x4), (5, .long x5), (7, .int x7)]) hx hb zd_Mod_fetchFor_52 hl (by decide) rfl (fun ls hl => ?_)
    refine lv_iload hx hb zd_Mod_fetchFor_54 (lv_at hl 5 rfl) ?_
    refine lv_if_lt (tgt := 67) hx hb zd_Mod_fetchFor_56 (by decide) (fun c15 => ?_) (fun c15 => ?_)
    · have hf := zu_t c15 hf
      exact zl_Mod_fetchFor_L67 B hret hlk hk31 x1 x2 x3 x7 v11 X12 Y13 _ _ _ hP hS (lv_sub hl [1, 2, 3, 4, 7, 0] rfl) hf
    · have hf := zu_f c15 hf
      refine lv_lload hx hb zd_Mod_fetchFor_59 (lv_at hl 0 rfl) ?_
      refine lv_lload hx hb zd_Mod_fetchFor_61 (lv_at hl 6 rfl) ?_
      refine W.lcmp hx hb zd_Mod_fetchFor_63 ?_
      refine lv_if_le (tgt := 75) hx hb zd_Mod_fetchFor_64 (by decide) (fun c16 => ?_) (fun c16 => ?_)
      · have hf := zu_t c16 hf
        exact zl_Mod_fetchFor_L75 B hret hlk hk31 x1 x2 x3 x4 x5 x7 X12 Y13 _ _ _ hP hS (lv_sub hl [1, 2, 3, 4, 5, 6, 7] rfl) hf
      · have hf := zu_f c16 hf
        exact zl_Mod_fetchFor_L67 B hret hlk hk31 x1 x2 x3 x7 v11 X12 Y13 _ _ _ hP hS (lv_sub hl [1, 2, 3, 4, 7, 0] rfl) hf
theorem zl_Mod_fetchFor_L31 {p : Program} {l : Launch} {e : Env} {s : State} {m : MethodId} {args : Array Value} {below : List Frame} {meth : Method} {c : Code} {D : va_G} {cA : Nat → ClassId} {ad : Nat → Nat} {A : Nat → Prop} (B : zu_B p s m args c zb_Mod_fetchFor 10 "StonePostModel" D cA ad A) (hret : meth.sig.returnType = (some .int)) (hlk : meth.locks = false) {res : Int32 × IX × LX} : ∀ (n : Nat) (x1 : Int32) (x2 : Int32) (x3 : Int32) (x4 : Int32) (x5 : Int64) (x7 : Int32) (X : IX) (Y : LX) (H : Heap) (locs : List Loc) (ls : Array Slot), va_P D zu_cl (zu_pic cA ad X Y) H → va_S A s.heap H locs → lv_has ls 10 [(0, .ref (ad 95)), (1, .int x1), (2, .int x2), (3, .int x3), (4, .int x4), (5, .long x5), (7, .int x7)] → fn_Mod_fetchFor_L31 n x1 x2 x3 x4 x5 x7 X Y = some res → W p l e zR_Mod_fetchFor s m args below meth c H locs 0 0 (MQ below (zu_Qi D cA ad A res.1 res.2.1 res.2.2) args s 0 0 A) (F0 m 31 ls []) := by
  intro n
  induction n with
  | zero =>
    intro x1 x2 x3 x4 x5 x7 X Y H locs ls hP hS hl hf
    exact (Option.some_ne_none _ hf.symm).elim
  | succ n ih =>
    intro x1 x2 x3 x4 x5 x7 X Y H locs ls hP hS hl hf
    exact zl_Mod_fetchFor_B31 B hret hlk ih x1 x2 x3 x4 x5 x7 X Y H locs ls hP hS hl  hf
set_option maxHeartbeats 4000000 in
theorem zl_Mod_fetchFor {p : Program} {l : Launch} {e : Env} {s : State} {m : MethodId} {args : Array Value} {below : List Frame} {meth : Method} {c : Code} {D : va_G} {cA : Nat → ClassId} {ad : Nat → Nat} {A : Nat → Prop} (B : zu_B p s m args c zb_Mod_fetchFor 10 "StonePostModel" D cA ad A) (hret : meth.sig.returnType = (some .int)) (hlk : meth.locks = false) {res : Int32 × IX × LX} {a1 : Int32} {a2 : Int32} {X : IX} {Y : LX} (H : Heap) (locs : List Loc) (ls : Array Slot) (hP : va_P D zu_cl (zu_pic cA ad X Y) H) (hS : va_S A s.heap H locs) (hl : lv_has ls 10 [(0, .ref (ad 95)), (1, .int a1), (2, .int a2)]) (hf : fn_Mod_fetchFor a1 a2 X Y = some res) : W p l e zR_Mod_fetchFor s m args below meth c H locs 0 0 (MQ below (zu_Qi D cA ad A res.1 res.2.1 res.2.2) args s 0 0 A) (F0 m 0 ls []) := by
  obtain ⟨hx, hb, hml, hown, hts, hST⟩ := id B
  unfold fn_Mod_fetchFor at hf
  refine lv_iload_n hx hb zd_Mod_fetchFor_0 rfl (lv_at hl 1 rfl) ?_
  refine lv_iload_n hx hb zd_Mod_fetchFor_1 rfl (lv_at hl 2 rfl) ?_
  obtain ⟨v1, hq2, hf⟩ := zu_b1_e hf
  refine zw_Mod_isTry (rest := []) B hP hS hq2 zq_1186 (Nat.le_of_ble_eq_true rfl) (Nat.le_of_ble_eq_true rfl) hl.1 rfl (Nat.le_of_ble_eq_true rfl) zd_Mod_fetchFor_2 (by decide) (fun H locs hP hS => ?_)
  clear hq2
  refine lv_if_ne (tgt := 15) hx hb zd_Mod_fetchFor_5 (by decide) (fun c3 => ?_) (fun c3 => ?_)
  · have hf := zu_f c3 hf
    refine lv_aload_n hx hb zd_Mod_fetchFor_15 rfl (lv_at hl 0 rfl) ?_
    refine zg_Mod_s B hP rfl zq_861 zd_Mod_fetchFor_16 ?_
    refine lv_iconst (v := 4) hx hb zd_Mod_fetchFor_19 (by decide) ?_
    refine zr_iald (j := 4) (by decide) B hP rfl (by decide) rfl (by decide) zd_Mod_fetchFor_20 ?_
    refine zr_nxi hf (fun v4 hf => ?_)
    refine lv_istore_n (lv' := [(3, .int v4), (0, .ref (ad 95)), (1, .int a1), (2, .int a2)]) hx hb zd_Mod_fetchFor_21 rfl hl (by decide) rfl (fun ls hl => ?_)
    refine lv_iconst (v := -1) hx hb zd_Mod_fetchFor_22 (by decide) ?_
    refine lv_istore (lv' := [(4, .int (-1 : Int32)), (3, .int v4), (0, .ref (ad 95)), (1, .int a1), (2, .int a2)]) hx hb zd_Mod_fetchFor_23 hl (by decide) rfl (fun ls hl => ?_)
    refine lv_lconst (v := 0) hx hb zd_Mod_fetchFor_25 (by decide) ?_
    refine lv_lstore (lv' := [(5, .long (0 : Int64)), (4, .int (-1 : Int32)), (3, .int v4), (0, .ref (ad 95)), (1, .int a1), (2, .int a2)]) hx hb zd_Mod_fetchFor_26 hl (by decide) rfl (fun ls hl => ?_)
    refine lv_iconst (v := 0) hx hb zd_Mod_fetchFor_28 (by decide) ?_
    refine lv_istore (lv' := [(7, .int (0 : Int32)), (5, .long (0 : Int64)), (4, .int (-1 : Int32)), (3, .int v4), (0, .ref (ad 95)), (1, .int a1), (2, .int a2)]) hx hb zd_Mod_fetchFor_29 hl (by decide) rfl (fun ls hl => ?_)
    exact zl_Mod_fetchFor_L31 B hret hlk 400 a1 a2 v4 (-1 : Int32) (0 : Int64) (0 : Int32) X Y _ _ _ hP hS (lv_sub hl [4, 5, 6, 3, 2, 1, 0] rfl) hf
  · have hf := zu_t c3 hf
    refine lv_aload_n hx hb zd_Mod_fetchFor_8 rfl (lv_at hl 0 rfl) ?_
    refine lv_ldc (v := -1000001) hx hb hown (hts _ zq_943) zd_Mod_fetchFor_9 ?_
    obtain ⟨v5, X6, hq7, hf⟩ := zu_b2_e hf
    refine zw_Mod_finds (rest := []) B hP hS hq7 zq_944 (Nat.le_of_ble_eq_true rfl) (Nat.le_of_ble_eq_true rfl) hl.1 rfl (Nat.le_of_ble_eq_true rfl) zd_Mod_fetchFor_11 (by decide) (fun H locs hP hS => ?_)
    clear hq7
    obtain rfl := Option.some.inj hf
    exact zr_iret hx hb hret hlk hP hS zd_Mod_fetchFor_14
theorem zC_Mod_fetchFor (l : Launch) {D : va_G} {cA : Nat → ClassId} {ad : Nat → Nat} {A : Nat → Prop} {a1 : Int32} {a2 : Int32} {X : IX} {Y : LX} {res : Int32 × IX × LX} (hf : fn_Mod_fetchFor a1 a2 X Y = some res) : Met l zm_Mod_fetchFor (zu_ws zm_Mod_fetchFor zb_Mod_fetchFor 10 (some .int)) zR_Mod_fetchFor (va_Pc [.ref (ad 95), .int a1, .int a2] (zu_Pre D cA ad A X Y)) (zu_Qi D cA ad A res.1 res.2.1 res.2.2) 0 0 A := by
  refine Met.ofW (cc := zb_Mod_fetchFor) (maxL := 10) (ret := (some .int)) (by decide +kernel) rfl ?_
  intro p e s m args below meth c s₁ B0 hml hv
  obtain ⟨rfl, hP, hST⟩ := hv
  have B : zu_B p s m _ c zb_Mod_fetchFor 10 "StonePostModel" D cA ad A := ⟨B0.exec, B0.bytes, hml, findClass_of_methodNamed B0.named, (fun w hw => atoms_spec (ws := zu_ws zm_Mod_fetchFor zb_Mod_fetchFor 10 (some .int)) B0.pre w (List.mem_cons_of_mem _ hw)), hST⟩
  have hl := lv_entry ([.ref (ad 95), .int a1, .int a2]) (n := 10) (Nat.le_of_ble_eq_true rfl)
  rw [lg_entry_eq]
  generalize (lg_sl ([.ref (ad 95), .int a1, .int a2]) ++ List.replicate (10 - (lg_sl ([.ref (ad 95), .int a1, .int a2])).length) Slot.unset).toArray = ls at hl ⊢
  exact zl_Mod_fetchFor B B0.returns B0.notSynchronized s.heap [] ls hP va_S.rf hl  hf
theorem zw_Mod_fetchFor {p : Program} {l : Launch} {e : Env} {R : Room} {s : State} {m : MethodId} {args : Array Value} {below : List Frame} {meth : Method} {c : Code} {H : Heap} {locs : List Loc} {cells slots : Nat} {Q : State → Prop} {cc : ByteArray} {pc nL : Nat} {ls : Array Slot} {rest st0 : List Value} {D : va_G} {cA : Nat → ClassId} {ad : Nat → Nat} {A : Nat → Prop} {X : IX} {Y : LX} {own : String} {index : Nat} {a1 : Int32} {a2 : Int32} {v1 : Int32} {X1 : IX} {Y1 : LX} (B : zu_B p s m args c cc nL own D cA ad A) (hP : va_P D zu_cl (zu_pic cA ad X Y) H) (hS : va_S A s.heap H locs) (hq : fn_Mod_fetchFor a1 a2 X Y = some (v1, X1, Y1)) (m1 : Cond.methodLink own index zm_Mod_fetchFor ∈ zu_TB) (hR1 : 7 + 1 ≤ R.frames) (hR2 : 8 + (10 + 11) + 165 ≤ R.locals) (hsz : ls.size = nL) (hst : st0 = .int a2 :: .int a1 :: .ref (ad 95) :: rest) (hw : (rest.map fun v => v.category).sum ≤ 8) (hdg : decode cc pc = .ok (.invokevirtual index, 3)) (h00 : cells ≤ R.cells ∧ slots ≤ R.slots) (kk : ∀ (H1 : Heap) (locs1 : List Loc), va_P D zu_cl (zu_pic cA ad X1 Y1) H1 → va_S A s.heap H1 locs1 → W p l e R s m args below meth c H1 locs1 cells slots Q (F0 m (pc + 3) ls (.int v1 :: rest))) : W p l e R s m args below meth c H locs cells slots Q (F0 m pc ls st0) := by
  subst hst
  exact zr_cVi (As := [.int a1, .int a2]) (rest := rest) (n := 2) (C := "StonePostModel") (T := zt_Mod) (N := 23) B hP hS (zC_Mod_fetchFor l  hq) (K := 7) rfl (by decide) (by decide) rfl rfl m1 zq_1195 zq_1196 zq_8 zq_1197 (by decide +kernel) ⟨hR1, hR2⟩ rfl rfl rfl hsz rfl hw hdg h00 kk
