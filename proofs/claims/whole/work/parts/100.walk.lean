abbrev zR_Post_isWithin : Room := { frames := 0, cells := 0, slots := 0, locals := 0 }
theorem zd_Post_isWithin_0 : decode zb_Post_isWithin 0 = .ok (.iload_n 0, 1) := by decide +kernel
theorem zd_Post_isWithin_1 : decode zb_Post_isWithin 1 = .ok (.iload_n 1, 1) := by decide +kernel
theorem zd_Post_isWithin_2 : decode zb_Post_isWithin 2 = .ok (.if_icmp .lt 12, 3) := by decide +kernel
theorem zd_Post_isWithin_5 : decode zb_Post_isWithin 5 = .ok (.iload_n 0, 1) := by decide +kernel
theorem zd_Post_isWithin_6 : decode zb_Post_isWithin 6 = .ok (.iload_n 2, 1) := by decide +kernel
theorem zd_Post_isWithin_7 : decode zb_Post_isWithin 7 = .ok (.if_icmp .gt 7, 3) := by decide +kernel
theorem zd_Post_isWithin_10 : decode zb_Post_isWithin 10 = .ok (.iconst 1, 1) := by decide +kernel
theorem zd_Post_isWithin_11 : decode zb_Post_isWithin 11 = .ok (.goto 4, 3) := by decide +kernel
theorem zd_Post_isWithin_14 : decode zb_Post_isWithin 14 = .ok (.iconst 0, 1) := by decide +kernel
theorem zd_Post_isWithin_15 : decode zb_Post_isWithin 15 = .ok (.ireturn, 1) := by decide +kernel
set_option maxHeartbeats 4000000 in
theorem zl_Post_isWithin_L15 {p : Program} {l : Launch} {e : Env} {s : State} {m : MethodId} {args : Array Value} {below : List Frame} {meth : Method} {c : Code} {D : va_G} {cA : Nat → ClassId} {ad : Nat → Nat} {A : Nat → Prop} (B : zu_B p s m args c zb_Post_isWithin 3 "StonePost" D cA ad A) (hret : meth.sig.returnType = (some .boolean)) (hlk : meth.locks = false) {X : IX} {Y : LX} {res : Int32} (y0 : Int32) (H : Heap) (locs : List Loc) (ls : Array Slot) (hP : va_P D zu_cl (zu_pic cA ad X Y) H) (hS : va_S A s.heap H locs) (hl : lv_has ls 3 []) (hf : fn_Post_isWithin_L15 y0 = some res) : W p l e zR_Post_isWithin s m args below meth c H locs 0 0 (MQ below (zu_Qi D cA ad A res X Y) args s 0 0 A) (F0 m 15 ls [.int y0]) := by
  obtain ⟨hx, hb, hml, hown, hts, hST⟩ := id B
  unfold fn_Post_isWithin_L15 at hf
  obtain ⟨hg3, hf⟩ := zu_gd_e hf
  obtain rfl := Option.some.inj hf
  exact zr_zret hx hb hret hlk hP hS hg3 zd_Post_isWithin_15
set_option maxHeartbeats 4000000 in
theorem zl_Post_isWithin_L14 {p : Program} {l : Launch} {e : Env} {s : State} {m : MethodId} {args : Array Value} {below : List Frame} {meth : Method} {c : Code} {D : va_G} {cA : Nat → ClassId} {ad : Nat → Nat} {A : Nat → Prop} (B : zu_B p s m args c zb_Post_isWithin 3 "StonePost" D cA ad A) (hret : meth.sig.returnType = (some .boolean)) (hlk : meth.locks = false) {X : IX} {Y : LX} {res : Int32} (H : Heap) (locs : List Loc) (ls : Array Slot) (hP : va_P D zu_cl (zu_pic cA ad X Y) H) (hS : va_S A s.heap H locs) (hl : lv_has ls 3 []) (hf : fn_Post_isWithin_L14 = some res) : W p l e zR_Post_isWithin s m args below meth c H locs 0 0 (MQ below (zu_Qi D cA ad A res X Y) args s 0 0 A) (F0 m 14 ls []) := by
  obtain ⟨hx, hb, hml, hown, hts, hST⟩ := id B
  unfold fn_Post_isWithin_L14 at hf
  refine lv_iconst (v := 0) hx hb zd_Post_isWithin_14 (by decide) ?_
  exact zl_Post_isWithin_L15 B hret hlk (0 : Int32) _ _ _ hP hS (lv_sub hl [] rfl) hf
set_option maxHeartbeats 4000000 in
theorem zl_Post_isWithin {p : Program} {l : Launch} {e : Env} {s : State} {m : MethodId} {args : Array Value} {below : List Frame} {meth : Method} {c : Code} {D : va_G} {cA : Nat → ClassId} {ad : Nat → Nat} {A : Nat → Prop} (B : zu_B p s m args c zb_Post_isWithin 3 "StonePost" D cA ad A) (hret : meth.sig.returnType = (some .boolean)) (hlk : meth.locks = false) {X : IX} {Y : LX} {res : Int32} {a0 : Int32} {a1 : Int32} {a2 : Int32} (H : Heap) (locs : List Loc) (ls : Array Slot) (hP : va_P D zu_cl (zu_pic cA ad X Y) H) (hS : va_S A s.heap H locs) (hl : lv_has ls 3 [(0, .int a0), (1, .int a1), (2, .int a2)]) (hf : fn_Post_isWithin a0 a1 a2 = some res) : W p l e zR_Post_isWithin s m args below meth c H locs 0 0 (MQ below (zu_Qi D cA ad A res X Y) args s 0 0 A) (F0 m 0 ls []) := by
  obtain ⟨hx, hb, hml, hown, hts, hST⟩ := id B
  unfold fn_Post_isWithin at hf
  refine lv_iload_n hx hb zd_Post_isWithin_0 rfl (lv_at hl 0 rfl) ?_
  refine lv_iload_n hx hb zd_Post_isWithin_1 rfl (lv_at hl 1 rfl) ?_
  refine lv_icmp_lt (tgt := 14) hx hb zd_Post_isWithin_2 (by decide) (fun c1 => ?_) (fun c1 => ?_)
  · have hf := zu_t c1 hf
    exact zl_Post_isWithin_L14 B hret hlk _ _ _ hP hS (lv_sub hl [] rfl) hf
  · have hf := zu_f c1 hf
    refine lv_iload_n hx hb zd_Post_isWithin_5 rfl (lv_at hl 0 rfl) ?_
    refine lv_iload_n hx hb zd_Post_isWithin_6 rfl (lv_at hl 2 rfl) ?_
    refine lv_icmp_gt (tgt := 14) hx hb zd_Post_isWithin_7 (by decide) (fun c2 => ?_) (fun c2 => ?_)
    · have hf := zu_t c2 hf
      exact zl_Post_isWithin_L14 B hret hlk _ _ _ hP hS (lv_sub hl [] rfl) hf
    · have hf := zu_f c2 hf
      refine lv_iconst (v := 1) hx hb zd_Post_isWithin_10 (by decide) ?_
      refine lv_goto (tgt := 15) hx hb zd_Post_isWithin_11 (by decide) ?_
      exact zl_Post_isWithin_L15 B hret hlk (1 : Int32) _ _ _ hP hS (lv_sub hl [] rfl) hf
theorem zC_Post_isWithin (l : Launch) {D : va_G} {cA : Nat → ClassId} {ad : Nat → Nat} {A : Nat → Prop} {a0 : Int32} {a1 : Int32} {a2 : Int32} {X : IX} {Y : LX} {res : Int32} (hf : fn_Post_isWithin a0 a1 a2 = some res) : Met l zm_Post_isWithin (zu_ws zm_Post_isWithin zb_Post_isWithin 3 (some .boolean)) zR_Post_isWithin (va_Pc [.int a0, .int a1, .int a2] (zu_Pre D cA ad A X Y)) (zu_Qi D cA ad A res X Y) 0 0 A := by
  refine Met.ofW (cc := zb_Post_isWithin) (maxL := 3) (ret := (some .boolean)) (by decide +kernel) rfl ?_
  intro p e s m args below meth c s₁ B0 hml hv
  obtain ⟨rfl, hP, hST⟩ := hv
  have B : zu_B p s m _ c zb_Post_isWithin 3 "StonePost" D cA ad A := ⟨B0.exec, B0.bytes, hml, findClass_of_methodNamed B0.named, (fun w hw => atoms_spec (ws := zu_ws zm_Post_isWithin zb_Post_isWithin 3 (some .boolean)) B0.pre w (List.mem_cons_of_mem _ hw)), hST⟩
  have hl := lv_entry ([.int a0, .int a1, .int a2]) (n := 3) (Nat.le_of_ble_eq_true rfl)
  rw [lg_entry_eq]
  generalize (lg_sl ([.int a0, .int a1, .int a2]) ++ List.replicate (3 - (lg_sl ([.int a0, .int a1, .int a2])).length) Slot.unset).toArray = ls at hl ⊢
  exact zl_Post_isWithin B B0.returns B0.notSynchronized s.heap [] ls hP va_S.rf hl  hf
theorem zw_Post_isWithin {p : Program} {l : Launch} {e : Env} {R : Room} {s : State} {m : MethodId} {args : Array Value} {below : List Frame} {meth : Method} {c : Code} {H : Heap} {locs : List Loc} {cells slots : Nat} {Q : State → Prop} {cc : ByteArray} {pc nL : Nat} {ls : Array Slot} {rest st0 : List Value} {D : va_G} {cA : Nat → ClassId} {ad : Nat → Nat} {A : Nat → Prop} {X : IX} {Y : LX} {own : String} {index : Nat} {a0 : Int32} {a1 : Int32} {a2 : Int32} {v1 : Int32} (B : zu_B p s m args c cc nL own D cA ad A) (hP : va_P D zu_cl (zu_pic cA ad X Y) H) (hS : va_S A s.heap H locs) (hq : fn_Post_isWithin a0 a1 a2 = some v1) (m1 : Cond.methodLink own index zm_Post_isWithin ∈ zu_TB) (hR1 : 0 + 1 ≤ R.frames) (hR2 : 8 + (3 + 11) + 0 ≤ R.locals) (hsz : ls.size = nL) (hst : st0 = .int a2 :: .int a1 :: .int a0 ::  rest) (hw : (rest.map fun v => v.category).sum ≤ 8) (hdg : decode cc pc = .ok (.invokestatic index, 3)) (h00 : cells ≤ R.cells ∧ slots ≤ R.slots) (kk : ∀ (H1 : Heap) (locs1 : List Loc), va_P D zu_cl (zu_pic cA ad X Y) H1 → va_S A s.heap H1 locs1 → W p l e R s m args below meth c H1 locs1 cells slots Q (F0 m (pc + 3) ls (.int v1 :: rest))) : W p l e R s m args below meth c H locs cells slots Q (F0 m pc ls st0) := by
  subst hst
  exact zr_cSi (As := [.int a0, .int a1, .int a2]) (rest := rest) (n := 3) B hP hS (zC_Post_isWithin l  hq) m1 zq_224 zq_1 zq_225 (by decide +kernel) ⟨hR1, hR2⟩ rfl rfl rfl hsz rfl hw hdg h00 kk
theorem zwN_Post_isWithin {p : Program} {l : Launch} {e : Env} {R : Room} {s : State} {m : MethodId} {args : Array Value} {below : List Frame} {meth : Method} {c : Code} {H : Heap} {locs : List Loc} {cells slots : Nat} {Q : State → Prop} {cc : ByteArray} {pc nL : Nat} {ls : Array Slot} {rest st0 : List Value} {D : va_G} {cA : Nat → ClassId} {ad : Nat → Nat} {A : Nat → Prop} {X : IX} {Y : LX} {own : String} {index : Nat} {a0 : Int32} {a1 : Int32} {a2 : Int32} {v1 : Int32} (B : zu_B p s m args c cc nL own D cA ad A) (hP : va_P D zu_cl (zu_pic cA ad X Y) H) (hS : va_S A s.heap H locs) (hq : fn_Post_isWithin a0 a1 a2 = some v1) (m1 : va_Nw (.methodLinkNest own index zm_Post_isWithin "StonePost") s) (hR1 : 0 + 1 ≤ R.frames) (hR2 : 8 + (3 + 11) + 0 ≤ R.locals) (hsz : ls.size = nL) (hst : st0 = .int a2 :: .int a1 :: .int a0 ::  rest) (hw : (rest.map fun v => v.category).sum ≤ 8) (hdg : decode cc pc = .ok (.invokestatic index, 3)) (h00 : cells ≤ R.cells ∧ slots ≤ R.slots) (kk : ∀ (H1 : Heap) (locs1 : List Loc), va_P D zu_cl (zu_pic cA ad X Y) H1 → va_S A s.heap H1 locs1 → W p l e R s m args below meth c H1 locs1 cells slots Q (F0 m (pc + 3) ls (.int v1 :: rest))) : W p l e R s m args below meth c H locs cells slots Q (F0 m pc ls st0) := by
  subst hst
  exact zr_cNi (As := [.int a0, .int a1, .int a2]) (rest := rest) (n := 3) B hP hS (zC_Post_isWithin l  hq) m1 zq_224 zq_1 zq_225 (by decide +kernel) ⟨hR1, hR2⟩ rfl rfl rfl hsz rfl hw hdg h00 kk
abbrev zR_Post_isCell : Room := { frames := 1, cells := 0, slots := 0, locals := 22 }
theorem zd_Post_isCell_0 : decode zb_Post_isCell 0 = .ok (.iload_n 0, 1) := by decide +kernel
theorem zd_Post_isCell_1 : decode zb_Post_isCell 1 = .ok (.iconst 0, 1) := by decide +kernel
theorem zd_Post_isCell_2 : decode zb_Post_isCell 2 = .ok (.bipush 23, 2) := by decide +kernel
theorem zd_Post_isCell_4 : decode zb_Post_isCell 4 = .ok (.invokestatic 51, 3) := by decide +kernel
theorem zd_Post_isCell_7 : decode zb_Post_isCell 7 = .ok (.ireturn, 1) := by decide +kernel
set_option maxHeartbeats 4000000 in
theorem zl_Post_isCell {p : Program} {l : Launch} {e : Env} {s : State} {m : MethodId} {args : Array Value} {below : List Frame} {meth : Method} {c : Code} {D : va_G} {cA : Nat → ClassId} {ad : Nat → Nat} {A : Nat → Prop} (B : zu_B p s m args c zb_Post_isCell 1 "StonePost" D cA ad A) (hret : meth.sig.returnType = (some .boolean)) (hlk : meth.locks = false) {X : IX} {Y : LX} {res : Int32} {a0 : Int32} (H : Heap) (locs : List Loc) (ls : Array Slot) (hP : va_P D zu_cl (zu_pic cA ad X Y) H) (hS : va_S A s.heap H locs) (hl : lv_has ls 1 [(0, .int a0)]) (hf : fn_Post_isCell a0 = some res) : W p l e zR_Post_isCell s m args below meth c H locs 0 0 (MQ below (zu_Qi D cA ad A res X Y) args s 0 0 A) (F0 m 0 ls []) := by
  obtain ⟨hx, hb, hml, hown, hts, hST⟩ := id B
  unfold fn_Post_isCell at hf
  refine lv_iload_n hx hb zd_Post_isCell_0 rfl (lv_at hl 0 rfl) ?_
  refine lv_iconst (v := 0) hx hb zd_Post_isCell_1 (by decide) ?_
  refine lv_bipush (v := 23) hx hb zd_Post_isCell_2 (by decide) ?_
  obtain ⟨v1, hq2, hf⟩ := zu_b1_e hf
  refine zw_Post_isWithin (rest := []) B hP hS hq2 zq_223 (Nat.le_of_ble_eq_true rfl) (Nat.le_of_ble_eq_true rfl) hl.1 rfl (Nat.le_of_ble_eq_true rfl) zd_Post_isCell_4 (by decide) (fun H locs hP hS => ?_)
  clear hq2
  obtain ⟨hg3, hf⟩ := zu_gd_e hf
  obtain rfl := Option.some.inj hf
  exact zr_zret hx hb hret hlk hP hS hg3 zd_Post_isCell_7
theorem zC_Post_isCell (l : Launch) {D : va_G} {cA : Nat → ClassId} {ad : Nat → Nat} {A : Nat → Prop} {a0 : Int32} {X : IX} {Y : LX} {res : Int32} (hf : fn_Post_isCell a0 = some res) : Met l zm_Post_isCell (zu_ws zm_Post_isCell zb_Post_isCell 1 (some .boolean)) zR_Post_isCell (va_Pc [.int a0] (zu_Pre D cA ad A X Y)) (zu_Qi D cA ad A res X Y) 0 0 A := by
  refine Met.ofW (cc := zb_Post_isCell) (maxL := 1) (ret := (some .boolean)) (by decide +kernel) rfl ?_
  intro p e s m args below meth c s₁ B0 hml hv
  obtain ⟨rfl, hP, hST⟩ := hv
  have B : zu_B p s m _ c zb_Post_isCell 1 "StonePost" D cA ad A := ⟨B0.exec, B0.bytes, hml, findClass_of_methodNamed B0.named, (fun w hw => atoms_spec (ws := zu_ws zm_Post_isCell zb_Post_isCell 1 (some .boolean)) B0.pre w (List.mem_cons_of_mem _ hw)), hST⟩
  have hl := lv_entry ([.int a0]) (n := 1) (Nat.le_of_ble_eq_true rfl)
  rw [lg_entry_eq]
  generalize (lg_sl ([.int a0]) ++ List.replicate (1 - (lg_sl ([.int a0])).length) Slot.unset).toArray = ls at hl ⊢
  exact zl_Post_isCell B B0.returns B0.notSynchronized s.heap [] ls hP va_S.rf hl  hf
theorem zw_Post_isCell {p : Program} {l : Launch} {e : Env} {R : Room} {s : State} {m : MethodId} {args : Array Value} {below : List Frame} {meth : Method} {c : Code} {H : Heap} {locs : List Loc} {cells slots : Nat} {Q : State → Prop} {cc : ByteArray} {pc nL : Nat} {ls : Array Slot} {rest st0 : List Value} {D : va_G} {cA : Nat → ClassId} {ad : Nat → Nat} {A : Nat → Prop} {X : IX} {Y : LX} {own : String} {index : Nat} {a0 : Int32} {v1 : Int32} (B : zu_B p s m args c cc nL own D cA ad A) (hP : va_P D zu_cl (zu_pic cA ad X Y) H) (hS : va_S A s.heap H locs) (hq : fn_Post_isCell a0 = some v1) (m1 : Cond.methodLink own index zm_Post_isCell ∈ zu_TB) (hR1 : 1 + 1 ≤ R.frames) (hR2 : 8 + (1 + 11) + 22 ≤ R.locals) (hsz : ls.size = nL) (hst : st0 = .int a0 ::  rest) (hw : (rest.map fun v => v.category).sum ≤ 8) (hdg : decode cc pc = .ok (.invokestatic index, 3)) (h00 : cells ≤ R.cells ∧ slots ≤ R.slots) (kk : ∀ (H1 : Heap) (locs1 : List Loc), va_P D zu_cl (zu_pic cA ad X Y) H1 → va_S A s.heap H1 locs1 → W p l e R s m args below meth c H1 locs1 cells slots Q (F0 m (pc + 3) ls (.int v1 :: rest))) : W p l e R s m args below meth c H locs cells slots Q (F0 m pc ls st0) := by
  subst hst
  exact zr_cSi (As := [.int a0]) (rest := rest) (n := 1) B hP hS (zC_Post_isCell l  hq) m1 zq_221 zq_1 zq_222 (by decide +kernel) ⟨hR1, hR2⟩ rfl rfl rfl hsz rfl hw hdg h00 kk
abbrev zR_Post_finding : Room := { frames := 1, cells := 0, slots := 0, locals := 22 }
theorem zd_Post_finding_0 : decode zb_Post_finding 0 = .ok (.ldc 55, 2) := by decide +kernel
theorem zd_Post_finding_2 : decode zb_Post_finding 2 = .ok (.iload_n 1, 1) := by decide +kernel
theorem zd_Post_finding_3 : decode zb_Post_finding 3 = .ok (.isub, 1) := by decide +kernel
theorem zd_Post_finding_4 : decode zb_Post_finding 4 = .ok (.istore_n 2, 1) := by decide +kernel
theorem zd_Post_finding_5 : decode zb_Post_finding 5 = .ok (.iload_n 2, 1) := by decide +kernel
theorem zd_Post_finding_6 : decode zb_Post_finding 6 = .ok (.iconst 0, 1) := by decide +kernel
theorem zd_Post_finding_7 : decode zb_Post_finding 7 = .ok (.bipush 6, 2) := by decide +kernel
theorem zd_Post_finding_9 : decode zb_Post_finding 9 = .ok (.invokestatic 51, 3) := by decide +kernel
theorem zd_Post_finding_12 : decode zb_Post_finding 12 = .ok (.ifCond .eq 13, 3) := by decide +kernel
theorem zd_Post_finding_15 : decode zb_Post_finding 15 = .ok (.aload_n 0, 1) := by decide +kernel
theorem zd_Post_finding_16 : decode zb_Post_finding 16 = .ok (.getfield 42, 3) := by decide +kernel
theorem zd_Post_finding_19 : decode zb_Post_finding 19 = .ok (.iload_n 2, 1) := by decide +kernel
theorem zd_Post_finding_20 : decode zb_Post_finding 20 = .ok (.dup2, 1) := by decide +kernel
theorem zd_Post_finding_21 : decode zb_Post_finding 21 = .ok (.iaload, 1) := by decide +kernel
theorem zd_Post_finding_22 : decode zb_Post_finding 22 = .ok (.iconst 1, 1) := by decide +kernel
theorem zd_Post_finding_23 : decode zb_Post_finding 23 = .ok (.iadd, 1) := by decide +kernel
theorem zd_Post_finding_24 : decode zb_Post_finding 24 = .ok (.iastore, 1) := by decide +kernel
theorem zd_Post_finding_25 : decode zb_Post_finding 25 = .ok (.iload_n 1, 1) := by decide +kernel
theorem zd_Post_finding_26 : decode zb_Post_finding 26 = .ok (.ireturn, 1) := by decide +kernel
set_option maxHeartbeats 4000000 in
theorem zl_Post_finding_L25 {p : Program} {l : Launch} {e : Env} {s : State} {m : MethodId} {args : Array Value} {below : List Frame} {meth : Method} {c : Code} {D : va_G} {cA : Nat → ClassId} {ad : Nat → Nat} {A : Nat → Prop} (B : zu_B p s m args c zb_Post_finding 3 "StonePost" D cA ad A) (hret : meth.sig.returnType = (some .int)) (hlk : meth.locks = false) {Y : LX} {res : Int32 × IX} (x1 : Int32) (X : IX) (H : Heap) (locs : List Loc) (ls : Array Slot) (hP : va_P D zu_cl (zu_pic cA ad X Y) H) (hS : va_S A s.heap H locs) (hl : lv_has ls 3 [(1, .int x1)]) (hf : fn_Post_finding_L25 x1 X = some res) : W p l e zR_Post_finding s m args below meth c H locs 0 0 (MQ below (zu_Qi D cA ad A res.1 res.2 Y) args s 0 0 A) (F0 m 25 ls []) := by
  obtain ⟨hx, hb, hml, hown, hts, hST⟩ := id B
  unfold fn_Post_finding_L25 at hf
  refine lv_iload_n hx hb zd_Post_finding_25 rfl (lv_at hl 0 rfl) ?_
  obtain rfl := Option.some.inj hf
  exact zr_iret hx hb hret hlk hP hS zd_Post_finding_26
set_option maxHeartbeats 4000000 in
theorem zl_Post_finding {p : Program} {l : Launch} {e : Env} {s : State} {m : MethodId} {args : Array Value} {below : List Frame} {meth : Method} {c : Code} {D : va_G} {cA : Nat → ClassId} {ad : Nat → Nat} {A : Nat → Prop} (B : zu_B p s m args c zb_Post_finding 3 "StonePost" D cA ad A) (hret : meth.sig.returnType = (some .int)) (hlk : meth.locks = false) {Y : LX} {res : Int32 × IX} {a1 : Int32} {X : IX} (H : Heap) (locs : List Loc) (ls : Array Slot) (hP : va_P D zu_cl (zu_pic cA ad X Y) H) (hS : va_S A s.heap H locs) (hl : lv_has ls 3 [(0, .ref (ad 0)), (1, .int a1)]) (hf : fn_Post_finding a1 X = some res) : W p l e zR_Post_finding s m args below meth c H locs 0 0 (MQ below (zu_Qi D cA ad A res.1 res.2 Y) args s 0 0 A) (F0 m 0 ls []) := by
  obtain ⟨hx, hb, hml, hown, hts, hST⟩ := id B
  unfold fn_Post_finding at hf
  refine lv_ldc (v := -1000001) hx hb hown (hts _ zq_226) zd_Post_finding_0 ?_
  refine lv_iload_n hx hb zd_Post_finding_2 rfl (lv_at hl 1 rfl) ?_
  refine lv_isub hx hb zd_Post_finding_3 ?_
  refine zr_nxi hf (fun v1 hf => ?_)
  refine lv_istore_n (lv' := [(2, .int v1), (0, .ref (ad 0)), (1, .int a1)]) hx hb zd_Post_finding_4 rfl hl (by decide) rfl (fun ls hl => ?_)
  refine lv_iload_n hx hb zd_Post_finding_5 rfl (lv_at hl 0 rfl) ?_
  refine lv_iconst (v := 0) hx hb zd_Post_finding_6 (by decide) ?_
  refine lv_bipush (v := 6) hx hb zd_Post_finding_7 (by decide) ?_
  obtain ⟨v2, hq3, hf⟩ := zu_b1_e hf
  refine zw_Post_isWithin (rest := []) B hP hS hq3 zq_223 (Nat.le_of_ble_eq_true rfl) (Nat.le_of_ble_eq_true rfl) hl.1 rfl (Nat.le_of_ble_eq_true rfl) zd_Post_finding_9 (by decide) (fun H locs hP hS => ?_)
  clear hq3
  refine lv_if_eq (tgt := 25) hx hb zd_Post_finding_12 (by decide) (fun c4 => ?_) (fun c4 => ?_)
  · have hf := zu_t c4 hf
    exact zl_Post_finding_L25 B hret hlk a1 X _ _ _ hP hS (lv_sub hl [2] rfl) hf
  · have hf := zu_f c4 hf
    refine lv_aload_n hx hb zd_Post_finding_15 rfl (lv_at hl 1 rfl) ?_
    refine zg_Post_found B hP rfl zq_197 zd_Post_finding_16 ?_
    refine lv_iload_n hx hb zd_Post_finding_19 rfl (lv_at hl 0 rfl) ?_
    refine lv_dup2_11 hx hb zd_Post_finding_20 rfl rfl ?_
    obtain ⟨hg5, hf⟩ := zu_gd_e hf
    refine zr_iald rfl B hP rfl (by decide) rfl hg5 zd_Post_finding_21 ?_
    refine lv_iconst (v := 1) hx hb zd_Post_finding_22 (by decide) ?_
    refine lv_iadd hx hb zd_Post_finding_23 ?_
    obtain ⟨hg6, hf⟩ := zu_gd_e hf
    refine zr_iast rfl B hP hS hf rfl (by decide) rfl hg6 zd_Post_finding_24 (fun X7 H locs hf hP hS => ?_)
    exact zl_Post_finding_L25 B hret hlk a1 X7 _ _ _ hP hS (lv_sub hl [2] rfl) hf
theorem zC_Post_finding (l : Launch) {D : va_G} {cA : Nat → ClassId} {ad : Nat → Nat} {A : Nat → Prop} {a1 : Int32} {X : IX} {Y : LX} {res : Int32 × IX} (hf : fn_Post_finding a1 X = some res) : Met l zm_Post_finding (zu_ws zm_Post_finding zb_Post_finding 3 (some .int)) zR_Post_finding (va_Pc [.ref (ad 0), .int a1] (zu_Pre D cA ad A X Y)) (zu_Qi D cA ad A res.1 res.2 Y) 0 0 A := by
  refine Met.ofW (cc := zb_Post_finding) (maxL := 3) (ret := (some .int)) (by decide +kernel) rfl ?_
  intro p e s m args below meth c s₁ B0 hml hv
  obtain ⟨rfl, hP, hST⟩ := hv
  have B : zu_B p s m _ c zb_Post_finding 3 "StonePost" D cA ad A := ⟨B0.exec, B0.bytes, hml, findClass_of_methodNamed B0.named, (fun w hw => atoms_spec (ws := zu_ws zm_Post_finding zb_Post_finding 3 (some .int)) B0.pre w (List.mem_cons_of_mem _ hw)), hST⟩
  have hl := lv_entry ([.ref (ad 0), .int a1]) (n := 3) (Nat.le_of_ble_eq_true rfl)
  rw [lg_entry_eq]
  generalize (lg_sl ([.ref (ad 0), .int a1]) ++ List.replicate (3 - (lg_sl ([.ref (ad 0), .int a1])).length) Slot.unset).toArray = ls at hl ⊢
  exact zl_Post_finding B B0.returns B0.notSynchronized s.heap [] ls hP va_S.rf hl  hf
theorem zw_Post_finding {p : Program} {l : Launch} {e : Env} {R : Room} {s : State} {m : MethodId} {args : Array Value} {below : List Frame} {meth : Method} {c : Code} {H : Heap} {locs : List Loc} {cells slots : Nat} {Q : State → Prop} {cc : ByteArray} {pc nL : Nat} {ls : Array Slot} {rest st0 : List Value} {D : va_G} {cA : Nat → ClassId} {ad : Nat → Nat} {A : Nat → Prop} {X : IX} {Y : LX} {own : String} {index : Nat} {a1 : Int32} {v1 : Int32} {X1 : IX} (B : zu_B p s m args c cc nL own D cA ad A) (hP : va_P D zu_cl (zu_pic cA ad X Y) H) (hS : va_S A s.heap H locs) (hq : fn_Post_finding a1 X = some (v1, X1)) (m1 : Cond.methodLink own index zm_Post_finding ∈ zu_TB) (hR1 : 1 + 1 ≤ R.frames) (hR2 : 8 + (3 + 11) + 22 ≤ R.locals) (hsz : ls.size = nL) (hst : st0 = .int a1 :: .ref (ad 0) :: rest) (hw : (rest.map fun v => v.category).sum ≤ 8) (hdg : decode cc pc = .ok (.invokevirtual index, 3)) (h00 : cells ≤ R.cells ∧ slots ≤ R.slots) (kk : ∀ (H1 : Heap) (locs1 : List Loc), va_P D zu_cl (zu_pic cA ad X1 Y) H1 → va_S A s.heap H1 locs1 → W p l e R s m args below meth c H1 locs1 cells slots Q (F0 m (pc + 3) ls (.int v1 :: rest))) : W p l e R s m args below meth c H locs cells slots Q (F0 m pc ls st0) := by
  subst hst
  exact zr_cVi (As := [.int a1]) (rest := rest) (n := 1) (C := "StonePost") (T := zt_Post) (N := 8) B hP hS (zC_Post_finding l  hq) (K := 1) rfl (by decide) (by decide) rfl rfl m1 zq_229 zqP_0 zq_1 zq_230 (by decide +kernel) ⟨hR1, hR2⟩ rfl rfl rfl hsz rfl hw hdg h00 kk
abbrev zR_Post_stuff : Room := { frames := 2, cells := 0, slots := 0, locals := 44 }
theorem zd_Post_stuff_0 : decode zb_Post_stuff 0 = .ok (.iload_n 1, 1) := by decide +kernel
theorem zd_Post_stuff_1 : decode zb_Post_stuff 1 = .ok (.invokestatic 47, 3) := by decide +kernel
theorem zd_Post_stuff_4 : decode zb_Post_stuff 4 = .ok (.ifCond .eq 12, 3) := by decide +kernel
theorem zd_Post_stuff_7 : decode zb_Post_stuff 7 = .ok (.iload_n 2, 1) := by decide +kernel
theorem zd_Post_stuff_8 : decode zb_Post_stuff 8 = .ok (.iconst 0, 1) := by decide +kernel
theorem zd_Post_stuff_9 : decode zb_Post_stuff 9 = .ok (.iconst 3, 1) := by decide +kernel
theorem zd_Post_stuff_10 : decode zb_Post_stuff 10 = .ok (.invokestatic 51, 3) := by decide +kernel
theorem zd_Post_stuff_13 : decode zb_Post_stuff 13 = .ok (.ifCond .ne 10, 3) := by decide +kernel
theorem zd_Post_stuff_16 : decode zb_Post_stuff 16 = .ok (.aload_n 0, 1) := by decide +kernel
theorem zd_Post_stuff_17 : decode zb_Post_stuff 17 = .ok (.ldc 55, 2) := by decide +kernel
theorem zd_Post_stuff_19 : decode zb_Post_stuff 19 = .ok (.invokevirtual 56, 3) := by decide +kernel
theorem zd_Post_stuff_22 : decode zb_Post_stuff 22 = .ok (.ireturn, 1) := by decide +kernel
theorem zd_Post_stuff_23 : decode zb_Post_stuff 23 = .ok (.aload_n 0, 1) := by decide +kernel
theorem zd_Post_stuff_24 : decode zb_Post_stuff 24 = .ok (.getfield 10, 3) := by decide +kernel
theorem zd_Post_stuff_27 : decode zb_Post_stuff 27 = .ok (.getfield 60, 3) := by decide +kernel
theorem zd_Post_stuff_30 : decode zb_Post_stuff 30 = .ok (.iload_n 1, 1) := by decide +kernel
theorem zd_Post_stuff_31 : decode zb_Post_stuff 31 = .ok (.iaload, 1) := by decide +kernel
theorem zd_Post_stuff_32 : decode zb_Post_stuff 32 = .ok (.istore_n 3, 1) := by decide +kernel
theorem zd_Post_stuff_33 : decode zb_Post_stuff 33 = .ok (.aload_n 0, 1) := by decide +kernel
theorem zd_Post_stuff_34 : decode zb_Post_stuff 34 = .ok (.getfield 10, 3) := by decide +kernel
theorem zd_Post_stuff_37 : decode zb_Post_stuff 37 = .ok (.getfield 60, 3) := by decide +kernel
theorem zd_Post_stuff_40 : decode zb_Post_stuff 40 = .ok (.iload_n 1, 1) := by decide +kernel
theorem zd_Post_stuff_41 : decode zb_Post_stuff 41 = .ok (.iload_n 2, 1) := by decide +kernel
theorem zd_Post_stuff_42 : decode zb_Post_stuff 42 = .ok (.iastore, 1) := by decide +kernel
theorem zd_Post_stuff_43 : decode zb_Post_stuff 43 = .ok (.iload_n 3, 1) := by decide +kernel
theorem zd_Post_stuff_44 : decode zb_Post_stuff 44 = .ok (.ireturn, 1) := by decide +kernel
set_option maxHeartbeats 4000000 in
theorem zl_Post_stuff_L16 {p : Program} {l : Launch} {e : Env} {s : State} {m : MethodId} {args : Array Value} {below : List Frame} {meth : Method} {c : Code} {D : va_G} {cA : Nat → ClassId} {ad : Nat → Nat} {A : Nat → Prop} (B : zu_B p s m args c zb_Post_stuff 4 "StonePost" D cA ad A) (hret : meth.sig.returnType = (some .int)) (hlk : meth.locks = false) {Y : LX} {res : Int32 × IX} (X : IX) (H : Heap) (locs : List Loc) (ls : Array Slot) (hP : va_P D zu_cl (zu_pic cA ad X Y) H) (hS : va_S A s.heap H locs) (hl : lv_has ls 4 [(0, .ref (ad 0))]) (hf : fn_Post_stuff_L16 X = some res) : W p l e zR_Post_stuff s m args below meth c H locs 0 0 (MQ below (zu_Qi D cA ad A res.1 res.2 Y) args s 0 0 A) (F0 m 16 ls []) := by
  obtain ⟨hx, hb, hml, hown, hts, hST⟩ := id B
  unfold fn_Post_stuff_L16 at hf
  refine lv_aload_n hx hb zd_Post_stuff_16 rfl (lv_at hl 0 rfl) ?_
  refine lv_ldc (v := -1000001) hx hb hown (hts _ zq_226) zd_Post_stuff_17 ?_
  obtain ⟨v11, X12, hq13, hf⟩ := zu_b2_e hf
  refine zw_Post_finding (rest := []) B hP hS hq13 zq_227 (Nat.le_of_ble_eq_true rfl) (Nat.le_of_ble_eq_true rfl) hl.1 rfl (Nat.le_of_ble_eq_true rfl) zd_Post_stuff_19 (by decide) (fun H locs hP hS => ?_)
  clear hq13
  obtain rfl := Option.some.inj hf
  exact zr_iret hx hb hret hlk hP hS zd_Post_stuff_22
set_option maxHeartbeats 4000000 in
theorem zl_Post_stuff {p : Program} {l : Launch} {e : Env} {s : State} {m : MethodId} {args : Array Value} {below : List Frame} {meth : Method} {c : Code} {D : va_G} {cA : Nat → ClassId} {ad : Nat → Nat} {A : Nat → Prop} (B : zu_B p s m args c zb_Post_stuff 4 "StonePost" D cA ad A) (hret : meth.sig.returnType = (some .int)) (hlk : meth.locks = false) {Y : LX} {res : Int32 × IX} {a1 : Int32} {a2 : Int32} {X : IX} (H : Heap) (locs : List Loc) (ls : Array Slot) (hP : va_P D zu_cl (zu_pic cA ad X Y) H) (hS : va_S A s.heap H locs) (hl : lv_has ls 4 [(0, .ref (ad 0)), (1, .int a1), (2, .int a2)]) (hf : fn_Post_stuff a1 a2 X = some res) : W p l e zR_Post_stuff s m args below meth c H locs 0 0 (MQ below (zu_Qi D cA ad A res.1 res.2 Y) args s 0 0 A) (F0 m 0 ls []) := by
  obtain ⟨hx, hb, hml, hown, hts, hST⟩ := id B
  unfold fn_Post_stuff at hf
  refine lv_iload_n hx hb zd_Post_stuff_0 rfl (lv_at hl 1 rfl) ?_
  obtain ⟨v1, hq2, hf⟩ := zu_b1_e hf
  refine zw_Post_isCell (rest := []) B hP hS hq2 zq_220 (Nat.le_of_ble_eq_true rfl) (Nat.le_of_ble_eq_true rfl) hl.1 rfl (Nat.le_of_ble_eq_true rfl) zd_Post_stuff_1 (by decide) (fun H locs hP hS => ?_)
  clear hq2
  refine lv_if_eq (tgt := 16) hx hb zd_Post_stuff_4 (by decide) (fun c3 => ?_) (fun c3 => ?_)
  · have hf := zu_t c3 hf
    exact zl_Post_stuff_L16 B hret hlk X _ _ _ hP hS (lv_sub hl [0] rfl) hf
  · have hf := zu_f c3 hf
    refine lv_iload_n hx hb zd_Post_stuff_7 rfl (lv_at hl 2 rfl) ?_
    refine lv_iconst (v := 0) hx hb zd_Post_stuff_8 (by decide) ?_
    refine lv_iconst (v := 3) hx hb zd_Post_stuff_9 (by decide) ?_
    obtain ⟨v4, hq5, hf⟩ := zu_b1_e hf
    refine zw_Post_isWithin (rest := []) B hP hS hq5 zq_223 (Nat.le_of_ble_eq_true rfl) (Nat.le_of_ble_eq_true rfl) hl.1 rfl (Nat.le_of_ble_eq_true rfl) zd_Post_stuff_10 (by decide) (fun H locs hP hS => ?_)
    clear hq5
    refine lv_if_ne (tgt := 23) hx hb zd_Post_stuff_13 (by decide) (fun c6 => ?_) (fun c6 => ?_)
    · have hf := zu_f c6 hf
      refine lv_aload_n hx hb zd_Post_stuff_23 rfl (lv_at hl 0 rfl) ?_
      refine zg_Post_land B hP rfl zq_191 zd_Post_stuff_24 ?_
      refine zg_Land_stuffs B hP rfl zq_51 zd_Post_stuff_27 ?_
      refine lv_iload_n hx hb zd_Post_stuff_30 rfl (lv_at hl 1 rfl) ?_
      obtain ⟨hg7, hf⟩ := zu_gd_e hf
      refine zr_iald rfl B hP (zk_Land_stuffs rfl) (by decide) rfl hg7 zd_Post_stuff_31 ?_
      refine zr_nxi hf (fun v8 hf => ?_)
      refine lv_istore_n (lv' := [(3, .int v8), (0, .ref (ad 0)), (1, .int a1), (2, .int a2)]) hx hb zd_Post_stuff_32 rfl hl (by decide) rfl (fun ls hl => ?_)
      refine lv_aload_n hx hb zd_Post_stuff_33 rfl (lv_at hl 1 rfl) ?_
      refine zg_Post_land B hP rfl zq_191 zd_Post_stuff_34 ?_
      refine zg_Land_stuffs B hP rfl zq_51 zd_Post_stuff_37 ?_
      refine lv_iload_n hx hb zd_Post_stuff_40 rfl (lv_at hl 2 rfl) ?_
      refine lv_iload_n hx hb zd_Post_stuff_41 rfl (lv_at hl 3 rfl) ?_
      obtain ⟨hg9, hf⟩ := zu_gd_e hf
      refine zr_iast rfl B hP hS hf (zk_Land_stuffs rfl) (by decide) rfl hg9 zd_Post_stuff_42 (fun X10 H locs hf hP hS => ?_)
      refine lv_iload_n hx hb zd_Post_stuff_43 rfl (lv_at hl 0 rfl) ?_
      obtain rfl := Option.some.inj hf
      exact zr_iret hx hb hret hlk hP hS zd_Post_stuff_44
    · have hf := zu_t c6 hf
      exact zl_Post_stuff_L16 B hret hlk X _ _ _ hP hS (lv_sub hl [0] rfl) hf
theorem zC_Post_stuff (l : Launch) {D : va_G} {cA : Nat → ClassId} {ad : Nat → Nat} {A : Nat → Prop} {a1 : Int32} {a2 : Int32} {X : IX} {Y : LX} {res : Int32 × IX} (hf : fn_Post_stuff a1 a2 X = some res) : Met l zm_Post_stuff (zu_ws zm_Post_stuff zb_Post_stuff 4 (some .int)) zR_Post_stuff (va_Pc [.ref (ad 0), .int a1, .int a2] (zu_Pre D cA ad A X Y)) (zu_Qi D cA ad A res.1 res.2 Y) 0 0 A := by
  refine Met.ofW (cc := zb_Post_stuff) (maxL := 4) (ret := (some .int)) (by decide +kernel) rfl ?_
  intro p e s m args below meth c s₁ B0 hml hv
  obtain ⟨rfl, hP, hST⟩ := hv
  have B : zu_B p s m _ c zb_Post_stuff 4 "StonePost" D cA ad A := ⟨B0.exec, B0.bytes, hml, findClass_of_methodNamed B0.named, (fun w hw => atoms_spec (ws := zu_ws zm_Post_stuff zb_Post_stuff 4 (some .int)) B0.pre w (List.mem_cons_of_mem _ hw)), hST⟩
  have hl := lv_entry ([.ref (ad 0), .int a1, .int a2]) (n := 4) (Nat.le_of_ble_eq_true rfl)
  rw [lg_entry_eq]
  generalize (lg_sl ([.ref (ad 0), .int a1, .int a2]) ++ List.replicate (4 - (lg_sl ([.ref (ad 0), .int a1, .int a2])).length) Slot.unset).toArray = ls at hl ⊢
  exact zl_Post_stuff B B0.returns B0.notSynchronized s.heap [] ls hP va_S.rf hl  hf
theorem zw_Post_stuff {p : Program} {l : Launch} {e : Env} {R : Room} {s : State} {m : MethodId} {args : Array Value} {below : List Frame} {meth : Method} {c : Code} {H : Heap} {locs : List Loc} {cells slots : Nat} {Q : State → Prop} {cc : ByteArray} {pc nL : Nat} {ls : Array Slot} {rest st0 : List Value} {D : va_G} {cA : Nat → ClassId} {ad : Nat → Nat} {A : Nat → Prop} {X : IX} {Y : LX} {own : String} {index : Nat} {a1 : Int32} {a2 : Int32} {v1 : Int32} {X1 : IX} (B : zu_B p s m args c cc nL own D cA ad A) (hP : va_P D zu_cl (zu_pic cA ad X Y) H) (hS : va_S A s.heap H locs) (hq : fn_Post_stuff a1 a2 X = some (v1, X1)) (m1 : Cond.methodLink own index zm_Post_stuff ∈ zu_TB) (hR1 : 2 + 1 ≤ R.frames) (hR2 : 8 + (4 + 11) + 44 ≤ R.locals) (hsz : ls.size = nL) (hst : st0 = .int a2 :: .int a1 :: .ref (ad 0) :: rest) (hw : (rest.map fun v => v.category).sum ≤ 8) (hdg : decode cc pc = .ok (.invokevirtual index, 3)) (h00 : cells ≤ R.cells ∧ slots ≤ R.slots) (kk : ∀ (H1 : Heap) (locs1 : List Loc), va_P D zu_cl (zu_pic cA ad X1 Y) H1 → va_S A s.heap H1 locs1 → W p l e R s m args below meth c H1 locs1 cells slots Q (F0 m (pc + 3) ls (.int v1 :: rest))) : W p l e R s m args below meth c H locs cells slots Q (F0 m pc ls st0) := by
  subst hst
  exact zr_cVi (As := [.int a1, .int a2]) (rest := rest) (n := 2) (C := "StonePost") (T := zt_Post) (N := 8) B hP hS (zC_Post_stuff l  hq) (K := 1) rfl (by decide) (by decide) rfl rfl m1 zq_217 zq_218 zq_1 zq_219 (by decide +kernel) ⟨hR1, hR2⟩ rfl rfl rfl hsz rfl hw hdg h00 kk
abbrev zR_Post_rule : Room := { frames := 2, cells := 0, slots := 0, locals := 44 }
theorem zd_Post_rule_0 : decode zb_Post_rule 0 = .ok (.iload_n 1, 1) := by decide +kernel
theorem zd_Post_rule_1 : decode zb_Post_rule 1 = .ok (.ifCond .ne 28, 3) := by decide +kernel
theorem zd_Post_rule_4 : decode zb_Post_rule 4 = .ok (.iload_n 2, 1) := by decide +kernel
theorem zd_Post_rule_5 : decode zb_Post_rule 5 = .ok (.invokestatic 47, 3) := by decide +kernel
theorem zd_Post_rule_8 : decode zb_Post_rule 8 = .ok (.ifCond .eq 21, 3) := by decide +kernel
theorem zd_Post_rule_11 : decode zb_Post_rule 11 = .ok (.aload_n 0, 1) := by decide +kernel
theorem zd_Post_rule_12 : decode zb_Post_rule 12 = .ok (.getfield 10, 3) := by decide +kernel
theorem zd_Post_rule_15 : decode zb_Post_rule 15 = .ok (.getfield 63, 3) := by decide +kernel
theorem zd_Post_rule_18 : decode zb_Post_rule 18 = .ok (.istore_n 3, 1) := by decide +kernel
theorem zd_Post_rule_19 : decode zb_Post_rule 19 = .ok (.aload_n 0, 1) := by decide +kernel
theorem zd_Post_rule_20 : decode zb_Post_rule 20 = .ok (.getfield 10, 3) := by decide +kernel
theorem zd_Post_rule_23 : decode zb_Post_rule 23 = .ok (.iload_n 2, 1) := by decide +kernel
theorem zd_Post_rule_24 : decode zb_Post_rule 24 = .ok (.putfield 63, 3) := by decide +kernel
theorem zd_Post_rule_27 : decode zb_Post_rule 27 = .ok (.iload_n 3, 1) := by decide +kernel
theorem zd_Post_rule_28 : decode zb_Post_rule 28 = .ok (.ireturn, 1) := by decide +kernel
theorem zd_Post_rule_29 : decode zb_Post_rule 29 = .ok (.iload_n 1, 1) := by decide +kernel
theorem zd_Post_rule_30 : decode zb_Post_rule 30 = .ok (.iconst 1, 1) := by decide +kernel
theorem zd_Post_rule_31 : decode zb_Post_rule 31 = .ok (.if_icmp .ne 31, 3) := by decide +kernel
theorem zd_Post_rule_34 : decode zb_Post_rule 34 = .ok (.iload_n 2, 1) := by decide +kernel
theorem zd_Post_rule_35 : decode zb_Post_rule 35 = .ok (.iconst 0, 1) := by decide +kernel
theorem zd_Post_rule_36 : decode zb_Post_rule 36 = .ok (.bipush 9, 2) := by decide +kernel
theorem zd_Post_rule_38 : decode zb_Post_rule 38 = .ok (.invokestatic 51, 3) := by decide +kernel
theorem zd_Post_rule_41 : decode zb_Post_rule 41 = .ok (.ifCond .eq 21, 3) := by decide +kernel
theorem zd_Post_rule_44 : decode zb_Post_rule 44 = .ok (.aload_n 0, 1) := by decide +kernel
theorem zd_Post_rule_45 : decode zb_Post_rule 45 = .ok (.getfield 10, 3) := by decide +kernel
theorem zd_Post_rule_48 : decode zb_Post_rule 48 = .ok (.getfield 67, 3) := by decide +kernel
theorem zd_Post_rule_51 : decode zb_Post_rule 51 = .ok (.istore_n 3, 1) := by decide +kernel
theorem zd_Post_rule_52 : decode zb_Post_rule 52 = .ok (.aload_n 0, 1) := by decide +kernel
theorem zd_Post_rule_53 : decode zb_Post_rule 53 = .ok (.getfield 10, 3) := by decide +kernel
theorem zd_Post_rule_56 : decode zb_Post_rule 56 = .ok (.iload_n 2, 1) := by decide +kernel
theorem zd_Post_rule_57 : decode zb_Post_rule 57 = .ok (.putfield 67, 3) := by decide +kernel
theorem zd_Post_rule_60 : decode zb_Post_rule 60 = .ok (.iload_n 3, 1) := by decide +kernel
theorem zd_Post_rule_61 : decode zb_Post_rule 61 = .ok (.ireturn, 1) := by decide +kernel
theorem zd_Post_rule_62 : decode zb_Post_rule 62 = .ok (.aload_n 0, 1) := by decide +kernel
theorem zd_Post_rule_63 : decode zb_Post_rule 63 = .ok (.ldc 55, 2) := by decide +kernel
theorem zd_Post_rule_65 : decode zb_Post_rule 65 = .ok (.invokevirtual 56, 3) := by decide +kernel
theorem zd_Post_rule_68 : decode zb_Post_rule 68 = .ok (.ireturn, 1) := by decide +kernel
set_option maxHeartbeats 4000000 in
theorem zl_Post_rule_L62 {p : Program} {l : Launch} {e : Env} {s : State} {m : MethodId} {args : Array Value} {below : List Frame} {meth : Method} {c : Code} {D : va_G} {cA : Nat → ClassId} {ad : Nat → Nat} {A : Nat → Prop} (B : zu_B p s m args c zb_Post_rule 4 "StonePost" D cA ad A) (hret : meth.sig.returnType = (some .int)) (hlk : meth.locks = false) {Y : LX} {res : Int32 × IX} (X : IX) (H : Heap) (locs : List Loc) (ls : Array Slot) (hP : va_P D zu_cl (zu_pic cA ad X Y) H) (hS : va_S A s.heap H locs) (hl : lv_has ls 4 [(0, .ref (ad 0))]) (hf : fn_Post_rule_L62 X = some res) : W p l e zR_Post_rule s m args below meth c H locs 0 0 (MQ below (zu_Qi D cA ad A res.1 res.2 Y) args s 0 0 A) (F0 m 62 ls []) := by
  obtain ⟨hx, hb, hml, hown, hts, hST⟩ := id B
  unfold fn_Post_rule_L62 at hf
  refine lv_aload_n hx hb zd_Post_rule_62 rfl (lv_at hl 0 rfl) ?_
  refine lv_ldc (v := -1000001) hx hb hown (hts _ zq_226) zd_Post_rule_63 ?_
  obtain ⟨v13, X14, hq15, hf⟩ := zu_b2_e hf
  refine zw_Post_finding (rest := []) B hP hS hq15 zq_227 (Nat.le_of_ble_eq_true rfl) (Nat.le_of_ble_eq_true rfl) hl.1 rfl (Nat.le_of_ble_eq_true rfl) zd_Post_rule_65 (by decide) (fun H locs hP hS => ?_)
  clear hq15
  obtain rfl := Option.some.inj hf
  exact zr_iret hx hb hret hlk hP hS zd_Post_rule_68
set_option maxHeartbeats 4000000 in
theorem zl_Post_rule_L29 {p : Program} {l : Launch} {e : Env} {s : State} {m : MethodId} {args : Array Value} {below : List Frame} {meth : Method} {c : Code} {D : va_G} {cA : Nat → ClassId} {ad : Nat → Nat} {A : Nat → Prop} (B : zu_B p s m args c zb_Post_rule 4 "StonePost" D cA ad A) (hret : meth.sig.returnType = (some .int)) (hlk : meth.locks = false) {Y : LX} {res : Int32 × IX} (x1 : Int32) (x2 : Int32) (X : IX) (H : Heap) (locs : List Loc) (ls : Array Slot) (hP : va_P D zu_cl (zu_pic cA ad X Y) H) (hS : va_S A s.heap H locs) (hl : lv_has ls 4 [(0, .ref (ad 0)), (1, .int x1), (2, .int x2)]) (hf : fn_Post_rule_L29 x1 x2 X = some res) : W p l e zR_Post_rule s m args below meth c H locs 0 0 (MQ below (zu_Qi D cA ad A res.1 res.2 Y) args s 0 0 A) (F0 m 29 ls []) := by
  obtain ⟨hx, hb, hml, hown, hts, hST⟩ := id B
  unfold fn_Post_rule_L29 at hf
  refine lv_iload_n hx hb zd_Post_rule_29 rfl (lv_at hl 1 rfl) ?_
  refine lv_iconst (v := 1) hx hb zd_Post_rule_30 (by decide) ?_
  refine lv_icmp_ne (tgt := 62) hx hb zd_Post_rule_31 (by decide) (fun c7 => ?_) (fun c7 => ?_)
  · have hf := zu_f c7 hf
    exact zl_Post_rule_L62 B hret hlk X _ _ _ hP hS (lv_sub hl [0] rfl) hf
  · have hf := zu_t c7 hf
    refine lv_iload_n hx hb zd_Post_rule_34 rfl (lv_at hl 2 rfl) ?_
    refine lv_iconst (v := 0) hx hb zd_Post_rule_35 (by decide) ?_
    refine lv_bipush (v := 9) hx hb zd_Post_rule_36 (by decide) ?_
    obtain ⟨v8, hq9, hf⟩ := zu_b1_e hf
    refine zw_Post_isWithin (rest := []) B hP hS hq9 zq_223 (Nat.le_of_ble_eq_true rfl) (Nat.le_of_ble_eq_true rfl) hl.1 rfl (Nat.le_of_ble_eq_true rfl) zd_Post_rule_38 (by decide) (fun H locs hP hS => ?_)
    clear hq9
    refine lv_if_eq (tgt := 62) hx hb zd_Post_rule_41 (by decide) (fun c10 => ?_) (fun c10 => ?_)
    · have hf := zu_t c10 hf
      exact zl_Post_rule_L62 B hret hlk X _ _ _ hP hS (lv_sub hl [0] rfl) hf
    · have hf := zu_f c10 hf
      refine lv_aload_n hx hb zd_Post_rule_44 rfl (lv_at hl 0 rfl) ?_
      refine zg_Post_land B hP rfl zq_191 zd_Post_rule_45 ?_
      refine zg_Land_fetch B hP rfl zq_72 zd_Post_rule_48 ?_
      refine zr_nxi hf (fun v11 hf => ?_)
      refine lv_istore_n (lv' := [(3, .int v11), (0, .ref (ad 0)), (1, .int x1), (2, .int x2)]) hx hb zd_Post_rule_51 rfl hl (by decide) rfl (fun ls hl => ?_)
      refine lv_aload_n hx hb zd_Post_rule_52 rfl (lv_at hl 1 rfl) ?_
      refine zg_Post_land B hP rfl zq_191 zd_Post_rule_53 ?_
      refine lv_iload_n hx hb zd_Post_rule_56 rfl (lv_at hl 3 rfl) ?_
      refine zp_Land_fetch B hP hS hf rfl zq_72 zd_Post_rule_57 (fun X12 H locs hf hP hS => ?_)
      refine lv_iload_n hx hb zd_Post_rule_60 rfl (lv_at hl 0 rfl) ?_
      obtain rfl := Option.some.inj hf
      exact zr_iret hx hb hret hlk hP hS zd_Post_rule_61
set_option maxHeartbeats 4000000 in
theorem zl_Post_rule {p : Program} {l : Launch} {e : Env} {s : State} {m : MethodId} {args : Array Value} {below : List Frame} {meth : Method} {c : Code} {D : va_G} {cA : Nat → ClassId} {ad : Nat → Nat} {A : Nat → Prop} (B : zu_B p s m args c zb_Post_rule 4 "StonePost" D cA ad A) (hret : meth.sig.returnType = (some .int)) (hlk : meth.locks = false) {Y : LX} {res : Int32 × IX} {a1 : Int32} {a2 : Int32} {X : IX} (H : Heap) (locs : List Loc) (ls : Array Slot) (hP : va_P D zu_cl (zu_pic cA ad X Y) H) (hS : va_S A s.heap H locs) (hl : lv_has ls 4 [(0, .ref (ad 0)), (1, .int a1), (2, .int a2)]) (hf : fn_Post_rule a1 a2 X = some res) : W p l e zR_Post_rule s m args below meth c H locs 0 0 (MQ below (zu_Qi D cA ad A res.1 res.2 Y) args s 0 0 A) (F0 m 0 ls []) := by
  obtain ⟨hx, hb, hml, hown, hts, hST⟩ := id B
  unfold fn_Post_rule at hf
  refine lv_iload_n hx hb zd_Post_rule_0 rfl (lv_at hl 1 rfl) ?_
  refine lv_if_ne (tgt := 29) hx hb zd_Post_rule_1 (by decide) (fun c1 => ?_) (fun c1 => ?_)
  · have hf := zu_f c1 hf
    exact zl_Post_rule_L29 B hret hlk a1 a2 X _ _ _ hP hS (lv_sub hl [0, 1, 2] rfl) hf
  · have hf := zu_t c1 hf
    refine lv_iload_n hx hb zd_Post_rule_4 rfl (lv_at hl 2 rfl) ?_
    obtain ⟨v2, hq3, hf⟩ := zu_b1_e hf
    refine zw_Post_isCell (rest := []) B hP hS hq3 zq_220 (Nat.le_of_ble_eq_true rfl) (Nat.le_of_ble_eq_true rfl) hl.1 rfl (Nat.le_of_ble_eq_true rfl) zd_Post_rule_5 (by decide) (fun H locs hP hS => ?_)
    clear hq3
    refine lv_if_eq (tgt := 29) hx hb zd_Post_rule_8 (by decide) (fun c4 => ?_) (fun c4 => ?_)
    · have hf := zu_t c4 hf
      exact zl_Post_rule_L29 B hret hlk a1 a2 X _ _ _ hP hS (lv_sub hl [0, 1, 2] rfl) hf
    · have hf := zu_f c4 hf
      refine lv_aload_n hx hb zd_Post_rule_11 rfl (lv_at hl 0 rfl) ?_
      refine zg_Post_land B hP rfl zq_191 zd_Post_rule_12 ?_
      refine zg_Land_home B hP rfl zq_69 zd_Post_rule_15 ?_
      refine zr_nxi hf (fun v5 hf => ?_)
      refine lv_istore_n (lv' := [(3, .int v5), (0, .ref (ad 0)), (1, .int a1), (2, .int a2)]) hx hb zd_Post_rule_18 rfl hl (by decide) rfl (fun ls hl => ?_)
      refine lv_aload_n hx hb zd_Post_rule_19 rfl (lv_at hl 1 rfl) ?_
      refine zg_Post_land B hP rfl zq_191 zd_Post_rule_20 ?_
      refine lv_iload_n hx hb zd_Post_rule_23 rfl (lv_at hl 3 rfl) ?_
      refine zp_Land_home B hP hS hf rfl zq_69 zd_Post_rule_24 (fun X6 H locs hf hP hS => ?_)
      refine lv_iload_n hx hb zd_Post_rule_27 rfl (lv_at hl 0 rfl) ?_
      obtain rfl := Option.some.inj hf
      exact zr_iret hx hb hret hlk hP hS zd_Post_rule_28
theorem zC_Post_rule (l : Launch) {D : va_G} {cA : Nat → ClassId} {ad : Nat → Nat} {A : Nat → Prop} {a1 : Int32} {a2 : Int32} {X : IX} {Y : LX} {res : Int32 × IX} (hf : fn_Post_rule a1 a2 X = some res) : Met l zm_Post_rule (zu_ws zm_Post_rule zb_Post_rule 4 (some .int)) zR_Post_rule (va_Pc [.ref (ad 0), .int a1, .int a2] (zu_Pre D cA ad A X Y)) (zu_Qi D cA ad A res.1 res.2 Y) 0 0 A := by
  refine Met.ofW (cc := zb_Post_rule) (maxL := 4) (ret := (some .int)) (by decide +kernel) rfl ?_
  intro p e s m args below meth c s₁ B0 hml hv
  obtain ⟨rfl, hP, hST⟩ := hv
  have B : zu_B p s m _ c zb_Post_rule 4 "StonePost" D cA ad A := ⟨B0.exec, B0.bytes, hml, findClass_of_methodNamed B0.named, (fun w hw => atoms_spec (ws := zu_ws zm_Post_rule zb_Post_rule 4 (some .int)) B0.pre w (List.mem_cons_of_mem _ hw)), hST⟩
  have hl := lv_entry ([.ref (ad 0), .int a1, .int a2]) (n := 4) (Nat.le_of_ble_eq_true rfl)
  rw [lg_entry_eq]
  generalize (lg_sl ([.ref (ad 0), .int a1, .int a2]) ++ List.replicate (4 - (lg_sl ([.ref (ad 0), .int a1, .int a2])).length) Slot.unset).toArray = ls at hl ⊢
  exact zl_Post_rule B B0.returns B0.notSynchronized s.heap [] ls hP va_S.rf hl  hf
theorem zw_Post_rule {p : Program} {l : Launch} {e : Env} {R : Room} {s : State} {m : MethodId} {args : Array Value} {below : List Frame} {meth : Method} {c : Code} {H : Heap} {locs : List Loc} {cells slots : Nat} {Q : State → Prop} {cc : ByteArray} {pc nL : Nat} {ls : Array Slot} {rest st0 : List Value} {D : va_G} {cA : Nat → ClassId} {ad : Nat → Nat} {A : Nat → Prop} {X : IX} {Y : LX} {own : String} {index : Nat} {a1 : Int32} {a2 : Int32} {v1 : Int32} {X1 : IX} (B : zu_B p s m args c cc nL own D cA ad A) (hP : va_P D zu_cl (zu_pic cA ad X Y) H) (hS : va_S A s.heap H locs) (hq : fn_Post_rule a1 a2 X = some (v1, X1)) (m1 : Cond.methodLink own index zm_Post_rule ∈ zu_TB) (hR1 : 2 + 1 ≤ R.frames) (hR2 : 8 + (4 + 11) + 44 ≤ R.locals) (hsz : ls.size = nL) (hst : st0 = .int a2 :: .int a1 :: .ref (ad 0) :: rest) (hw : (rest.map fun v => v.category).sum ≤ 8) (hdg : decode cc pc = .ok (.invokevirtual index, 3)) (h00 : cells ≤ R.cells ∧ slots ≤ R.slots) (kk : ∀ (H1 : Heap) (locs1 : List Loc), va_P D zu_cl (zu_pic cA ad X1 Y) H1 → va_S A s.heap H1 locs1 → W p l e R s m args below meth c H1 locs1 cells slots Q (F0 m (pc + 3) ls (.int v1 :: rest))) : W p l e R s m args below meth c H locs cells slots Q (F0 m pc ls st0) := by
  subst hst
  exact zr_cVi (As := [.int a1, .int a2]) (rest := rest) (n := 2) (C := "StonePost") (T := zt_Post) (N := 8) B hP hS (zC_Post_rule l  hq) (K := 1) rfl (by decide) (by decide) rfl rfl m1 zq_232 zq_233 zq_1 zq_234 (by decide +kernel) ⟨hR1, hR2⟩ rfl rfl rfl hsz rfl hw hdg h00 kk
abbrev zR_Post_isKind : Room := { frames := 1, cells := 0, slots := 0, locals := 22 }
theorem zd_Post_isKind_0 : decode zb_Post_isKind 0 = .ok (.iload_n 0, 1) := by decide +kernel
theorem zd_Post_isKind_1 : decode zb_Post_isKind 1 = .ok (.iconst 0, 1) := by decide +kernel
theorem zd_Post_isKind_2 : decode zb_Post_isKind 2 = .ok (.bipush 6, 2) := by decide +kernel
theorem zd_Post_isKind_4 : decode zb_Post_isKind 4 = .ok (.invokestatic 51, 3) := by decide +kernel
theorem zd_Post_isKind_7 : decode zb_Post_isKind 7 = .ok (.ireturn, 1) := by decide +kernel
set_option maxHeartbeats 4000000 in
theorem zl_Post_isKind {p : Program} {l : Launch} {e : Env} {s : State} {m : MethodId} {args : Array Value} {below : List Frame} {meth : Method} {c : Code} {D : va_G} {cA : Nat → ClassId} {ad : Nat → Nat} {A : Nat → Prop} (B : zu_B p s m args c zb_Post_isKind 1 "StonePost" D cA ad A) (hret : meth.sig.returnType = (some .boolean)) (hlk : meth.locks = false) {X : IX} {Y : LX} {res : Int32} {a0 : Int32} (H : Heap) (locs : List Loc) (ls : Array Slot) (hP : va_P D zu_cl (zu_pic cA ad X Y) H) (hS : va_S A s.heap H locs) (hl : lv_has ls 1 [(0, .int a0)]) (hf : fn_Post_isKind a0 = some res) : W p l e zR_Post_isKind s m args below meth c H locs 0 0 (MQ below (zu_Qi D cA ad A res X Y) args s 0 0 A) (F0 m 0 ls []) := by
  obtain ⟨hx, hb, hml, hown, hts, hST⟩ := id B
  unfold fn_Post_isKind at hf
  refine lv_iload_n hx hb zd_Post_isKind_0 rfl (lv_at hl 0 rfl) ?_
  refine lv_iconst (v := 0) hx hb zd_Post_isKind_1 (by decide) ?_
  refine lv_bipush (v := 6) hx hb zd_Post_isKind_2 (by decide) ?_
  obtain ⟨v1, hq2, hf⟩ := zu_b1_e hf
  refine zw_Post_isWithin (rest := []) B hP hS hq2 zq_223 (Nat.le_of_ble_eq_true rfl) (Nat.le_of_ble_eq_true rfl) hl.1 rfl (Nat.le_of_ble_eq_true rfl) zd_Post_isKind_4 (by decide) (fun H locs hP hS => ?_)
  clear hq2
  obtain ⟨hg3, hf⟩ := zu_gd_e hf
  obtain rfl := Option.some.inj hf
  exact zr_zret hx hb hret hlk hP hS hg3 zd_Post_isKind_7
theorem zC_Post_isKind (l : Launch) {D : va_G} {cA : Nat → ClassId} {ad : Nat → Nat} {A : Nat → Prop} {a0 : Int32} {X : IX} {Y : LX} {res : Int32} (hf : fn_Post_isKind a0 = some res) : Met l zm_Post_isKind (zu_ws zm_Post_isKind zb_Post_isKind 1 (some .boolean)) zR_Post_isKind (va_Pc [.int a0] (zu_Pre D cA ad A X Y)) (zu_Qi D cA ad A res X Y) 0 0 A := by
  refine Met.ofW (cc := zb_Post_isKind) (maxL := 1) (ret := (some .boolean)) (by decide +kernel) rfl ?_
  intro p e s m args below meth c s₁ B0 hml hv
  obtain ⟨rfl, hP, hST⟩ := hv
  have B : zu_B p s m _ c zb_Post_isKind 1 "StonePost" D cA ad A := ⟨B0.exec, B0.bytes, hml, findClass_of_methodNamed B0.named, (fun w hw => atoms_spec (ws := zu_ws zm_Post_isKind zb_Post_isKind 1 (some .boolean)) B0.pre w (List.mem_cons_of_mem _ hw)), hST⟩
  have hl := lv_entry ([.int a0]) (n := 1) (Nat.le_of_ble_eq_true rfl)
  rw [lg_entry_eq]
  generalize (lg_sl ([.int a0]) ++ List.replicate (1 - (lg_sl ([.int a0])).length) Slot.unset).toArray = ls at hl ⊢
  exact zl_Post_isKind B B0.returns B0.notSynchronized s.heap [] ls hP va_S.rf hl  hf
theorem zw_Post_isKind {p : Program} {l : Launch} {e : Env} {R : Room} {s : State} {m : MethodId} {args : Array Value} {below : List Frame} {meth : Method} {c : Code} {H : Heap} {locs : List Loc} {cells slots : Nat} {Q : State → Prop} {cc : ByteArray} {pc nL : Nat} {ls : Array Slot} {rest st0 : List Value} {D : va_G} {cA : Nat → ClassId} {ad : Nat → Nat} {A : Nat → Prop} {X : IX} {Y : LX} {own : String} {index : Nat} {a0 : Int32} {v1 : Int32} (B : zu_B p s m args c cc nL own D cA ad A) (hP : va_P D zu_cl (zu_pic cA ad X Y) H) (hS : va_S A s.heap H locs) (hq : fn_Post_isKind a0 = some v1) (m1 : Cond.methodLink own index zm_Post_isKind ∈ zu_TB) (hR1 : 1 + 1 ≤ R.frames) (hR2 : 8 + (1 + 11) + 22 ≤ R.locals) (hsz : ls.size = nL) (hst : st0 = .int a0 ::  rest) (hw : (rest.map fun v => v.category).sum ≤ 8) (hdg : decode cc pc = .ok (.invokestatic index, 3)) (h00 : cells ≤ R.cells ∧ slots ≤ R.slots) (kk : ∀ (H1 : Heap) (locs1 : List Loc), va_P D zu_cl (zu_pic cA ad X Y) H1 → va_S A s.heap H1 locs1 → W p l e R s m args below meth c H1 locs1 cells slots Q (F0 m (pc + 3) ls (.int v1 :: rest))) : W p l e R s m args below meth c H locs cells slots Q (F0 m pc ls st0) := by
  subst hst
  exact zr_cSi (As := [.int a0]) (rest := rest) (n := 1) B hP hS (zC_Post_isKind l  hq) m1 zq_240 zq_1 zq_241 (by decide +kernel) ⟨hR1, hR2⟩ rfl rfl rfl hsz rfl hw hdg h00 kk
theorem zwN_Post_isKind {p : Program} {l : Launch} {e : Env} {R : Room} {s : State} {m : MethodId} {args : Array Value} {below : List Frame} {meth : Method} {c : Code} {H : Heap} {locs : List Loc} {cells slots : Nat} {Q : State → Prop} {cc : ByteArray} {pc nL : Nat} {ls : Array Slot} {rest st0 : List Value} {D : va_G} {cA : Nat → ClassId} {ad : Nat → Nat} {A : Nat → Prop} {X : IX} {Y : LX} {own : String} {index : Nat} {a0 : Int32} {v1 : Int32} (B : zu_B p s m args c cc nL own D cA ad A) (hP : va_P D zu_cl (zu_pic cA ad X Y) H) (hS : va_S A s.heap H locs) (hq : fn_Post_isKind a0 = some v1) (m1 : va_Nw (.methodLinkNest own index zm_Post_isKind "StonePost") s) (hR1 : 1 + 1 ≤ R.frames) (hR2 : 8 + (1 + 11) + 22 ≤ R.locals) (hsz : ls.size = nL) (hst : st0 = .int a0 ::  rest) (hw : (rest.map fun v => v.category).sum ≤ 8) (hdg : decode cc pc = .ok (.invokestatic index, 3)) (h00 : cells ≤ R.cells ∧ slots ≤ R.slots) (kk : ∀ (H1 : Heap) (locs1 : List Loc), va_P D zu_cl (zu_pic cA ad X Y) H1 → va_S A s.heap H1 locs1 → W p l e R s m args below meth c H1 locs1 cells slots Q (F0 m (pc + 3) ls (.int v1 :: rest))) : W p l e R s m args below meth c H locs cells slots Q (F0 m pc ls st0) := by
  subst hst
  exact zr_cNi (As := [.int a0]) (rest := rest) (n := 1) B hP hS (zC_Post_isKind l  hq) m1 zq_240 zq_1 zq_241 (by decide +kernel) ⟨hR1, hR2⟩ rfl rfl rfl hsz rfl hw hdg h00 kk
abbrev zR_Land_standingOn : Room := { frames := 0, cells := 0, slots := 0, locals := 0 }
theorem zd_Land_standingOn_0 : decode zb_Land_standingOn 0 = .ok (.iconst 0, 1) := by decide +kernel
theorem zd_Land_standingOn_1 : decode zb_Land_standingOn 1 = .ok (.istore_n 2, 1) := by decide +kernel
theorem zd_Land_standingOn_2 : decode zb_Land_standingOn 2 = .ok (.iload_n 2, 1) := by decide +kernel
theorem zd_Land_standingOn_3 : decode zb_Land_standingOn 3 = .ok (.aload_n 0, 1) := by decide +kernel
theorem zd_Land_standingOn_4 : decode zb_Land_standingOn 4 = .ok (.getfield 53, 3) := by decide +kernel
theorem zd_Land_standingOn_7 : decode zb_Land_standingOn 7 = .ok (.if_icmp .ge 26, 3) := by decide +kernel
theorem zd_Land_standingOn_10 : decode zb_Land_standingOn 10 = .ok (.aload_n 0, 1) := by decide +kernel
theorem zd_Land_standingOn_11 : decode zb_Land_standingOn 11 = .ok (.getfield 17, 3) := by decide +kernel
theorem zd_Land_standingOn_14 : decode zb_Land_standingOn 14 = .ok (.iload_n 2, 1) := by decide +kernel
theorem zd_Land_standingOn_15 : decode zb_Land_standingOn 15 = .ok (.aaload, 1) := by decide +kernel
theorem zd_Land_standingOn_16 : decode zb_Land_standingOn 16 = .ok (.getfield 50, 3) := by decide +kernel
theorem zd_Land_standingOn_19 : decode zb_Land_standingOn 19 = .ok (.iconst 1, 1) := by decide +kernel
theorem zd_Land_standingOn_20 : decode zb_Land_standingOn 20 = .ok (.iaload, 1) := by decide +kernel
theorem zd_Land_standingOn_21 : decode zb_Land_standingOn 21 = .ok (.iload_n 1, 1) := by decide +kernel
theorem zd_Land_standingOn_22 : decode zb_Land_standingOn 22 = .ok (.if_icmp .ne 5, 3) := by decide +kernel
theorem zd_Land_standingOn_25 : decode zb_Land_standingOn 25 = .ok (.iload_n 2, 1) := by decide +kernel
theorem zd_Land_standingOn_26 : decode zb_Land_standingOn 26 = .ok (.ireturn, 1) := by decide +kernel
theorem zd_Land_standingOn_27 : decode zb_Land_standingOn 27 = .ok (.iinc 2 1, 3) := by decide +kernel
theorem zd_Land_standingOn_30 : decode zb_Land_standingOn 30 = .ok (.goto (-28), 3) := by decide +kernel
theorem zd_Land_standingOn_33 : decode zb_Land_standingOn 33 = .ok (.iconst (-1), 1) := by decide +kernel
theorem zd_Land_standingOn_34 : decode zb_Land_standingOn 34 = .ok (.ireturn, 1) := by decide +kernel
set_option maxHeartbeats 4000000 in
theorem zl_Land_standingOn_B2 {p : Program} {l : Launch} {e : Env} {s : State} {m : MethodId} {args : Array Value} {below : List Frame} {meth : Method} {c : Code} {D : va_G} {cA : Nat → ClassId} {ad : Nat → Nat} {A : Nat → Prop} (B : zu_B p s m args c zb_Land_standingOn 3 "StonePost$Land" D cA ad A) (hret : meth.sig.returnType = (some .int)) (hlk : meth.locks = false) {X : IX} {Y : LX} {res : Int32} {k2 : Nat → Int32 → Int32 → Option Int32} (hk2 : ∀ (r0 : Nat) (x1 : Int32) (x2 : Int32) (H : Heap) (locs : List Loc) (ls : Array Slot), va_P D zu_cl (zu_pic cA ad X Y) H → va_S A s.heap H locs → lv_has ls 3 [(0, .ref (ad r0)), (1, .int x1), (2, .int x2)] → zu_kd r0 = 5 → k2 r0 x1 x2 = some res → W p l e zR_Land_standingOn s m args below meth c H locs 0 0 (MQ below (zu_Qi D cA ad A res X Y) args s 0 0 A) (F0 m 2 ls [])) (r0 : Nat) (x1 : Int32) (x2 : Int32) (H : Heap) (locs : List Loc) (ls : Array Slot) (hP : va_P D zu_cl (zu_pic cA ad X Y) H) (hS : va_S A s.heap H locs) (hl : lv_has ls 3 [(0, .ref (ad r0)), (1, .int x1), (2, .int x2)]) (hr0 : zu_kd r0 = 5) (hf : fn_Land_standingOn_B2 X k2 r0 x1 x2 = some res) : W p l e zR_Land_standingOn s m args below meth c H locs 0 0 (MQ below (zu_Qi D cA ad A res X Y) args s 0 0 A) (F0 m 2 ls []) := by
  obtain ⟨hx, hb, hml, hown, hts, hST⟩ := id B
  unfold fn_Land_standingOn_B2 at hf
  refine lv_iload_n hx hb zd_Land_standingOn_2 rfl (lv_at hl 2 rfl) ?_
  refine lv_aload_n hx hb zd_Land_standingOn_3 rfl (lv_at hl 0 rfl) ?_
  refine zg_Land_throwerCount B hP hr0 zq_61 zd_Land_standingOn_4 ?_
  refine lv_icmp_ge (tgt := 33) hx hb zd_Land_standingOn_7 (by decide) (fun c1 => ?_) (fun c1 => ?_)
  · have hf := zu_t c1 hf
    refine lv_iconst (v := -1) hx hb zd_Land_standingOn_33 (by decide) ?_
    obtain rfl := Option.some.inj hf
    exact zr_iret hx hb hret hlk hP hS zd_Land_standingOn_34
  · have hf := zu_f c1 hf
    refine lv_aload_n hx hb zd_Land_standingOn_10 rfl (lv_at hl 0 rfl) ?_
    refine zg_Land_throwers B hP hr0 zq_53 zd_Land_standingOn_11 ?_
    refine lv_iload_n hx hb zd_Land_standingOn_14 rfl (lv_at hl 2 rfl) ?_
    obtain ⟨hg2, hf⟩ := zu_gd_e hf
    refine zr_thr rfl B hP (zk_Land_throwers hr0) hg2 zd_Land_standingOn_15 ?_
    refine zg_Thr_facts B hP (zk_thr (zk_Land_throwers hr0) (zu_ib_lt hg2)) zq_39 zd_Land_standingOn_16 ?_
    refine lv_iconst (v := 1) hx hb zd_Land_standingOn_19 (by decide) ?_
    refine zr_iald (j := 1) (by decide) B hP (zk_Thr_facts (zk_thr (zk_Land_throwers hr0) (zu_ib_lt hg2))) (by decide) rfl (by decide) zd_Land_standingOn_20 ?_
    refine lv_iload_n hx hb zd_Land_standingOn_21 rfl (lv_at hl 1 rfl) ?_
    refine lv_icmp_ne (tgt := 27) hx hb zd_Land_standingOn_22 (by decide) (fun c3 => ?_) (fun c3 => ?_)
    · have hf := zu_f c3 hf
      obtain ⟨v4, ev4, hf⟩ := zu_nx_e hf
      refine lv_iinc (v := v4) (lv' := [(2, .int v4), (0, .ref (ad r0)), (1, .int x1)]) hx hb zd_Land_standingOn_27 hl (k := 2) rfl (by rw [ev4]; rfl) (by decide) rfl (fun ls hl => ?_)
      clear ev4
      refine lv_goto (tgt := 2) hx hb zd_Land_standingOn_30 (by decide) ?_
      exact hk2 r0 x1 v4 _ _ _ hP hS (lv_sub hl [1, 2, 0] rfl) hr0 hf
    · have hf := zu_t c3 hf
      refine lv_iload_n hx hb zd_Land_standingOn_25 rfl (lv_at hl 2 rfl) ?_
      obtain rfl := Option.some.inj hf
      exact zr_iret hx hb hret hlk hP hS zd_Land_standingOn_26
theorem zl_Land_standingOn_L2 {p : Program} {l : Launch} {e : Env} {s : State} {m : MethodId} {args : Array Value} {below : List Frame} {meth : Method} {c : Code} {D : va_G} {cA : Nat → ClassId} {ad : Nat → Nat} {A : Nat → Prop} (B : zu_B p s m args c zb_Land_standingOn 3 "StonePost$Land" D cA ad A) (hret : meth.sig.returnType = (some .int)) (hlk : meth.locks = false) {X : IX} {Y : LX} {res : Int32} : ∀ (n : Nat) (r0 : Nat) (x1 : Int32) (x2 : Int32) (H : Heap) (locs : List Loc) (ls : Array Slot), va_P D zu_cl (zu_pic cA ad X Y) H → va_S A s.heap H locs → lv_has ls 3 [(0, .ref (ad r0)), (1, .int x1), (2, .int x2)] → zu_kd r0 = 5 → fn_Land_standingOn_L2 X n r0 x1 x2 = some res → W p l e zR_Land_standingOn s m args below meth c H locs 0 0 (MQ below (zu_Qi D cA ad A res X Y) args s 0 0 A) (F0 m 2 ls []) := by
  intro n
  induction n with
  | zero =>
    intro r0 x1 x2 H locs ls hP hS hl hr0 hf
    exact (Option.some_ne_none _ hf.symm).elim
  | succ n ih =>
    intro r0 x1 x2 H locs ls hP hS hl hr0 hf
    exact zl_Land_standingOn_B2 B hret hlk ih r0 x1 x2 H locs ls hP hS hl hr0 hf
set_option maxHeartbeats 4000000 in
theorem zl_Land_standingOn {p : Program} {l : Launch} {e : Env} {s : State} {m : MethodId} {args : Array Value} {below : List Frame} {meth : Method} {c : Code} {D : va_G} {cA : Nat → ClassId} {ad : Nat → Nat} {A : Nat → Prop} (B : zu_B p s m args c zb_Land_standingOn 3 "StonePost$Land" D cA ad A) (hret : meth.sig.returnType = (some .int)) (hlk : meth.locks = false) {X : IX} {Y : LX} {res : Int32} {r0 : Nat} {a1 : Int32} (H : Heap) (locs : List Loc) (ls : Array Slot) (hP : va_P D zu_cl (zu_pic cA ad X Y) H) (hS : va_S A s.heap H locs) (hl : lv_has ls 3 [(0, .ref (ad r0)), (1, .int a1)]) (hr0 : zu_kd r0 = 5) (hf : fn_Land_standingOn X r0 a1 = some res) : W p l e zR_Land_standingOn s m args below meth c H locs 0 0 (MQ below (zu_Qi D cA ad A res X Y) args s 0 0 A) (F0 m 0 ls []) := by
  obtain ⟨hx, hb, hml, hown, hts, hST⟩ := id B
  unfold fn_Land_standingOn at hf
  refine lv_iconst (v := 0) hx hb zd_Land_standingOn_0 (by decide) ?_
  refine lv_istore_n (lv' := [(2, .int (0 : Int32)), (0, .ref (ad r0)), (1, .int a1)]) hx hb zd_Land_standingOn_1 rfl hl (by decide) rfl (fun ls hl => ?_)
  exact zl_Land_standingOn_L2 B hret hlk 400 r0 a1 (0 : Int32) _ _ _ hP hS (lv_sub hl [1, 2, 0] rfl) hr0 hf
theorem zC_Land_standingOn (l : Launch) {D : va_G} {cA : Nat → ClassId} {ad : Nat → Nat} {A : Nat → Prop} {r0 : Nat} {a1 : Int32} {X : IX} {Y : LX} {res : Int32} (hr0 : zu_kd r0 = 5) (hf : fn_Land_standingOn X r0 a1 = some res) : Met l zm_Land_standingOn (zu_ws zm_Land_standingOn zb_Land_standingOn 3 (some .int)) zR_Land_standingOn (va_Pc [.ref (ad r0), .int a1] (zu_Pre D cA ad A X Y)) (zu_Qi D cA ad A res X Y) 0 0 A := by
  refine Met.ofW (cc := zb_Land_standingOn) (maxL := 3) (ret := (some .int)) (by decide +kernel) rfl ?_
  intro p e s m args below meth c s₁ B0 hml hv
  obtain ⟨rfl, hP, hST⟩ := hv
  have B : zu_B p s m _ c zb_Land_standingOn 3 "StonePost$Land" D cA ad A := ⟨B0.exec, B0.bytes, hml, findClass_of_methodNamed B0.named, (fun w hw => atoms_spec (ws := zu_ws zm_Land_standingOn zb_Land_standingOn 3 (some .int)) B0.pre w (List.mem_cons_of_mem _ hw)), hST⟩
  have hl := lv_entry ([.ref (ad r0), .int a1]) (n := 3) (Nat.le_of_ble_eq_true rfl)
  rw [lg_entry_eq]
  generalize (lg_sl ([.ref (ad r0), .int a1]) ++ List.replicate (3 - (lg_sl ([.ref (ad r0), .int a1])).length) Slot.unset).toArray = ls at hl ⊢
  exact zl_Land_standingOn B B0.returns B0.notSynchronized s.heap [] ls hP va_S.rf hl hr0 hf
theorem zw_Land_standingOn {p : Program} {l : Launch} {e : Env} {R : Room} {s : State} {m : MethodId} {args : Array Value} {below : List Frame} {meth : Method} {c : Code} {H : Heap} {locs : List Loc} {cells slots : Nat} {Q : State → Prop} {cc : ByteArray} {pc nL : Nat} {ls : Array Slot} {rest st0 : List Value} {D : va_G} {cA : Nat → ClassId} {ad : Nat → Nat} {A : Nat → Prop} {X : IX} {Y : LX} {own : String} {index : Nat} {r0 : Nat} {a1 : Int32} {v1 : Int32} (B : zu_B p s m args c cc nL own D cA ad A) (hP : va_P D zu_cl (zu_pic cA ad X Y) H) (hS : va_S A s.heap H locs) (hr0 : zu_kd r0 = 5) (hq : fn_Land_standingOn X r0 a1 = some v1) (m1 : Cond.methodLink own index zm_Land_standingOn ∈ zu_TB) (hR1 : 0 + 1 ≤ R.frames) (hR2 : 8 + (3 + 11) + 0 ≤ R.locals) (hsz : ls.size = nL) (hst : st0 = .int a1 :: .ref (ad r0) :: rest) (hw : (rest.map fun v => v.category).sum ≤ 8) (hdg : decode cc pc = .ok (.invokevirtual index, 3)) (h00 : cells ≤ R.cells ∧ slots ≤ R.slots) (kk : ∀ (H1 : Heap) (locs1 : List Loc), va_P D zu_cl (zu_pic cA ad X Y) H1 → va_S A s.heap H1 locs1 → W p l e R s m args below meth c H1 locs1 cells slots Q (F0 m (pc + 3) ls (.int v1 :: rest))) : W p l e R s m args below meth c H locs cells slots Q (F0 m pc ls st0) := by
  subst hst
  exact zr_cVi (As := [.int a1]) (rest := rest) (n := 1) (C := "StonePost$Land") (T := zt_Land) (N := 10) B hP hS (zC_Land_standingOn l hr0 hq) (K := 5) hr0 (by decide) (by decide) rfl rfl m1 zq_243 zq_244 zq_2 zq_245 (by decide +kernel) ⟨hR1, hR2⟩ rfl rfl rfl hsz rfl hw hdg h00 kk
abbrev zR_Thr_begin : Room := { frames := 1, cells := 0, slots := 0, locals := 26 }
theorem zd_Thr_begin_0 : decode zb_Thr_begin 0 = .ok (.getstatic 25, 3) := by decide +kernel
theorem zd_Thr_begin_3 : decode zb_Thr_begin 3 = .ok (.iconst 0, 1) := by decide +kernel
theorem zd_Thr_begin_4 : decode zb_Thr_begin 4 = .ok (.aload_n 0, 1) := by decide +kernel
theorem zd_Thr_begin_5 : decode zb_Thr_begin 5 = .ok (.getfield 11, 3) := by decide +kernel
theorem zd_Thr_begin_8 : decode zb_Thr_begin 8 = .ok (.iconst 0, 1) := by decide +kernel
theorem zd_Thr_begin_9 : decode zb_Thr_begin 9 = .ok (.bipush 9, 2) := by decide +kernel
theorem zd_Thr_begin_11 : decode zb_Thr_begin 11 = .ok (.invokestatic 28, 3) := by decide +kernel
theorem zd_Thr_begin_14 : decode zb_Thr_begin 14 = .ok (.aload_n 0, 1) := by decide +kernel
theorem zd_Thr_begin_15 : decode zb_Thr_begin 15 = .ok (.getfield 11, 3) := by decide +kernel
theorem zd_Thr_begin_18 : decode zb_Thr_begin 18 = .ok (.iconst 0, 1) := by decide +kernel
theorem zd_Thr_begin_19 : decode zb_Thr_begin 19 = .ok (.iload_n 1, 1) := by decide +kernel
theorem zd_Thr_begin_20 : decode zb_Thr_begin 20 = .ok (.iastore, 1) := by decide +kernel
theorem zd_Thr_begin_21 : decode zb_Thr_begin 21 = .ok (.aload_n 0, 1) := by decide +kernel
theorem zd_Thr_begin_22 : decode zb_Thr_begin 22 = .ok (.getfield 11, 3) := by decide +kernel
theorem zd_Thr_begin_25 : decode zb_Thr_begin 25 = .ok (.iconst 1, 1) := by decide +kernel
theorem zd_Thr_begin_26 : decode zb_Thr_begin 26 = .ok (.iload_n 2, 1) := by decide +kernel
theorem zd_Thr_begin_27 : decode zb_Thr_begin 27 = .ok (.iastore, 1) := by decide +kernel
theorem zd_Thr_begin_28 : decode zb_Thr_begin 28 = .ok (.return_, 1) := by decide +kernel
set_option maxHeartbeats 4000000 in
theorem zl_Thr_begin {p : Program} {l : Launch} {e : Env} {s : State} {m : MethodId} {args : Array Value} {below : List Frame} {meth : Method} {c : Code} {D : va_G} {cA : Nat → ClassId} {ad : Nat → Nat} {A : Nat → Prop} (B : zu_B p s m args c zb_Thr_begin 3 "StonePost$Thrower" D cA ad A) (hret : meth.sig.returnType = none) (hlk : meth.locks = false) {Y : LX} {res : IX} {r0 : Nat} {a1 : Int32} {a2 : Int32} {X : IX} (H : Heap) (locs : List Loc) (ls : Array Slot) (hP : va_P D zu_cl (zu_pic cA ad X Y) H) (hS : va_S A s.heap H locs) (hl : lv_has ls 3 [(0, .ref (ad r0)), (1, .int a1), (2, .int a2)]) (hr0 : zu_kd r0 = 6) (hf : fn_Thr_begin r0 a1 a2 X = some res) : W p l e zR_Thr_begin s m args below meth c H locs 0 0 (MQ below (zu_Qv D cA ad A res Y) args s 0 0 A) (F0 m 0 ls []) := by
  obtain ⟨hx, hb, hml, hown, hts, hST⟩ := id B
  unfold fn_Thr_begin at hf
  refine va_gets hx hb (hST.2.2.1.1) hS hown (hts _ zq_255) (fun _ h9 => h9) zd_Thr_begin_0 ?_
  refine lv_iconst (v := 0) hx hb zd_Thr_begin_3 (by decide) ?_
  refine lv_aload_n hx hb zd_Thr_begin_4 rfl (lv_at hl 0 rfl) ?_
  refine zg_Thr_facts B hP hr0 zq_38 zd_Thr_begin_5 ?_
  refine lv_iconst (v := 0) hx hb zd_Thr_begin_8 (by decide) ?_
  refine lv_bipush (v := 9) hx hb zd_Thr_begin_9 (by decide) ?_
  refine zr_cpt (j0 := 0) (j1 := 0) (jn := 9) B hP hS (by decide) (by decide) (by decide) hf (hST.2.2.1.2.1) (zk_Thr_facts hr0) (by decide) rfl (by decide) zq_257 zq_259 zq_258 zq_9 hl.1 (by decide) (Nat.le_of_ble_eq_true rfl) zd_Thr_begin_11 (fun X1 H locs hf hP hS => ?_)
  refine lv_aload_n hx hb zd_Thr_begin_14 rfl (lv_at hl 0 rfl) ?_
  refine zg_Thr_facts B hP hr0 zq_38 zd_Thr_begin_15 ?_
  refine lv_iconst (v := 0) hx hb zd_Thr_begin_18 (by decide) ?_
  refine lv_iload_n hx hb zd_Thr_begin_19 rfl (lv_at hl 1 rfl) ?_
  refine zr_iast (j := 0) (by decide) B hP hS hf (zk_Thr_facts hr0) (by decide) rfl (by decide) zd_Thr_begin_20 (fun X2 H locs hf hP hS => ?_)
  refine lv_aload_n hx hb zd_Thr_begin_21 rfl (lv_at hl 0 rfl) ?_
  refine zg_Thr_facts B hP hr0 zq_38 zd_Thr_begin_22 ?_
  refine lv_iconst (v := 1) hx hb zd_Thr_begin_25 (by decide) ?_
  refine lv_iload_n hx hb zd_Thr_begin_26 rfl (lv_at hl 2 rfl) ?_
  refine zr_iast (j := 1) (by decide) B hP hS hf (zk_Thr_facts hr0) (by decide) rfl (by decide) zd_Thr_begin_27 (fun X3 H locs hf hP hS => ?_)
  obtain rfl := Option.some.inj hf
  exact zr_vret hx hb hret hlk hP hS zd_Thr_begin_28
theorem zC_Thr_begin (l : Launch) {D : va_G} {cA : Nat → ClassId} {ad : Nat → Nat} {A : Nat → Prop} {r0 : Nat} {a1 : Int32} {a2 : Int32} {X : IX} {Y : LX} {res : IX} (hr0 : zu_kd r0 = 6) (hf : fn_Thr_begin r0 a1 a2 X = some res) : Met l zm_Thr_begin (zu_ws zm_Thr_begin zb_Thr_begin 3 none) zR_Thr_begin (va_Pc [.ref (ad r0), .int a1, .int a2] (zu_Pre D cA ad A X Y)) (zu_Qv D cA ad A res Y) 0 0 A := by
  refine Met.ofW (cc := zb_Thr_begin) (maxL := 3) (ret := none) (by decide +kernel) rfl ?_
  intro p e s m args below meth c s₁ B0 hml hv
  obtain ⟨rfl, hP, hST⟩ := hv
  have B : zu_B p s m _ c zb_Thr_begin 3 "StonePost$Thrower" D cA ad A := ⟨B0.exec, B0.bytes, hml, findClass_of_methodNamed B0.named, (fun w hw => atoms_spec (ws := zu_ws zm_Thr_begin zb_Thr_begin 3 none) B0.pre w (List.mem_cons_of_mem _ hw)), hST⟩
  have hl := lv_entry ([.ref (ad r0), .int a1, .int a2]) (n := 3) (Nat.le_of_ble_eq_true rfl)
  rw [lg_entry_eq]
  generalize (lg_sl ([.ref (ad r0), .int a1, .int a2]) ++ List.replicate (3 - (lg_sl ([.ref (ad r0), .int a1, .int a2])).length) Slot.unset).toArray = ls at hl ⊢
  exact zl_Thr_begin B B0.returns B0.notSynchronized s.heap [] ls hP va_S.rf hl hr0 hf
theorem zw_Thr_begin {p : Program} {l : Launch} {e : Env} {R : Room} {s : State} {m : MethodId} {args : Array Value} {below : List Frame} {meth : Method} {c : Code} {H : Heap} {locs : List Loc} {cells slots : Nat} {Q : State → Prop} {cc : ByteArray} {pc nL : Nat} {ls : Array Slot} {rest st0 : List Value} {D : va_G} {cA : Nat → ClassId} {ad : Nat → Nat} {A : Nat → Prop} {X : IX} {Y : LX} {own : String} {index : Nat} {r0 : Nat} {a1 : Int32} {a2 : Int32} {X1 : IX} (B : zu_B p s m args c cc nL own D cA ad A) (hP : va_P D zu_cl (zu_pic cA ad X Y) H) (hS : va_S A s.heap H locs) (hr0 : zu_kd r0 = 6) (hq : fn_Thr_begin r0 a1 a2 X = some X1) (m1 : Cond.methodLink own index zm_Thr_begin ∈ zu_TB) (hR1 : 1 + 1 ≤ R.frames) (hR2 : 8 + (3 + 11) + 26 ≤ R.locals) (hsz : ls.size = nL) (hst : st0 = .int a2 :: .int a1 :: .ref (ad r0) :: rest) (hw : (rest.map fun v => v.category).sum ≤ 8) (hdg : decode cc pc = .ok (.invokevirtual index, 3)) (h00 : cells ≤ R.cells ∧ slots ≤ R.slots) (kk : ∀ (H1 : Heap) (locs1 : List Loc), va_P D zu_cl (zu_pic cA ad X1 Y) H1 → va_S A s.heap H1 locs1 → W p l e R s m args below meth c H1 locs1 cells slots Q (F0 m (pc + 3) ls (rest))) : W p l e R s m args below meth c H locs cells slots Q (F0 m pc ls st0) := by
  subst hst
  exact zr_cVv (As := [.int a1, .int a2]) (rest := rest) (n := 2) (C := "StonePost$Thrower") (T := zt_Thr) (N := 1) B hP hS (zC_Thr_begin l hr0 hq) (K := 6) hr0 (by decide) (by decide) rfl rfl m1 zq_252 zq_253 zq_3 zq_254 (by decide +kernel) ⟨hR1, hR2⟩ rfl rfl rfl hsz rfl hw hdg h00 kk
abbrev zR_Land_addThrower : Room := { frames := 2, cells := 0, slots := 0, locals := 48 }
theorem zd_Land_addThrower_0 : decode zb_Land_addThrower 0 = .ok (.aload_n 0, 1) := by decide +kernel
theorem zd_Land_addThrower_1 : decode zb_Land_addThrower 1 = .ok (.getfield 53, 3) := by decide +kernel
theorem zd_Land_addThrower_4 : decode zb_Land_addThrower 4 = .ok (.bipush 10, 2) := by decide +kernel
theorem zd_Land_addThrower_6 : decode zb_Land_addThrower 6 = .ok (.if_icmp .lt 5, 3) := by decide +kernel
theorem zd_Land_addThrower_9 : decode zb_Land_addThrower 9 = .ok (.iconst (-1), 1) := by decide +kernel
theorem zd_Land_addThrower_10 : decode zb_Land_addThrower 10 = .ok (.ireturn, 1) := by decide +kernel
theorem zd_Land_addThrower_11 : decode zb_Land_addThrower 11 = .ok (.aload_n 0, 1) := by decide +kernel
theorem zd_Land_addThrower_12 : decode zb_Land_addThrower 12 = .ok (.getfield 17, 3) := by decide +kernel
theorem zd_Land_addThrower_15 : decode zb_Land_addThrower 15 = .ok (.aload_n 0, 1) := by decide +kernel
theorem zd_Land_addThrower_16 : decode zb_Land_addThrower 16 = .ok (.getfield 53, 3) := by decide +kernel
theorem zd_Land_addThrower_19 : decode zb_Land_addThrower 19 = .ok (.aaload, 1) := by decide +kernel
theorem zd_Land_addThrower_20 : decode zb_Land_addThrower 20 = .ok (.iload_n 1, 1) := by decide +kernel
theorem zd_Land_addThrower_21 : decode zb_Land_addThrower 21 = .ok (.iload_n 2, 1) := by decide +kernel
theorem zd_Land_addThrower_22 : decode zb_Land_addThrower 22 = .ok (.invokevirtual 62, 3) := by decide +kernel
theorem zd_Land_addThrower_25 : decode zb_Land_addThrower 25 = .ok (.aload_n 0, 1) := by decide +kernel
theorem zd_Land_addThrower_26 : decode zb_Land_addThrower 26 = .ok (.dup, 1) := by decide +kernel
theorem zd_Land_addThrower_27 : decode zb_Land_addThrower 27 = .ok (.getfield 53, 3) := by decide +kernel
theorem zd_Land_addThrower_30 : decode zb_Land_addThrower 30 = .ok (.iconst 1, 1) := by decide +kernel
theorem zd_Land_addThrower_31 : decode zb_Land_addThrower 31 = .ok (.iadd, 1) := by decide +kernel
theorem zd_Land_addThrower_32 : decode zb_Land_addThrower 32 = .ok (.putfield 53, 3) := by decide +kernel
theorem zd_Land_addThrower_35 : decode zb_Land_addThrower 35 = .ok (.aload_n 0, 1) := by decide +kernel
theorem zd_Land_addThrower_36 : decode zb_Land_addThrower 36 = .ok (.getfield 53, 3) := by decide +kernel
theorem zd_Land_addThrower_39 : decode zb_Land_addThrower 39 = .ok (.iconst 1, 1) := by decide +kernel
theorem zd_Land_addThrower_40 : decode zb_Land_addThrower 40 = .ok (.isub, 1) := by decide +kernel
theorem zd_Land_addThrower_41 : decode zb_Land_addThrower 41 = .ok (.ireturn, 1) := by decide +kernel
set_option maxHeartbeats 4000000 in
theorem zl_Land_addThrower {p : Program} {l : Launch} {e : Env} {s : State} {m : MethodId} {args : Array Value} {below : List Frame} {meth : Method} {c : Code} {D : va_G} {cA : Nat → ClassId} {ad : Nat → Nat} {A : Nat → Prop} (B : zu_B p s m args c zb_Land_addThrower 3 "StonePost$Land" D cA ad A) (hret : meth.sig.returnType = (some .int)) (hlk : meth.locks = false) {Y : LX} {res : Int32 × IX} {r0 : Nat} {a1 : Int32} {a2 : Int32} {X : IX} (H : Heap) (locs : List Loc) (ls : Array Slot) (hP : va_P D zu_cl (zu_pic cA ad X Y) H) (hS : va_S A s.heap H locs) (hl : lv_has ls 3 [(0, .ref (ad r0)), (1, .int a1), (2, .int a2)]) (hr0 : zu_kd r0 = 5) (hf : fn_Land_addThrower r0 a1 a2 X = some res) : W p l e zR_Land_addThrower s m args below meth c H locs 0 0 (MQ below (zu_Qi D cA ad A res.1 res.2 Y) args s 0 0 A) (F0 m 0 ls []) := by
  obtain ⟨hx, hb, hml, hown, hts, hST⟩ := id B
  unfold fn_Land_addThrower at hf
  refine lv_aload_n hx hb zd_Land_addThrower_0 rfl (lv_at hl 0 rfl) ?_
  refine zg_Land_throwerCount B hP hr0 zq_61 zd_Land_addThrower_1 ?_
  refine lv_bipush (v := 10) hx hb zd_Land_addThrower_4 (by decide) ?_
  refine lv_icmp_lt (tgt := 11) hx hb zd_Land_addThrower_6 (by decide) (fun c1 => ?_) (fun c1 => ?_)
  · have hf := zu_t c1 hf
    refine lv_aload_n hx hb zd_Land_addThrower_11 rfl (lv_at hl 0 rfl) ?_
    refine zg_Land_throwers B hP hr0 zq_53 zd_Land_addThrower_12 ?_
    refine lv_aload_n hx hb zd_Land_addThrower_15 rfl (lv_at hl 0 rfl) ?_
    refine zg_Land_throwerCount B hP hr0 zq_61 zd_Land_addThrower_16 ?_
    obtain ⟨hg2, hf⟩ := zu_gd_e hf
    refine zr_thr rfl B hP (zk_Land_throwers hr0) hg2 zd_Land_addThrower_19 ?_
    refine lv_iload_n hx hb zd_Land_addThrower_20 rfl (lv_at hl 1 rfl) ?_
    refine lv_iload_n hx hb zd_Land_addThrower_21 rfl (lv_at hl 2 rfl) ?_
    obtain ⟨X3, hq4, hf⟩ := zu_b1_e hf
    refine zw_Thr_begin (rest := []) B hP hS (zk_thr (zk_Land_throwers hr0) (zu_ib_lt hg2)) hq4 zq_251 (Nat.le_of_ble_eq_true rfl) (Nat.le_of_ble_eq_true rfl) hl.1 rfl (Nat.le_of_ble_eq_true rfl) zd_Land_addThrower_22 (by decide) (fun H locs hP hS => ?_)
    clear hq4
    refine lv_aload_n hx hb zd_Land_addThrower_25 rfl (lv_at hl 0 rfl) ?_
    refine lv_dup hx hb zd_Land_addThrower_26 rfl ?_
    refine zg_Land_throwerCount B hP hr0 zq_61 zd_Land_addThrower_27 ?_
    refine lv_iconst (v := 1) hx hb zd_Land_addThrower_30 (by decide) ?_
    refine lv_iadd hx hb zd_Land_addThrower_31 ?_
    refine zp_Land_throwerCount B hP hS hf hr0 zq_61 zd_Land_addThrower_32 (fun X5 H locs hf hP hS => ?_)
    refine lv_aload_n hx hb zd_Land_addThrower_35 rfl (lv_at hl 0 rfl) ?_
    refine zg_Land_throwerCount B hP hr0 zq_61 zd_Land_addThrower_36 ?_
    refine lv_iconst (v := 1) hx hb zd_Land_addThrower_39 (by decide) ?_
    refine lv_isub hx hb zd_Land_addThrower_40 ?_
    obtain rfl := Option.some.inj hf
    exact zr_iret hx hb hret hlk hP hS zd_Land_addThrower_41
  · have hf := zu_f c1 hf
    refine lv_iconst (v := -1) hx hb zd_Land_addThrower_9 (by decide) ?_
    obtain rfl := Option.some.inj hf
    exact zr_iret hx hb hret hlk hP hS zd_Land_addThrower_10
theorem zC_Land_addThrower (l : Launch) {D : va_G} {cA : Nat → ClassId} {ad : Nat → Nat} {A : Nat → Prop} {r0 : Nat} {a1 : Int32} {a2 : Int32} {X : IX} {Y : LX} {res : Int32 × IX} (hr0 : zu_kd r0 = 5) (hf : fn_Land_addThrower r0 a1 a2 X = some res) : Met l zm_Land_addThrower (zu_ws zm_Land_addThrower zb_Land_addThrower 3 (some .int)) zR_Land_addThrower (va_Pc [.ref (ad r0), .int a1, .int a2] (zu_Pre D cA ad A X Y)) (zu_Qi D cA ad A res.1 res.2 Y) 0 0 A := by
  refine Met.ofW (cc := zb_Land_addThrower) (maxL := 3) (ret := (some .int)) (by decide +kernel) rfl ?_
  intro p e s m args below meth c s₁ B0 hml hv
  obtain ⟨rfl, hP, hST⟩ := hv
  have B : zu_B p s m _ c zb_Land_addThrower 3 "StonePost$Land" D cA ad A := ⟨B0.exec, B0.bytes, hml, findClass_of_methodNamed B0.named, (fun w hw => atoms_spec (ws := zu_ws zm_Land_addThrower zb_Land_addThrower 3 (some .int)) B0.pre w (List.mem_cons_of_mem _ hw)), hST⟩
  have hl := lv_entry ([.ref (ad r0), .int a1, .int a2]) (n := 3) (Nat.le_of_ble_eq_true rfl)
  rw [lg_entry_eq]
  generalize (lg_sl ([.ref (ad r0), .int a1, .int a2]) ++ List.replicate (3 - (lg_sl ([.ref (ad r0), .int a1, .int a2])).length) Slot.unset).toArray = ls at hl ⊢
  exact zl_Land_addThrower B B0.returns B0.notSynchronized s.heap [] ls hP va_S.rf hl hr0 hf
theorem zw_Land_addThrower {p : Program} {l : Launch} {e : Env} {R : Room} {s : State} {m : MethodId} {args : Array Value} {below : List Frame} {meth : Method} {c : Code} {H : Heap} {locs : List Loc} {cells slots : Nat} {Q : State → Prop} {cc : ByteArray} {pc nL : Nat} {ls : Array Slot} {rest st0 : List Value} {D : va_G} {cA : Nat → ClassId} {ad : Nat → Nat} {A : Nat → Prop} {X : IX} {Y : LX} {own : String} {index : Nat} {r0 : Nat} {a1 : Int32} {a2 : Int32} {v1 : Int32} {X1 : IX} (B : zu_B p s m args c cc nL own D cA ad A) (hP : va_P D zu_cl (zu_pic cA ad X Y) H) (hS : va_S A s.heap H locs) (hr0 : zu_kd r0 = 5) (hq : fn_Land_addThrower r0 a1 a2 X = some (v1, X1)) (m1 : Cond.methodLink own index zm_Land_addThrower ∈ zu_TB) (hR1 : 2 + 1 ≤ R.frames) (hR2 : 8 + (3 + 11) + 48 ≤ R.locals) (hsz : ls.size = nL) (hst : st0 = .int a2 :: .int a1 :: .ref (ad r0) :: rest) (hw : (rest.map fun v => v.category).sum ≤ 8) (hdg : decode cc pc = .ok (.invokevirtual index, 3)) (h00 : cells ≤ R.cells ∧ slots ≤ R.slots) (kk : ∀ (H1 : Heap) (locs1 : List Loc), va_P D zu_cl (zu_pic cA ad X1 Y) H1 → va_S A s.heap H1 locs1 → W p l e R s m args below meth c H1 locs1 cells slots Q (F0 m (pc + 3) ls (.int v1 :: rest))) : W p l e R s m args below meth c H locs cells slots Q (F0 m pc ls st0) := by
  subst hst
  exact zr_cVi (As := [.int a1, .int a2]) (rest := rest) (n := 2) (C := "StonePost$Land") (T := zt_Land) (N := 10) B hP hS (zC_Land_addThrower l hr0 hq) (K := 5) hr0 (by decide) (by decide) rfl rfl m1 zq_248 zq_249 zq_2 zq_250 (by decide +kernel) ⟨hR1, hR2⟩ rfl rfl rfl hsz rfl hw hdg h00 kk
abbrev zR_Post_thrower : Room := { frames := 3, cells := 0, slots := 0, locals := 70 }
theorem zd_Post_thrower_0 : decode zb_Post_thrower 0 = .ok (.iload_n 1, 1) := by decide +kernel
theorem zd_Post_thrower_1 : decode zb_Post_thrower 1 = .ok (.invokestatic 70, 3) := by decide +kernel
theorem zd_Post_thrower_4 : decode zb_Post_thrower 4 = .ok (.ifCond .eq 10, 3) := by decide +kernel
theorem zd_Post_thrower_7 : decode zb_Post_thrower 7 = .ok (.iload_n 2, 1) := by decide +kernel
theorem zd_Post_thrower_8 : decode zb_Post_thrower 8 = .ok (.invokestatic 47, 3) := by decide +kernel
theorem zd_Post_thrower_11 : decode zb_Post_thrower 11 = .ok (.ifCond .ne 10, 3) := by decide +kernel
theorem zd_Post_thrower_14 : decode zb_Post_thrower 14 = .ok (.aload_n 0, 1) := by decide +kernel
theorem zd_Post_thrower_15 : decode zb_Post_thrower 15 = .ok (.ldc 55, 2) := by decide +kernel
theorem zd_Post_thrower_17 : decode zb_Post_thrower 17 = .ok (.invokevirtual 56, 3) := by decide +kernel
theorem zd_Post_thrower_20 : decode zb_Post_thrower 20 = .ok (.ireturn, 1) := by decide +kernel
theorem zd_Post_thrower_21 : decode zb_Post_thrower 21 = .ok (.aload_n 0, 1) := by decide +kernel
theorem zd_Post_thrower_22 : decode zb_Post_thrower 22 = .ok (.getfield 10, 3) := by decide +kernel
theorem zd_Post_thrower_25 : decode zb_Post_thrower 25 = .ok (.iload_n 2, 1) := by decide +kernel
theorem zd_Post_thrower_26 : decode zb_Post_thrower 26 = .ok (.invokevirtual 73, 3) := by decide +kernel
theorem zd_Post_thrower_29 : decode zb_Post_thrower 29 = .ok (.iconst (-1), 1) := by decide +kernel
theorem zd_Post_thrower_30 : decode zb_Post_thrower 30 = .ok (.if_icmp .eq 10, 3) := by decide +kernel
theorem zd_Post_thrower_33 : decode zb_Post_thrower 33 = .ok (.aload_n 0, 1) := by decide +kernel
theorem zd_Post_thrower_34 : decode zb_Post_thrower 34 = .ok (.ldc 76, 2) := by decide +kernel
theorem zd_Post_thrower_36 : decode zb_Post_thrower 36 = .ok (.invokevirtual 56, 3) := by decide +kernel
theorem zd_Post_thrower_39 : decode zb_Post_thrower 39 = .ok (.ireturn, 1) := by decide +kernel
theorem zd_Post_thrower_40 : decode zb_Post_thrower 40 = .ok (.aload_n 0, 1) := by decide +kernel
theorem zd_Post_thrower_41 : decode zb_Post_thrower 41 = .ok (.getfield 10, 3) := by decide +kernel
theorem zd_Post_thrower_44 : decode zb_Post_thrower 44 = .ok (.iload_n 1, 1) := by decide +kernel
theorem zd_Post_thrower_45 : decode zb_Post_thrower 45 = .ok (.iload_n 2, 1) := by decide +kernel
theorem zd_Post_thrower_46 : decode zb_Post_thrower 46 = .ok (.invokevirtual 77, 3) := by decide +kernel
theorem zd_Post_thrower_49 : decode zb_Post_thrower 49 = .ok (.istore_n 3, 1) := by decide +kernel
theorem zd_Post_thrower_50 : decode zb_Post_thrower 50 = .ok (.iload_n 3, 1) := by decide +kernel
theorem zd_Post_thrower_51 : decode zb_Post_thrower 51 = .ok (.iconst (-1), 1) := by decide +kernel
theorem zd_Post_thrower_52 : decode zb_Post_thrower 52 = .ok (.if_icmp .ne 12, 3) := by decide +kernel
theorem zd_Post_thrower_55 : decode zb_Post_thrower 55 = .ok (.aload_n 0, 1) := by decide +kernel
theorem zd_Post_thrower_56 : decode zb_Post_thrower 56 = .ok (.ldc 81, 2) := by decide +kernel
theorem zd_Post_thrower_58 : decode zb_Post_thrower 58 = .ok (.invokevirtual 56, 3) := by decide +kernel
theorem zd_Post_thrower_61 : decode zb_Post_thrower 61 = .ok (.goto 4, 3) := by decide +kernel
theorem zd_Post_thrower_64 : decode zb_Post_thrower 64 = .ok (.iload_n 3, 1) := by decide +kernel
theorem zd_Post_thrower_65 : decode zb_Post_thrower 65 = .ok (.ireturn, 1) := by decide +kernel
set_option maxHeartbeats 4000000 in
theorem zl_Post_thrower_L65 {p : Program} {l : Launch} {e : Env} {s : State} {m : MethodId} {args : Array Value} {below : List Frame} {meth : Method} {c : Code} {D : va_G} {cA : Nat → ClassId} {ad : Nat → Nat} {A : Nat → Prop} (B : zu_B p s m args c zb_Post_thrower 4 "StonePost" D cA ad A) (hret : meth.sig.returnType = (some .int)) (hlk : meth.locks = false) {Y : LX} {res : Int32 × IX} (y0 : Int32) (X : IX) (H : Heap) (locs : List Loc) (ls : Array Slot) (hP : va_P D zu_cl (zu_pic cA ad X Y) H) (hS : va_S A s.heap H locs) (hl : lv_has ls 4 []) (hf : fn_Post_thrower_L65 y0 X = some res) : W p l e zR_Post_thrower s m args below meth c H locs 0 0 (MQ below (zu_Qi D cA ad A res.1 res.2 Y) args s 0 0 A) (F0 m 65 ls [.int y0]) := by
  obtain ⟨hx, hb, hml, hown, hts, hST⟩ := id B
  unfold fn_Post_thrower_L65 at hf
  obtain rfl := Option.some.inj hf
  exact zr_iret hx hb hret hlk hP hS zd_Post_thrower_65
set_option maxHeartbeats 4000000 in
theorem zl_Post_thrower_L14 {p : Program} {l : Launch} {e : Env} {s : State} {m : MethodId} {args : Array Value} {below : List Frame} {meth : Method} {c : Code} {D : va_G} {cA : Nat → ClassId} {ad : Nat → Nat} {A : Nat → Prop} (B : zu_B p s m args c zb_Post_thrower 4 "StonePost" D cA ad A) (hret : meth.sig.returnType = (some .int)) (hlk : meth.locks = false) {Y : LX} {res : Int32 × IX} (X : IX) (H : Heap) (locs : List Loc) (ls : Array Slot) (hP : va_P D zu_cl (zu_pic cA ad X Y) H) (hS : va_S A s.heap H locs) (hl : lv_has ls 4 [(0, .ref (ad 0))]) (hf : fn_Post_thrower_L14 X = some res) : W p l e zR_Post_thrower s m args below meth c H locs 0 0 (MQ below (zu_Qi D cA ad A res.1 res.2 Y) args s 0 0 A) (F0 m 14 ls []) := by
  obtain ⟨hx, hb, hml, hown, hts, hST⟩ := id B
  unfold fn_Post_thrower_L14 at hf
  refine lv_aload_n hx hb zd_Post_thrower_14 rfl (lv_at hl 0 rfl) ?_
  refine lv_ldc (v := -1000001) hx hb hown (hts _ zq_226) zd_Post_thrower_15 ?_
  obtain ⟨v20, X21, hq22, hf⟩ := zu_b2_e hf
  refine zw_Post_finding (rest := []) B hP hS hq22 zq_227 (Nat.le_of_ble_eq_true rfl) (Nat.le_of_ble_eq_true rfl) hl.1 rfl (Nat.le_of_ble_eq_true rfl) zd_Post_thrower_17 (by decide) (fun H locs hP hS => ?_)
  clear hq22
  obtain rfl := Option.some.inj hf
  exact zr_iret hx hb hret hlk hP hS zd_Post_thrower_20
set_option maxHeartbeats 4000000 in
theorem zl_Post_thrower {p : Program} {l : Launch} {e : Env} {s : State} {m : MethodId} {args : Array Value} {below : List Frame} {meth : Method} {c : Code} {D : va_G} {cA : Nat → ClassId} {ad : Nat → Nat} {A : Nat → Prop} (B : zu_B p s m args c zb_Post_thrower 4 "StonePost" D cA ad A) (hret : meth.sig.returnType = (some .int)) (hlk : meth.locks = false) {Y : LX} {res : Int32 × IX} {a1 : Int32} {a2 : Int32} {X : IX} (H : Heap) (locs : List Loc) (ls : Array Slot) (hP : va_P D zu_cl (zu_pic cA ad X Y) H) (hS : va_S A s.heap H locs) (hl : lv_has ls 4 [(0, .ref (ad 0)), (1, .int a1), (2, .int a2)]) (hf : fn_Post_thrower a1 a2 X = some res) : W p l e zR_Post_thrower s m args below meth c H locs 0 0 (MQ below (zu_Qi D cA ad A res.1 res.2 Y) args s 0 0 A) (F0 m 0 ls []) := by
  obtain ⟨hx, hb, hml, hown, hts, hST⟩ := id B
  unfold fn_Post_thrower at hf
  refine lv_iload_n hx hb zd_Post_thrower_0 rfl (lv_at hl 1 rfl) ?_
  obtain ⟨v1, hq2, hf⟩ := zu_b1_e hf
  refine zw_Post_isKind (rest := []) B hP hS hq2 zq_239 (Nat.le_of_ble_eq_true rfl) (Nat.le_of_ble_eq_true rfl) hl.1 rfl (Nat.le_of_ble_eq_true rfl) zd_Post_thrower_1 (by decide) (fun H locs hP hS => ?_)
  clear hq2
  refine lv_if_eq (tgt := 14) hx hb zd_Post_thrower_4 (by decide) (fun c3 => ?_) (fun c3 => ?_)
  · have hf := zu_t c3 hf
    exact zl_Post_thrower_L14 B hret hlk X _ _ _ hP hS (lv_sub hl [0] rfl) hf
  · have hf := zu_f c3 hf
    refine lv_iload_n hx hb zd_Post_thrower_7 rfl (lv_at hl 2 rfl) ?_
    obtain ⟨v4, hq5, hf⟩ := zu_b1_e hf
    refine zw_Post_isCell (rest := []) B hP hS hq5 zq_220 (Nat.le_of_ble_eq_true rfl) (Nat.le_of_ble_eq_true rfl) hl.1 rfl (Nat.le_of_ble_eq_true rfl) zd_Post_thrower_8 (by decide) (fun H locs hP hS => ?_)
    clear hq5
    refine lv_if_ne (tgt := 21) hx hb zd_Post_thrower_11 (by decide) (fun c6 => ?_) (fun c6 => ?_)
    · have hf := zu_f c6 hf
      refine lv_aload_n hx hb zd_Post_thrower_21 rfl (lv_at hl 0 rfl) ?_
      refine zg_Post_land B hP rfl zq_191 zd_Post_thrower_22 ?_
      refine lv_iload_n hx hb zd_Post_thrower_25 rfl (lv_at hl 2 rfl) ?_
      obtain ⟨v7, hq8, hf⟩ := zu_b1_e hf
      refine zw_Land_standingOn (rest := []) B hP hS rfl hq8 zq_242 (Nat.le_of_ble_eq_true rfl) (Nat.le_of_ble_eq_true rfl) hl.1 rfl (Nat.le_of_ble_eq_true rfl) zd_Post_thrower_26 (by decide) (fun H locs hP hS => ?_)
      clear hq8
      refine lv_iconst (v := -1) hx hb zd_Post_thrower_29 (by decide) ?_
      refine lv_icmp_eq (tgt := 40) hx hb zd_Post_thrower_30 (by decide) (fun c9 => ?_) (fun c9 => ?_)
      · have hf := zu_t c9 hf
        refine lv_aload_n hx hb zd_Post_thrower_40 rfl (lv_at hl 0 rfl) ?_
        refine zg_Post_land B hP rfl zq_191 zd_Post_thrower_41 ?_
        refine lv_iload_n hx hb zd_Post_thrower_44 rfl (lv_at hl 1 rfl) ?_
        refine lv_iload_n hx hb zd_Post_thrower_45 rfl (lv_at hl 2 rfl) ?_
        obtain ⟨v10, X11, hq12, hf⟩ := zu_b2_e hf
        refine zw_Land_addThrower (rest := []) B hP hS rfl hq12 zq_247 (Nat.le_of_ble_eq_true rfl) (Nat.le_of_ble_eq_true rfl) hl.1 rfl (Nat.le_of_ble_eq_true rfl) zd_Post_thrower_46 (by decide) (fun H locs hP hS => ?_)
        clear hq12
        refine lv_istore_n (lv' := [(3, .int v10), (0, .ref (ad 0)), (1, .int a1), (2, .int a2)]) hx hb zd_Post_thrower_49 rfl hl (by decide) rfl (fun ls hl => ?_)
        refine lv_iload_n hx hb zd_Post_thrower_50 rfl (lv_at hl 0 rfl) ?_
        refine lv_iconst (v := -1) hx hb zd_Post_thrower_51 (by decide) ?_
        refine lv_icmp_ne (tgt := 64) hx hb zd_Post_thrower_52 (by decide) (fun c13 => ?_) (fun c13 => ?_)
        · have hf := zu_f c13 hf
          refine lv_iload_n hx hb zd_Post_thrower_64 rfl (lv_at hl 0 rfl) ?_
          exact zl_Post_thrower_L65 B hret hlk v10 X11 _ _ _ hP hS (lv_sub hl [] rfl) hf
        · have hf := zu_t c13 hf
          refine lv_aload_n hx hb zd_Post_thrower_55 rfl (lv_at hl 1 rfl) ?_
          refine lv_ldc (v := -1000002) hx hb hown (hts _ zq_260) zd_Post_thrower_56 ?_
          obtain ⟨v14, X15, hq16, hf⟩ := zu_b2_e hf
          refine zw_Post_finding (rest := []) B hP hS hq16 zq_227 (Nat.le_of_ble_eq_true rfl) (Nat.le_of_ble_eq_true rfl) hl.1 rfl (Nat.le_of_ble_eq_true rfl) zd_Post_thrower_58 (by decide) (fun H locs hP hS => ?_)
          clear hq16
          refine lv_goto (tgt := 65) hx hb zd_Post_thrower_61 (by decide) ?_
          exact zl_Post_thrower_L65 B hret hlk v14 X15 _ _ _ hP hS (lv_sub hl [] rfl) hf
      · have hf := zu_f c9 hf
        refine lv_aload_n hx hb zd_Post_thrower_33 rfl (lv_at hl 0 rfl) ?_
        refine lv_ldc (v := -1000005) hx hb hown (hts _ zq_246) zd_Post_thrower_34 ?_
        obtain ⟨v17, X18, hq19, hf⟩ := zu_b2_e hf
        refine zw_Post_finding (rest := []) B hP hS hq19 zq_227 (Nat.le_of_ble_eq_true rfl) (Nat.le_of_ble_eq_true rfl) hl.1 rfl (Nat.le_of_ble_eq_true rfl) zd_Post_thrower_36 (by decide) (fun H locs hP hS => ?_)
        clear hq19
        obtain rfl := Option.some.inj hf
        exact zr_iret hx hb hret hlk hP hS zd_Post_thrower_39
    · have hf := zu_t c6 hf
      exact zl_Post_thrower_L14 B hret hlk X _ _ _ hP hS (lv_sub hl [0] rfl) hf
theorem zC_Post_thrower (l : Launch) {D : va_G} {cA : Nat → ClassId} {ad : Nat → Nat} {A : Nat → Prop} {a1 : Int32} {a2 : Int32} {X : IX} {Y : LX} {res : Int32 × IX} (hf : fn_Post_thrower a1 a2 X = some res) : Met l zm_Post_thrower (zu_ws zm_Post_thrower zb_Post_thrower 4 (some .int)) zR_Post_thrower (va_Pc [.ref (ad 0), .int a1, .int a2] (zu_Pre D cA ad A X Y)) (zu_Qi D cA ad A res.1 res.2 Y) 0 0 A := by
  refine Met.ofW (cc := zb_Post_thrower) (maxL := 4) (ret := (some .int)) (by decide +kernel) rfl ?_
  intro p e s m args below meth c s₁ B0 hml hv
  obtain ⟨rfl, hP, hST⟩ := hv
  have B : zu_B p s m _ c zb_Post_thrower 4 "StonePost" D cA ad A := ⟨B0.exec, B0.bytes, hml, findClass_of_methodNamed B0.named, (fun w hw => atoms_spec (ws := zu_ws zm_Post_thrower zb_Post_thrower 4 (some .int)) B0.pre w (List.mem_cons_of_mem _ hw)), hST⟩
  have hl := lv_entry ([.ref (ad 0), .int a1, .int a2]) (n := 4) (Nat.le_of_ble_eq_true rfl)
  rw [lg_entry_eq]
  generalize (lg_sl ([.ref (ad 0), .int a1, .int a2]) ++ List.replicate (4 - (lg_sl ([.ref (ad 0), .int a1, .int a2])).length) Slot.unset).toArray = ls at hl ⊢
  exact zl_Post_thrower B B0.returns B0.notSynchronized s.heap [] ls hP va_S.rf hl  hf
theorem zw_Post_thrower {p : Program} {l : Launch} {e : Env} {R : Room} {s : State} {m : MethodId} {args : Array Value} {below : List Frame} {meth : Method} {c : Code} {H : Heap} {locs : List Loc} {cells slots : Nat} {Q : State → Prop} {cc : ByteArray} {pc nL : Nat} {ls : Array Slot} {rest st0 : List Value} {D : va_G} {cA : Nat → ClassId} {ad : Nat → Nat} {A : Nat → Prop} {X : IX} {Y : LX} {own : String} {index : Nat} {a1 : Int32} {a2 : Int32} {v1 : Int32} {X1 : IX} (B : zu_B p s m args c cc nL own D cA ad A) (hP : va_P D zu_cl (zu_pic cA ad X Y) H) (hS : va_S A s.heap H locs) (hq : fn_Post_thrower a1 a2 X = some (v1, X1)) (m1 : Cond.methodLink own index zm_Post_thrower ∈ zu_TB) (hR1 : 3 + 1 ≤ R.frames) (hR2 : 8 + (4 + 11) + 70 ≤ R.locals) (hsz : ls.size = nL) (hst : st0 = .int a2 :: .int a1 :: .ref (ad 0) :: rest) (hw : (rest.map fun v => v.category).sum ≤ 8) (hdg : decode cc pc = .ok (.invokevirtual index, 3)) (h00 : cells ≤ R.cells ∧ slots ≤ R.slots) (kk : ∀ (H1 : Heap) (locs1 : List Loc), va_P D zu_cl (zu_pic cA ad X1 Y) H1 → va_S A s.heap H1 locs1 → W p l e R s m args below meth c H1 locs1 cells slots Q (F0 m (pc + 3) ls (.int v1 :: rest))) : W p l e R s m args below meth c H locs cells slots Q (F0 m pc ls st0) := by
  subst hst
  exact zr_cVi (As := [.int a1, .int a2]) (rest := rest) (n := 2) (C := "StonePost") (T := zt_Post) (N := 8) B hP hS (zC_Post_thrower l  hq) (K := 1) rfl (by decide) (by decide) rfl rfl m1 zq_236 zq_237 zq_1 zq_238 (by decide +kernel) ⟨hR1, hR2⟩ rfl rfl rfl hsz rfl hw hdg h00 kk
abbrev zR_Post_isThrower : Room := { frames := 1, cells := 0, slots := 0, locals := 22 }
theorem zd_Post_isThrower_0 : decode zb_Post_isThrower 0 = .ok (.iload_n 1, 1) := by decide +kernel
theorem zd_Post_isThrower_1 : decode zb_Post_isThrower 1 = .ok (.iconst 0, 1) := by decide +kernel
theorem zd_Post_isThrower_2 : decode zb_Post_isThrower 2 = .ok (.aload_n 0, 1) := by decide +kernel
theorem zd_Post_isThrower_3 : decode zb_Post_isThrower 3 = .ok (.getfield 10, 3) := by decide +kernel
theorem zd_Post_isThrower_6 : decode zb_Post_isThrower 6 = .ok (.getfield 182, 3) := by decide +kernel
theorem zd_Post_isThrower_9 : decode zb_Post_isThrower 9 = .ok (.iconst 1, 1) := by decide +kernel
theorem zd_Post_isThrower_10 : decode zb_Post_isThrower 10 = .ok (.isub, 1) := by decide +kernel
theorem zd_Post_isThrower_11 : decode zb_Post_isThrower 11 = .ok (.invokestatic 51, 3) := by decide +kernel
theorem zd_Post_isThrower_14 : decode zb_Post_isThrower 14 = .ok (.ireturn, 1) := by decide +kernel
set_option maxHeartbeats 4000000 in
theorem zl_Post_isThrower {p : Program} {l : Launch} {e : Env} {s : State} {m : MethodId} {args : Array Value} {below : List Frame} {meth : Method} {c : Code} {D : va_G} {cA : Nat → ClassId} {ad : Nat → Nat} {A : Nat → Prop} (B : zu_B p s m args c zb_Post_isThrower 2 "StonePost" D cA ad A) (hret : meth.sig.returnType = (some .boolean)) (hlk : meth.locks = false) {X : IX} {Y : LX} {res : Int32} {a1 : Int32} (H : Heap) (locs : List Loc) (ls : Array Slot) (hP : va_P D zu_cl (zu_pic cA ad X Y) H) (hS : va_S A s.heap H locs) (hl : lv_has ls 2 [(0, .ref (ad 0)), (1, .int a1)]) (hf : fn_Post_isThrower X a1 = some res) : W p l e zR_Post_isThrower s m args below meth c H locs 0 0 (MQ below (zu_Qi D cA ad A res X Y) args s 0 0 A) (F0 m 0 ls []) := by
  obtain ⟨hx, hb, hml, hown, hts, hST⟩ := id B
  unfold fn_Post_isThrower at hf
  refine lv_iload_n hx hb zd_Post_isThrower_0 rfl (lv_at hl 1 rfl) ?_
  refine lv_iconst (v := 0) hx hb zd_Post_isThrower_1 (by decide) ?_
  refine lv_aload_n hx hb zd_Post_isThrower_2 rfl (lv_at hl 0 rfl) ?_
  refine zg_Post_land B hP rfl zq_191 zd_Post_isThrower_3 ?_
  refine zg_Land_throwerCount B hP rfl zq_63 zd_Post_isThrower_6 ?_
  refine lv_iconst (v := 1) hx hb zd_Post_isThrower_9 (by decide) ?_
  refine lv_isub hx hb zd_Post_isThrower_10 ?_
  obtain ⟨v1, hq2, hf⟩ := zu_b1_e hf
  refine zw_Post_isWithin (rest := []) B hP hS hq2 zq_223 (Nat.le_of_ble_eq_true rfl) (Nat.le_of_ble_eq_true rfl) hl.1 rfl (Nat.le_of_ble_eq_true rfl) zd_Post_isThrower_11 (by decide) (fun H locs hP hS => ?_)
  clear hq2
  obtain ⟨hg3, hf⟩ := zu_gd_e hf
  obtain rfl := Option.some.inj hf
  exact zr_zret hx hb hret hlk hP hS hg3 zd_Post_isThrower_14
theorem zC_Post_isThrower (l : Launch) {D : va_G} {cA : Nat → ClassId} {ad : Nat → Nat} {A : Nat → Prop} {a1 : Int32} {X : IX} {Y : LX} {res : Int32} (hf : fn_Post_isThrower X a1 = some res) : Met l zm_Post_isThrower (zu_ws zm_Post_isThrower zb_Post_isThrower 2 (some .boolean)) zR_Post_isThrower (va_Pc [.ref (ad 0), .int a1] (zu_Pre D cA ad A X Y)) (zu_Qi D cA ad A res X Y) 0 0 A := by
  refine Met.ofW (cc := zb_Post_isThrower) (maxL := 2) (ret := (some .boolean)) (by decide +kernel) rfl ?_
  intro p e s m args below meth c s₁ B0 hml hv
  obtain ⟨rfl, hP, hST⟩ := hv
  have B : zu_B p s m _ c zb_Post_isThrower 2 "StonePost" D cA ad A := ⟨B0.exec, B0.bytes, hml, findClass_of_methodNamed B0.named, (fun w hw => atoms_spec (ws := zu_ws zm_Post_isThrower zb_Post_isThrower 2 (some .boolean)) B0.pre w (List.mem_cons_of_mem _ hw)), hST⟩
  have hl := lv_entry ([.ref (ad 0), .int a1]) (n := 2) (Nat.le_of_ble_eq_true rfl)
  rw [lg_entry_eq]
  generalize (lg_sl ([.ref (ad 0), .int a1]) ++ List.replicate (2 - (lg_sl ([.ref (ad 0), .int a1])).length) Slot.unset).toArray = ls at hl ⊢
  exact zl_Post_isThrower B B0.returns B0.notSynchronized s.heap [] ls hP va_S.rf hl  hf
theorem zw_Post_isThrower {p : Program} {l : Launch} {e : Env} {R : Room} {s : State} {m : MethodId} {args : Array Value} {below : List Frame} {meth : Method} {c : Code} {H : Heap} {locs : List Loc} {cells slots : Nat} {Q : State → Prop} {cc : ByteArray} {pc nL : Nat} {ls : Array Slot} {rest st0 : List Value} {D : va_G} {cA : Nat → ClassId} {ad : Nat → Nat} {A : Nat → Prop} {X : IX} {Y : LX} {own : String} {index : Nat} {a1 : Int32} {v1 : Int32} (B : zu_B p s m args c cc nL own D cA ad A) (hP : va_P D zu_cl (zu_pic cA ad X Y) H) (hS : va_S A s.heap H locs) (hq : fn_Post_isThrower X a1 = some v1) (m1 : Cond.methodLink own index zm_Post_isThrower ∈ zu_TB) (hR1 : 1 + 1 ≤ R.frames) (hR2 : 8 + (2 + 11) + 22 ≤ R.locals) (hsz : ls.size = nL) (hst : st0 = .int a1 :: .ref (ad 0) :: rest) (hw : (rest.map fun v => v.category).sum ≤ 8) (hdg : decode cc pc = .ok (.invokevirtual index, 3)) (h00 : cells ≤ R.cells ∧ slots ≤ R.slots) (kk : ∀ (H1 : Heap) (locs1 : List Loc), va_P D zu_cl (zu_pic cA ad X Y) H1 → va_S A s.heap H1 locs1 → W p l e R s m args below meth c H1 locs1 cells slots Q (F0 m (pc + 3) ls (.int v1 :: rest))) : W p l e R s m args below meth c H locs cells slots Q (F0 m pc ls st0) := by
  subst hst
  exact zr_cVi (As := [.int a1]) (rest := rest) (n := 1) (C := "StonePost") (T := zt_Post) (N := 8) B hP hS (zC_Post_isThrower l  hq) (K := 1) rfl (by decide) (by decide) rfl rfl m1 zq_267 zqP_1 zq_1 zq_268 (by decide +kernel) ⟨hR1, hR2⟩ rfl rfl rfl hsz rfl hw hdg h00 kk
abbrev zR_Post_of : Room := { frames := 2, cells := 0, slots := 0, locals := 44 }
theorem zd_Post_of_0 : decode zb_Post_of 0 = .ok (.aload_n 0, 1) := by decide +kernel
theorem zd_Post_of_1 : decode zb_Post_of 1 = .ok (.iload_n 1, 1) := by decide +kernel
theorem zd_Post_of_2 : decode zb_Post_of 2 = .ok (.invokevirtual 82, 3) := by decide +kernel
theorem zd_Post_of_5 : decode zb_Post_of 5 = .ok (.ifCond .eq 13, 3) := by decide +kernel
theorem zd_Post_of_8 : decode zb_Post_of 8 = .ok (.iload_n 2, 1) := by decide +kernel
theorem zd_Post_of_9 : decode zb_Post_of 9 = .ok (.iconst 0, 1) := by decide +kernel
theorem zd_Post_of_10 : decode zb_Post_of 10 = .ok (.bipush 8, 2) := by decide +kernel
theorem zd_Post_of_12 : decode zb_Post_of 12 = .ok (.invokestatic 51, 3) := by decide +kernel
theorem zd_Post_of_15 : decode zb_Post_of 15 = .ok (.ifCond .ne 10, 3) := by decide +kernel
theorem zd_Post_of_18 : decode zb_Post_of 18 = .ok (.aload_n 0, 1) := by decide +kernel
theorem zd_Post_of_19 : decode zb_Post_of 19 = .ok (.ldc 55, 2) := by decide +kernel
theorem zd_Post_of_21 : decode zb_Post_of 21 = .ok (.invokevirtual 56, 3) := by decide +kernel
theorem zd_Post_of_24 : decode zb_Post_of 24 = .ok (.ireturn, 1) := by decide +kernel
theorem zd_Post_of_25 : decode zb_Post_of 25 = .ok (.aload_n 0, 1) := by decide +kernel
theorem zd_Post_of_26 : decode zb_Post_of 26 = .ok (.getfield 10, 3) := by decide +kernel
theorem zd_Post_of_29 : decode zb_Post_of 29 = .ok (.getfield 87, 3) := by decide +kernel
theorem zd_Post_of_32 : decode zb_Post_of 32 = .ok (.iload_n 1, 1) := by decide +kernel
theorem zd_Post_of_33 : decode zb_Post_of 33 = .ok (.aaload, 1) := by decide +kernel
theorem zd_Post_of_34 : decode zb_Post_of 34 = .ok (.getfield 91, 3) := by decide +kernel
theorem zd_Post_of_37 : decode zb_Post_of 37 = .ok (.iload_n 2, 1) := by decide +kernel
theorem zd_Post_of_38 : decode zb_Post_of 38 = .ok (.iaload, 1) := by decide +kernel
theorem zd_Post_of_39 : decode zb_Post_of 39 = .ok (.ireturn, 1) := by decide +kernel
set_option maxHeartbeats 4000000 in
theorem zl_Post_of_L18 {p : Program} {l : Launch} {e : Env} {s : State} {m : MethodId} {args : Array Value} {below : List Frame} {meth : Method} {c : Code} {D : va_G} {cA : Nat → ClassId} {ad : Nat → Nat} {A : Nat → Prop} (B : zu_B p s m args c zb_Post_of 3 "StonePost" D cA ad A) (hret : meth.sig.returnType = (some .int)) (hlk : meth.locks = false) {Y : LX} {res : Int32 × IX} (X : IX) (H : Heap) (locs : List Loc) (ls : Array Slot) (hP : va_P D zu_cl (zu_pic cA ad X Y) H) (hS : va_S A s.heap H locs) (hl : lv_has ls 3 [(0, .ref (ad 0))]) (hf : fn_Post_of_L18 X = some res) : W p l e zR_Post_of s m args below meth c H locs 0 0 (MQ below (zu_Qi D cA ad A res.1 res.2 Y) args s 0 0 A) (F0 m 18 ls []) := by
  obtain ⟨hx, hb, hml, hown, hts, hST⟩ := id B
  unfold fn_Post_of_L18 at hf
  refine lv_aload_n hx hb zd_Post_of_18 rfl (lv_at hl 0 rfl) ?_
  refine lv_ldc (v := -1000001) hx hb hown (hts _ zq_226) zd_Post_of_19 ?_
  obtain ⟨v9, X10, hq11, hf⟩ := zu_b2_e hf
  refine zw_Post_finding (rest := []) B hP hS hq11 zq_227 (Nat.le_of_ble_eq_true rfl) (Nat.le_of_ble_eq_true rfl) hl.1 rfl (Nat.le_of_ble_eq_true rfl) zd_Post_of_21 (by decide) (fun H locs hP hS => ?_)
  clear hq11
  obtain rfl := Option.some.inj hf
  exact zr_iret hx hb hret hlk hP hS zd_Post_of_24
set_option maxHeartbeats 4000000 in
theorem zl_Post_of {p : Program} {l : Launch} {e : Env} {s : State} {m : MethodId} {args : Array Value} {below : List Frame} {meth : Method} {c : Code} {D : va_G} {cA : Nat → ClassId} {ad : Nat → Nat} {A : Nat → Prop} (B : zu_B p s m args c zb_Post_of 3 "StonePost" D cA ad A) (hret : meth.sig.returnType = (some .int)) (hlk : meth.locks = false) {Y : LX} {res : Int32 × IX} {a1 : Int32} {a2 : Int32} {X : IX} (H : Heap) (locs : List Loc) (ls : Array Slot) (hP : va_P D zu_cl (zu_pic cA ad X Y) H) (hS : va_S A s.heap H locs) (hl : lv_has ls 3 [(0, .ref (ad 0)), (1, .int a1), (2, .int a2)]) (hf : fn_Post_of a1 a2 X = some res) : W p l e zR_Post_of s m args below meth c H locs 0 0 (MQ below (zu_Qi D cA ad A res.1 res.2 Y) args s 0 0 A) (F0 m 0 ls []) := by
  obtain ⟨hx, hb, hml, hown, hts, hST⟩ := id B
  unfold fn_Post_of at hf
  refine lv_aload_n hx hb zd_Post_of_0 rfl (lv_at hl 0 rfl) ?_
  refine lv_iload_n hx hb zd_Post_of_1 rfl (lv_at hl 1 rfl) ?_
  obtain ⟨v1, hq2, hf⟩ := zu_b1_e hf
  refine zw_Post_isThrower (rest := []) B hP hS hq2 zq_265 (Nat.le_of_ble_eq_true rfl) (Nat.le_of_ble_eq_true rfl) hl.1 rfl (Nat.le_of_ble_eq_true rfl) zd_Post_of_2 (by decide) (fun H locs hP hS => ?_)
  clear hq2
  refine lv_if_eq (tgt := 18) hx hb zd_Post_of_5 (by decide) (fun c3 => ?_) (fun c3 => ?_)
  · have hf := zu_t c3 hf
    exact zl_Post_of_L18 B hret hlk X _ _ _ hP hS (lv_sub hl [0] rfl) hf
  · have hf := zu_f c3 hf
    refine lv_iload_n hx hb zd_Post_of_8 rfl (lv_at hl 2 rfl) ?_
    refine lv_iconst (v := 0) hx hb zd_Post_of_9 (by decide) ?_
    refine lv_bipush (v := 8) hx hb zd_Post_of_10 (by decide) ?_
    obtain ⟨v4, hq5, hf⟩ := zu_b1_e hf
    refine zw_Post_isWithin (rest := []) B hP hS hq5 zq_223 (Nat.le_of_ble_eq_true rfl) (Nat.le_of_ble_eq_true rfl) hl.1 rfl (Nat.le_of_ble_eq_true rfl) zd_Post_of_12 (by decide) (fun H locs hP hS => ?_)
    clear hq5
    refine lv_if_ne (tgt := 25) hx hb zd_Post_of_15 (by decide) (fun c6 => ?_) (fun c6 => ?_)
    · have hf := zu_f c6 hf
      refine lv_aload_n hx hb zd_Post_of_25 rfl (lv_at hl 0 rfl) ?_
      refine zg_Post_land B hP rfl zq_191 zd_Post_of_26 ?_
      refine zg_Land_throwers B hP rfl zq_55 zd_Post_of_29 ?_
      refine lv_iload_n hx hb zd_Post_of_32 rfl (lv_at hl 1 rfl) ?_
      obtain ⟨hg7, hf⟩ := zu_gd_e hf
      refine zr_thr rfl B hP (zk_Land_throwers rfl) hg7 zd_Post_of_33 ?_
      refine zg_Thr_facts B hP (zk_thr (zk_Land_throwers rfl) (zu_ib_lt hg7)) zq_41 zd_Post_of_34 ?_
      refine lv_iload_n hx hb zd_Post_of_37 rfl (lv_at hl 2 rfl) ?_
      obtain ⟨hg8, hf⟩ := zu_gd_e hf
      refine zr_iald rfl B hP (zk_Thr_facts (zk_thr (zk_Land_throwers rfl) (zu_ib_lt hg7))) (by decide) rfl hg8 zd_Post_of_38 ?_
      obtain rfl := Option.some.inj hf
      exact zr_iret hx hb hret hlk hP hS zd_Post_of_39
    · have hf := zu_t c6 hf
      exact zl_Post_of_L18 B hret hlk X _ _ _ hP hS (lv_sub hl [0] rfl) hf
theorem zC_Post_of (l : Launch) {D : va_G} {cA : Nat → ClassId} {ad : Nat → Nat} {A : Nat → Prop} {a1 : Int32} {a2 : Int32} {X : IX} {Y : LX} {res : Int32 × IX} (hf : fn_Post_of a1 a2 X = some res) : Met l zm_Post_of (zu_ws zm_Post_of zb_Post_of 3 (some .int)) zR_Post_of (va_Pc [.ref (ad 0), .int a1, .int a2] (zu_Pre D cA ad A X Y)) (zu_Qi D cA ad A res.1 res.2 Y) 0 0 A := by
  refine Met.ofW (cc := zb_Post_of) (maxL := 3) (ret := (some .int)) (by decide +kernel) rfl ?_
  intro p e s m args below meth c s₁ B0 hml hv
  obtain ⟨rfl, hP, hST⟩ := hv
  have B : zu_B p s m _ c zb_Post_of 3 "StonePost" D cA ad A := ⟨B0.exec, B0.bytes, hml, findClass_of_methodNamed B0.named, (fun w hw => atoms_spec (ws := zu_ws zm_Post_of zb_Post_of 3 (some .int)) B0.pre w (List.mem_cons_of_mem _ hw)), hST⟩
  have hl := lv_entry ([.ref (ad 0), .int a1, .int a2]) (n := 3) (Nat.le_of_ble_eq_true rfl)
  rw [lg_entry_eq]
  generalize (lg_sl ([.ref (ad 0), .int a1, .int a2]) ++ List.replicate (3 - (lg_sl ([.ref (ad 0), .int a1, .int a2])).length) Slot.unset).toArray = ls at hl ⊢
  exact zl_Post_of B B0.returns B0.notSynchronized s.heap [] ls hP va_S.rf hl  hf
theorem zw_Post_of {p : Program} {l : Launch} {e : Env} {R : Room} {s : State} {m : MethodId} {args : Array Value} {below : List Frame} {meth : Method} {c : Code} {H : Heap} {locs : List Loc} {cells slots : Nat} {Q : State → Prop} {cc : ByteArray} {pc nL : Nat} {ls : Array Slot} {rest st0 : List Value} {D : va_G} {cA : Nat → ClassId} {ad : Nat → Nat} {A : Nat → Prop} {X : IX} {Y : LX} {own : String} {index : Nat} {a1 : Int32} {a2 : Int32} {v1 : Int32} {X1 : IX} (B : zu_B p s m args c cc nL own D cA ad A) (hP : va_P D zu_cl (zu_pic cA ad X Y) H) (hS : va_S A s.heap H locs) (hq : fn_Post_of a1 a2 X = some (v1, X1)) (m1 : Cond.methodLink own index zm_Post_of ∈ zu_TB) (hR1 : 2 + 1 ≤ R.frames) (hR2 : 8 + (3 + 11) + 44 ≤ R.locals) (hsz : ls.size = nL) (hst : st0 = .int a2 :: .int a1 :: .ref (ad 0) :: rest) (hw : (rest.map fun v => v.category).sum ≤ 8) (hdg : decode cc pc = .ok (.invokevirtual index, 3)) (h00 : cells ≤ R.cells ∧ slots ≤ R.slots) (kk : ∀ (H1 : Heap) (locs1 : List Loc), va_P D zu_cl (zu_pic cA ad X1 Y) H1 → va_S A s.heap H1 locs1 → W p l e R s m args below meth c H1 locs1 cells slots Q (F0 m (pc + 3) ls (.int v1 :: rest))) : W p l e R s m args below meth c H locs cells slots Q (F0 m pc ls st0) := by
  subst hst
  exact zr_cVi (As := [.int a1, .int a2]) (rest := rest) (n := 2) (C := "StonePost") (T := zt_Post) (N := 8) B hP hS (zC_Post_of l  hq) (K := 1) rfl (by decide) (by decide) rfl rfl m1 zq_262 zq_263 zq_1 zq_264 (by decide +kernel) ⟨hR1, hR2⟩ rfl rfl rfl hsz rfl hw hdg h00 kk
abbrev zR_Thr_canBecome : Room := { frames := 1, cells := 0, slots := 0, locals := 22 }
theorem zd_Thr_canBecome_0 : decode zb_Thr_canBecome 0 = .ok (.iload_n 0, 1) := by decide +kernel
theorem zd_Thr_canBecome_1 : decode zb_Thr_canBecome 1 = .ok (.iconst 0, 1) := by decide +kernel
theorem zd_Thr_canBecome_2 : decode zb_Thr_canBecome 2 = .ok (.bipush 8, 2) := by decide +kernel
theorem zd_Thr_canBecome_4 : decode zb_Thr_canBecome 4 = .ok (.invokestatic 15, 3) := by decide +kernel
theorem zd_Thr_canBecome_7 : decode zb_Thr_canBecome 7 = .ok (.ifCond .eq 24, 3) := by decide +kernel
theorem zd_Thr_canBecome_10 : decode zb_Thr_canBecome 10 = .ok (.iload_n 1, 1) := by decide +kernel
theorem zd_Thr_canBecome_11 : decode zb_Thr_canBecome 11 = .ok (.getstatic 19, 3) := by decide +kernel
theorem zd_Thr_canBecome_14 : decode zb_Thr_canBecome 14 = .ok (.iload_n 0, 1) := by decide +kernel
theorem zd_Thr_canBecome_15 : decode zb_Thr_canBecome 15 = .ok (.iaload, 1) := by decide +kernel
theorem zd_Thr_canBecome_16 : decode zb_Thr_canBecome 16 = .ok (.getstatic 22, 3) := by decide +kernel
theorem zd_Thr_canBecome_19 : decode zb_Thr_canBecome 19 = .ok (.iload_n 0, 1) := by decide +kernel
theorem zd_Thr_canBecome_20 : decode zb_Thr_canBecome 20 = .ok (.iaload, 1) := by decide +kernel
theorem zd_Thr_canBecome_21 : decode zb_Thr_canBecome 21 = .ok (.invokestatic 15, 3) := by decide +kernel
theorem zd_Thr_canBecome_24 : decode zb_Thr_canBecome 24 = .ok (.ifCond .eq 7, 3) := by decide +kernel
theorem zd_Thr_canBecome_27 : decode zb_Thr_canBecome 27 = .ok (.iconst 1, 1) := by decide +kernel
theorem zd_Thr_canBecome_28 : decode zb_Thr_canBecome 28 = .ok (.goto 4, 3) := by decide +kernel
theorem zd_Thr_canBecome_31 : decode zb_Thr_canBecome 31 = .ok (.iconst 0, 1) := by decide +kernel
theorem zd_Thr_canBecome_32 : decode zb_Thr_canBecome 32 = .ok (.ireturn, 1) := by decide +kernel
set_option maxHeartbeats 4000000 in
theorem zl_Thr_canBecome_L32 {p : Program} {l : Launch} {e : Env} {s : State} {m : MethodId} {args : Array Value} {below : List Frame} {meth : Method} {c : Code} {D : va_G} {cA : Nat → ClassId} {ad : Nat → Nat} {A : Nat → Prop} (B : zu_B p s m args c zb_Thr_canBecome 2 "StonePost$Thrower" D cA ad A) (hret : meth.sig.returnType = (some .boolean)) (hlk : meth.locks = false) {X : IX} {Y : LX} {res : Int32} (y0 : Int32) (H : Heap) (locs : List Loc) (ls : Array Slot) (hP : va_P D zu_cl (zu_pic cA ad X Y) H) (hS : va_S A s.heap H locs) (hl : lv_has ls 2 []) (hf : fn_Thr_canBecome_L32 y0 = some res) : W p l e zR_Thr_canBecome s m args below meth c H locs 0 0 (MQ below (zu_Qi D cA ad A res X Y) args s 0 0 A) (F0 m 32 ls [.int y0]) := by
  obtain ⟨hx, hb, hml, hown, hts, hST⟩ := id B
  unfold fn_Thr_canBecome_L32 at hf
  obtain ⟨hg9, hf⟩ := zu_gd_e hf
  obtain rfl := Option.some.inj hf
  exact zr_zret hx hb hret hlk hP hS hg9 zd_Thr_canBecome_32
set_option maxHeartbeats 4000000 in
theorem zl_Thr_canBecome_L31 {p : Program} {l : Launch} {e : Env} {s : State} {m : MethodId} {args : Array Value} {below : List Frame} {meth : Method} {c : Code} {D : va_G} {cA : Nat → ClassId} {ad : Nat → Nat} {A : Nat → Prop} (B : zu_B p s m args c zb_Thr_canBecome 2 "StonePost$Thrower" D cA ad A) (hret : meth.sig.returnType = (some .boolean)) (hlk : meth.locks = false) {X : IX} {Y : LX} {res : Int32} (H : Heap) (locs : List Loc) (ls : Array Slot) (hP : va_P D zu_cl (zu_pic cA ad X Y) H) (hS : va_S A s.heap H locs) (hl : lv_has ls 2 []) (hf : fn_Thr_canBecome_L31 = some res) : W p l e zR_Thr_canBecome s m args below meth c H locs 0 0 (MQ below (zu_Qi D cA ad A res X Y) args s 0 0 A) (F0 m 31 ls []) := by
  obtain ⟨hx, hb, hml, hown, hts, hST⟩ := id B
  unfold fn_Thr_canBecome_L31 at hf
  refine lv_iconst (v := 0) hx hb zd_Thr_canBecome_31 (by decide) ?_
  exact zl_Thr_canBecome_L32 B hret hlk (0 : Int32) _ _ _ hP hS (lv_sub hl [] rfl) hf
set_option maxHeartbeats 4000000 in
theorem zl_Thr_canBecome {p : Program} {l : Launch} {e : Env} {s : State} {m : MethodId} {args : Array Value} {below : List Frame} {meth : Method} {c : Code} {D : va_G} {cA : Nat → ClassId} {ad : Nat → Nat} {A : Nat → Prop} (B : zu_B p s m args c zb_Thr_canBecome 2 "StonePost$Thrower" D cA ad A) (hret : meth.sig.returnType = (some .boolean)) (hlk : meth.locks = false) {X : IX} {Y : LX} {res : Int32} {a0 : Int32} {a1 : Int32} (H : Heap) (locs : List Loc) (ls : Array Slot) (hP : va_P D zu_cl (zu_pic cA ad X Y) H) (hS : va_S A s.heap H locs) (hl : lv_has ls 2 [(0, .int a0), (1, .int a1)]) (hf : fn_Thr_canBecome a0 a1 = some res) : W p l e zR_Thr_canBecome s m args below meth c H locs 0 0 (MQ below (zu_Qi D cA ad A res X Y) args s 0 0 A) (F0 m 0 ls []) := by
  obtain ⟨hx, hb, hml, hown, hts, hST⟩ := id B
  unfold fn_Thr_canBecome at hf
  refine lv_iload_n hx hb zd_Thr_canBecome_0 rfl (lv_at hl 0 rfl) ?_
  refine lv_iconst (v := 0) hx hb zd_Thr_canBecome_1 (by decide) ?_
  refine lv_bipush (v := 8) hx hb zd_Thr_canBecome_2 (by decide) ?_
  obtain ⟨v1, hq2, hf⟩ := zu_b1_e hf
  refine zwN_Post_isWithin (rest := []) B hP hS hq2 (hST.2.2.2.2.2.2.2.2.2.1) (Nat.le_of_ble_eq_true rfl) (Nat.le_of_ble_eq_true rfl) hl.1 rfl (Nat.le_of_ble_eq_true rfl) zd_Thr_canBecome_4 (by decide) (fun H locs hP hS => ?_)
  clear hq2
  refine lv_if_eq (tgt := 31) hx hb zd_Thr_canBecome_7 (by decide) (fun c3 => ?_) (fun c3 => ?_)
  · have hf := zu_t c3 hf
    exact zl_Thr_canBecome_L31 B hret hlk _ _ _ hP hS (lv_sub hl [] rfl) hf
  · have hf := zu_f c3 hf
    refine lv_iload_n hx hb zd_Thr_canBecome_10 rfl (lv_at hl 1 rfl) ?_
    refine va_gets hx hb (hST.2.2.1.2.2.1) hS hown (hts _ zq_277) (fun _ h9 => h9) zd_Thr_canBecome_11 ?_
    refine lv_iload_n hx hb zd_Thr_canBecome_14 rfl (lv_at hl 0 rfl) ?_
    obtain ⟨hg4, hf⟩ := zu_gd_e hf
    refine va_ti hx hb (hST.2.2.1.2.2.2.1) hS (zu_ib_in hg4) rfl zd_Thr_canBecome_15 ?_
    refine va_gets hx hb (hST.2.2.1.2.2.2.2.1) hS hown (hts _ zq_279) (fun _ h9 => h9) zd_Thr_canBecome_16 ?_
    refine lv_iload_n hx hb zd_Thr_canBecome_19 rfl (lv_at hl 0 rfl) ?_
    obtain ⟨hg5, hf⟩ := zu_gd_e hf
    refine va_ti hx hb (hST.2.2.1.2.2.2.2.2.1) hS (zu_ib_in hg5) rfl zd_Thr_canBecome_20 ?_
    obtain ⟨v6, hq7, hf⟩ := zu_b1_e hf
    refine zwN_Post_isWithin (rest := []) B hP hS hq7 (hST.2.2.2.2.2.2.2.2.2.1) (Nat.le_of_ble_eq_true rfl) (Nat.le_of_ble_eq_true rfl) hl.1 rfl (Nat.le_of_ble_eq_true rfl) zd_Thr_canBecome_21 (by decide) (fun H locs hP hS => ?_)
    clear hq7
    refine lv_if_eq (tgt := 31) hx hb zd_Thr_canBecome_24 (by decide) (fun c8 => ?_) (fun c8 => ?_)
    · have hf := zu_t c8 hf
      exact zl_Thr_canBecome_L31 B hret hlk _ _ _ hP hS (lv_sub hl [] rfl) hf
    · have hf := zu_f c8 hf
      refine lv_iconst (v := 1) hx hb zd_Thr_canBecome_27 (by decide) ?_
      refine lv_goto (tgt := 32) hx hb zd_Thr_canBecome_28 (by decide) ?_
      exact zl_Thr_canBecome_L32 B hret hlk (1 : Int32) _ _ _ hP hS (lv_sub hl [] rfl) hf
theorem zC_Thr_canBecome (l : Launch) {D : va_G} {cA : Nat → ClassId} {ad : Nat → Nat} {A : Nat → Prop} {a0 : Int32} {a1 : Int32} {X : IX} {Y : LX} {res : Int32} (hf : fn_Thr_canBecome a0 a1 = some res) : Met l zm_Thr_canBecome (zu_ws zm_Thr_canBecome zb_Thr_canBecome 2 (some .boolean)) zR_Thr_canBecome (va_Pc [.int a0, .int a1] (zu_Pre D cA ad A X Y)) (zu_Qi D cA ad A res X Y) 0 0 A := by
  refine Met.ofW (cc := zb_Thr_canBecome) (maxL := 2) (ret := (some .boolean)) (by decide +kernel) rfl ?_
  intro p e s m args below meth c s₁ B0 hml hv
  obtain ⟨rfl, hP, hST⟩ := hv
  have B : zu_B p s m _ c zb_Thr_canBecome 2 "StonePost$Thrower" D cA ad A := ⟨B0.exec, B0.bytes, hml, findClass_of_methodNamed B0.named, (fun w hw => atoms_spec (ws := zu_ws zm_Thr_canBecome zb_Thr_canBecome 2 (some .boolean)) B0.pre w (List.mem_cons_of_mem _ hw)), hST⟩
  have hl := lv_entry ([.int a0, .int a1]) (n := 2) (Nat.le_of_ble_eq_true rfl)
  rw [lg_entry_eq]
  generalize (lg_sl ([.int a0, .int a1]) ++ List.replicate (2 - (lg_sl ([.int a0, .int a1])).length) Slot.unset).toArray = ls at hl ⊢
  exact zl_Thr_canBecome B B0.returns B0.notSynchronized s.heap [] ls hP va_S.rf hl  hf
theorem zw_Thr_canBecome {p : Program} {l : Launch} {e : Env} {R : Room} {s : State} {m : MethodId} {args : Array Value} {below : List Frame} {meth : Method} {c : Code} {H : Heap} {locs : List Loc} {cells slots : Nat} {Q : State → Prop} {cc : ByteArray} {pc nL : Nat} {ls : Array Slot} {rest st0 : List Value} {D : va_G} {cA : Nat → ClassId} {ad : Nat → Nat} {A : Nat → Prop} {X : IX} {Y : LX} {own : String} {index : Nat} {a0 : Int32} {a1 : Int32} {v1 : Int32} (B : zu_B p s m args c cc nL own D cA ad A) (hP : va_P D zu_cl (zu_pic cA ad X Y) H) (hS : va_S A s.heap H locs) (hq : fn_Thr_canBecome a0 a1 = some v1) (m1 : Cond.methodLink own index zm_Thr_canBecome ∈ zu_TB) (hR1 : 1 + 1 ≤ R.frames) (hR2 : 8 + (2 + 11) + 22 ≤ R.locals) (hsz : ls.size = nL) (hst : st0 = .int a1 :: .int a0 ::  rest) (hw : (rest.map fun v => v.category).sum ≤ 8) (hdg : decode cc pc = .ok (.invokestatic index, 3)) (h00 : cells ≤ R.cells ∧ slots ≤ R.slots) (kk : ∀ (H1 : Heap) (locs1 : List Loc), va_P D zu_cl (zu_pic cA ad X Y) H1 → va_S A s.heap H1 locs1 → W p l e R s m args below meth c H1 locs1 cells slots Q (F0 m (pc + 3) ls (.int v1 :: rest))) : W p l e R s m args below meth c H locs cells slots Q (F0 m pc ls st0) := by
  subst hst
  exact zr_cSi (As := [.int a0, .int a1]) (rest := rest) (n := 2) B hP hS (zC_Thr_canBecome l  hq) m1 zq_274 zq_3 zq_275 (by decide +kernel) ⟨hR1, hR2⟩ rfl rfl rfl hsz rfl hw hdg h00 kk
abbrev zR_Post_change : Room := { frames := 2, cells := 0, slots := 0, locals := 44 }
theorem zd_Post_change_0 : decode zb_Post_change 0 = .ok (.aload_n 0, 1) := by decide +kernel
theorem zd_Post_change_1 : decode zb_Post_change 1 = .ok (.iload_n 1, 1) := by decide +kernel
theorem zd_Post_change_2 : decode zb_Post_change 2 = .ok (.invokevirtual 82, 3) := by decide +kernel
theorem zd_Post_change_5 : decode zb_Post_change 5 = .ok (.ifCond .eq 11, 3) := by decide +kernel
theorem zd_Post_change_8 : decode zb_Post_change 8 = .ok (.iload_n 2, 1) := by decide +kernel
theorem zd_Post_change_9 : decode zb_Post_change 9 = .ok (.iload_n 3, 1) := by decide +kernel
theorem zd_Post_change_10 : decode zb_Post_change 10 = .ok (.invokestatic 94, 3) := by decide +kernel
theorem zd_Post_change_13 : decode zb_Post_change 13 = .ok (.ifCond .ne 10, 3) := by decide +kernel
theorem zd_Post_change_16 : decode zb_Post_change 16 = .ok (.aload_n 0, 1) := by decide +kernel
theorem zd_Post_change_17 : decode zb_Post_change 17 = .ok (.ldc 55, 2) := by decide +kernel
theorem zd_Post_change_19 : decode zb_Post_change 19 = .ok (.invokevirtual 56, 3) := by decide +kernel
theorem zd_Post_change_22 : decode zb_Post_change 22 = .ok (.ireturn, 1) := by decide +kernel
theorem zd_Post_change_23 : decode zb_Post_change 23 = .ok (.aload_n 0, 1) := by decide +kernel
theorem zd_Post_change_24 : decode zb_Post_change 24 = .ok (.getfield 10, 3) := by decide +kernel
theorem zd_Post_change_27 : decode zb_Post_change 27 = .ok (.getfield 87, 3) := by decide +kernel
theorem zd_Post_change_30 : decode zb_Post_change 30 = .ok (.iload_n 1, 1) := by decide +kernel
theorem zd_Post_change_31 : decode zb_Post_change 31 = .ok (.aaload, 1) := by decide +kernel
theorem zd_Post_change_32 : decode zb_Post_change 32 = .ok (.getfield 91, 3) := by decide +kernel
theorem zd_Post_change_35 : decode zb_Post_change 35 = .ok (.astore 4, 2) := by decide +kernel
theorem zd_Post_change_37 : decode zb_Post_change 37 = .ok (.aload 4, 2) := by decide +kernel
theorem zd_Post_change_39 : decode zb_Post_change 39 = .ok (.iload_n 2, 1) := by decide +kernel
theorem zd_Post_change_40 : decode zb_Post_change 40 = .ok (.iaload, 1) := by decide +kernel
theorem zd_Post_change_41 : decode zb_Post_change 41 = .ok (.istore 5, 2) := by decide +kernel
theorem zd_Post_change_43 : decode zb_Post_change 43 = .ok (.aload 4, 2) := by decide +kernel
theorem zd_Post_change_45 : decode zb_Post_change 45 = .ok (.iload_n 2, 1) := by decide +kernel
theorem zd_Post_change_46 : decode zb_Post_change 46 = .ok (.iload_n 3, 1) := by decide +kernel
theorem zd_Post_change_47 : decode zb_Post_change 47 = .ok (.iastore, 1) := by decide +kernel
theorem zd_Post_change_48 : decode zb_Post_change 48 = .ok (.iload 5, 2) := by decide +kernel
theorem zd_Post_change_50 : decode zb_Post_change 50 = .ok (.ireturn, 1) := by decide +kernel
set_option maxHeartbeats 4000000 in
theorem zl_Post_change_L16 {p : Program} {l : Launch} {e : Env} {s : State} {m : MethodId} {args : Array Value} {below : List Frame} {meth : Method} {c : Code} {D : va_G} {cA : Nat → ClassId} {ad : Nat → Nat} {A : Nat → Prop} (B : zu_B p s m args c zb_Post_change 6 "StonePost" D cA ad A) (hret : meth.sig.returnType = (some .int)) (hlk : meth.locks = false) {Y : LX} {res : Int32 × IX} (X : IX) (H : Heap) (locs : List Loc) (ls : Array Slot) (hP : va_P D zu_cl (zu_pic cA ad X Y) H) (hS : va_S A s.heap H locs) (hl : lv_has ls 6 [(0, .ref (ad 0))]) (hf : fn_Post_change_L16 X = some res) : W p l e zR_Post_change s m args below meth c H locs 0 0 (MQ below (zu_Qi D cA ad A res.1 res.2 Y) args s 0 0 A) (F0 m 16 ls []) := by
  obtain ⟨hx, hb, hml, hown, hts, hST⟩ := id B
  unfold fn_Post_change_L16 at hf
  refine lv_aload_n hx hb zd_Post_change_16 rfl (lv_at hl 0 rfl) ?_
  refine lv_ldc (v := -1000001) hx hb hown (hts _ zq_226) zd_Post_change_17 ?_
  obtain ⟨v12, X13, hq14, hf⟩ := zu_b2_e hf
  refine zw_Post_finding (rest := []) B hP hS hq14 zq_227 (Nat.le_of_ble_eq_true rfl) (Nat.le_of_ble_eq_true rfl) hl.1 rfl (Nat.le_of_ble_eq_true rfl) zd_Post_change_19 (by decide) (fun H locs hP hS => ?_)
  clear hq14
  obtain rfl := Option.some.inj hf
  exact zr_iret hx hb hret hlk hP hS zd_Post_change_22
set_option maxHeartbeats 4000000 in
theorem zl_Post_change {p : Program} {l : Launch} {e : Env} {s : State} {m : MethodId} {args : Array Value} {below : List Frame} {meth : Method} {c : Code} {D : va_G} {cA : Nat → ClassId} {ad : Nat → Nat} {A : Nat → Prop} (B : zu_B p s m args c zb_Post_change 6 "StonePost" D cA ad A) (hret : meth.sig.returnType = (some .int)) (hlk : meth.locks = false) {Y : LX} {res : Int32 × IX} {a1 : Int32} {a2 : Int32} {a3 : Int32} {X : IX} (H : Heap) (locs : List Loc) (ls : Array Slot) (hP : va_P D zu_cl (zu_pic cA ad X Y) H) (hS : va_S A s.heap H locs) (hl : lv_has ls 6 [(0, .ref (ad 0)), (1, .int a1), (2, .int a2), (3, .int a3)]) (hf : fn_Post_change a1 a2 a3 X = some res) : W p l e zR_Post_change s m args below meth c H locs 0 0 (MQ below (zu_Qi D cA ad A res.1 res.2 Y) args s 0 0 A) (F0 m 0 ls []) := by
  obtain ⟨hx, hb, hml, hown, hts, hST⟩ := id B
  unfold fn_Post_change at hf
  refine lv_aload_n hx hb zd_Post_change_0 rfl (lv_at hl 0 rfl) ?_
  refine lv_iload_n hx hb zd_Post_change_1 rfl (lv_at hl 1 rfl) ?_
  obtain ⟨v1, hq2, hf⟩ := zu_b1_e hf
  refine zw_Post_isThrower (rest := []) B hP hS hq2 zq_265 (Nat.le_of_ble_eq_true rfl) (Nat.le_of_ble_eq_true rfl) hl.1 rfl (Nat.le_of_ble_eq_true rfl) zd_Post_change_2 (by decide) (fun H locs hP hS => ?_)
  clear hq2
  refine lv_if_eq (tgt := 16) hx hb zd_Post_change_5 (by decide) (fun c3 => ?_) (fun c3 => ?_)
  · have hf := zu_t c3 hf
    exact zl_Post_change_L16 B hret hlk X _ _ _ hP hS (lv_sub hl [0] rfl) hf
  · have hf := zu_f c3 hf
    refine lv_iload_n hx hb zd_Post_change_8 rfl (lv_at hl 2 rfl) ?_
    refine lv_iload_n hx hb zd_Post_change_9 rfl (lv_at hl 3 rfl) ?_
    obtain ⟨v4, hq5, hf⟩ := zu_b1_e hf
    refine zw_Thr_canBecome (rest := []) B hP hS hq5 zq_273 (Nat.le_of_ble_eq_true rfl) (Nat.le_of_ble_eq_true rfl) hl.1 rfl (Nat.le_of_ble_eq_true rfl) zd_Post_change_10 (by decide) (fun H locs hP hS => ?_)
    clear hq5
    refine lv_if_ne (tgt := 23) hx hb zd_Post_change_13 (by decide) (fun c6 => ?_) (fun c6 => ?_)
    · have hf := zu_f c6 hf
      refine lv_aload_n hx hb zd_Post_change_23 rfl (lv_at hl 0 rfl) ?_
      refine zg_Post_land B hP rfl zq_191 zd_Post_change_24 ?_
      refine zg_Land_throwers B hP rfl zq_55 zd_Post_change_27 ?_
      refine lv_iload_n hx hb zd_Post_change_30 rfl (lv_at hl 1 rfl) ?_
      obtain ⟨hg7, hf⟩ := zu_gd_e hf
      refine zr_thr rfl B hP (zk_Land_throwers rfl) hg7 zd_Post_change_31 ?_
      refine zg_Thr_facts B hP (zk_thr (zk_Land_throwers rfl) (zu_ib_lt hg7)) zq_41 zd_Post_change_32 ?_
      refine lv_astore (lv' := [(4, .ref (ad ((zu_th (20 + 6) (a1.toNatClampNeg)) + 30))), (0, .ref (ad 0)), (1, .int a1), (2, .int a2), (3, .int a3)]) hx hb zd_Post_change_35 hl (by decide) rfl (fun ls hl => ?_)
      refine lv_aload hx hb zd_Post_change_37 (lv_at hl 0 rfl) ?_
      refine lv_iload_n hx hb zd_Post_change_39 rfl (lv_at hl 3 rfl) ?_
      obtain ⟨hg8, hf⟩ := zu_gd_e hf
      refine zr_iald rfl B hP (zk_Thr_facts (zk_thr (zk_Land_throwers rfl) (zu_ib_lt hg7))) (by decide) rfl hg8 zd_Post_change_40 ?_
      refine zr_nxi hf (fun v9 hf => ?_)
      refine lv_istore (lv' := [(5, .int v9), (4, .ref (ad ((zu_th (20 + 6) (a1.toNatClampNeg)) + 30))), (0, .ref (ad 0)), (1, .int a1), (2, .int a2), (3, .int a3)]) hx hb zd_Post_change_41 hl (by decide) rfl (fun ls hl => ?_)
      refine lv_aload hx hb zd_Post_change_43 (lv_at hl 1 rfl) ?_
      refine lv_iload_n hx hb zd_Post_change_45 rfl (lv_at hl 4 rfl) ?_
      refine lv_iload_n hx hb zd_Post_change_46 rfl (lv_at hl 5 rfl) ?_
      obtain ⟨hg10, hf⟩ := zu_gd_e hf
      refine zr_iast rfl B hP hS hf (zk_Thr_facts (zk_thr (zk_Land_throwers rfl) (zu_ib_lt hg7))) (by decide) rfl hg10 zd_Post_change_47 (fun X11 H locs hf hP hS => ?_)
      refine lv_iload hx hb zd_Post_change_48 (lv_at hl 0 rfl) ?_
      obtain rfl := Option.some.inj hf
      exact zr_iret hx hb hret hlk hP hS zd_Post_change_50
    · have hf := zu_t c6 hf
      exact zl_Post_change_L16 B hret hlk X _ _ _ hP hS (lv_sub hl [0] rfl) hf
theorem zC_Post_change (l : Launch) {D : va_G} {cA : Nat → ClassId} {ad : Nat → Nat} {A : Nat → Prop} {a1 : Int32} {a2 : Int32} {a3 : Int32} {X : IX} {Y : LX} {res : Int32 × IX} (hf : fn_Post_change a1 a2 a3 X = some res) : Met l zm_Post_change (zu_ws zm_Post_change zb_Post_change 6 (some .int)) zR_Post_change (va_Pc [.ref (ad 0), .int a1, .int a2, .int a3] (zu_Pre D cA ad A X Y)) (zu_Qi D cA ad A res.1 res.2 Y) 0 0 A := by
  refine Met.ofW (cc := zb_Post_change) (maxL := 6) (ret := (some .int)) (by decide +kernel) rfl ?_
  intro p e s m args below meth c s₁ B0 hml hv
  obtain ⟨rfl, hP, hST⟩ := hv
  have B : zu_B p s m _ c zb_Post_change 6 "StonePost" D cA ad A := ⟨B0.exec, B0.bytes, hml, findClass_of_methodNamed B0.named, (fun w hw => atoms_spec (ws := zu_ws zm_Post_change zb_Post_change 6 (some .int)) B0.pre w (List.mem_cons_of_mem _ hw)), hST⟩
  have hl := lv_entry ([.ref (ad 0), .int a1, .int a2, .int a3]) (n := 6) (Nat.le_of_ble_eq_true rfl)
  rw [lg_entry_eq]
  generalize (lg_sl ([.ref (ad 0), .int a1, .int a2, .int a3]) ++ List.replicate (6 - (lg_sl ([.ref (ad 0), .int a1, .int a2, .int a3])).length) Slot.unset).toArray = ls at hl ⊢
  exact zl_Post_change B B0.returns B0.notSynchronized s.heap [] ls hP va_S.rf hl  hf
theorem zw_Post_change {p : Program} {l : Launch} {e : Env} {R : Room} {s : State} {m : MethodId} {args : Array Value} {below : List Frame} {meth : Method} {c : Code} {H : Heap} {locs : List Loc} {cells slots : Nat} {Q : State → Prop} {cc : ByteArray} {pc nL : Nat} {ls : Array Slot} {rest st0 : List Value} {D : va_G} {cA : Nat → ClassId} {ad : Nat → Nat} {A : Nat → Prop} {X : IX} {Y : LX} {own : String} {index : Nat} {a1 : Int32} {a2 : Int32} {a3 : Int32} {v1 : Int32} {X1 : IX} (B : zu_B p s m args c cc nL own D cA ad A) (hP : va_P D zu_cl (zu_pic cA ad X Y) H) (hS : va_S A s.heap H locs) (hq : fn_Post_change a1 a2 a3 X = some (v1, X1)) (m1 : Cond.methodLink own index zm_Post_change ∈ zu_TB) (hR1 : 2 + 1 ≤ R.frames) (hR2 : 8 + (6 + 11) + 44 ≤ R.locals) (hsz : ls.size = nL) (hst : st0 = .int a3 :: .int a2 :: .int a1 :: .ref (ad 0) :: rest) (hw : (rest.map fun v => v.category).sum ≤ 8) (hdg : decode cc pc = .ok (.invokevirtual index, 3)) (h00 : cells ≤ R.cells ∧ slots ≤ R.slots) (kk : ∀ (H1 : Heap) (locs1 : List Loc), va_P D zu_cl (zu_pic cA ad X1 Y) H1 → va_S A s.heap H1 locs1 → W p l e R s m args below meth c H1 locs1 cells slots Q (F0 m (pc + 3) ls (.int v1 :: rest))) : W p l e R s m args below meth c H locs cells slots Q (F0 m pc ls st0) := by
  subst hst
  exact zr_cVi (As := [.int a1, .int a2, .int a3]) (rest := rest) (n := 3) (C := "StonePost") (T := zt_Post) (N := 8) B hP hS (zC_Post_change l  hq) (K := 1) rfl (by decide) (by decide) rfl rfl m1 zq_270 zq_271 zq_1 zq_272 (by decide +kernel) ⟨hR1, hR2⟩ rfl rfl rfl hsz rfl hw hdg h00 kk
abbrev zR_Post_walk : Room := { frames := 2, cells := 0, slots := 0, locals := 44 }
theorem zd_Post_walk_0 : decode zb_Post_walk 0 = .ok (.aload_n 0, 1) := by decide +kernel
theorem zd_Post_walk_1 : decode zb_Post_walk 1 = .ok (.iload_n 1, 1) := by decide +kernel
theorem zd_Post_walk_2 : decode zb_Post_walk 2 = .ok (.invokevirtual 82, 3) := by decide +kernel
theorem zd_Post_walk_5 : decode zb_Post_walk 5 = .ok (.ifCond .eq 10, 3) := by decide +kernel
theorem zd_Post_walk_8 : decode zb_Post_walk 8 = .ok (.iload_n 2, 1) := by decide +kernel
theorem zd_Post_walk_9 : decode zb_Post_walk 9 = .ok (.invokestatic 47, 3) := by decide +kernel
theorem zd_Post_walk_12 : decode zb_Post_walk 12 = .ok (.ifCond .ne 10, 3) := by decide +kernel
theorem zd_Post_walk_15 : decode zb_Post_walk 15 = .ok (.aload_n 0, 1) := by decide +kernel
theorem zd_Post_walk_16 : decode zb_Post_walk 16 = .ok (.ldc 55, 2) := by decide +kernel
theorem zd_Post_walk_18 : decode zb_Post_walk 18 = .ok (.invokevirtual 56, 3) := by decide +kernel
theorem zd_Post_walk_21 : decode zb_Post_walk 21 = .ok (.ireturn, 1) := by decide +kernel
theorem zd_Post_walk_22 : decode zb_Post_walk 22 = .ok (.aload_n 0, 1) := by decide +kernel
theorem zd_Post_walk_23 : decode zb_Post_walk 23 = .ok (.getfield 10, 3) := by decide +kernel
theorem zd_Post_walk_26 : decode zb_Post_walk 26 = .ok (.iload_n 2, 1) := by decide +kernel
theorem zd_Post_walk_27 : decode zb_Post_walk 27 = .ok (.invokevirtual 73, 3) := by decide +kernel
theorem zd_Post_walk_30 : decode zb_Post_walk 30 = .ok (.istore_n 3, 1) := by decide +kernel
theorem zd_Post_walk_31 : decode zb_Post_walk 31 = .ok (.iload_n 3, 1) := by decide +kernel
theorem zd_Post_walk_32 : decode zb_Post_walk 32 = .ok (.iconst (-1), 1) := by decide +kernel
theorem zd_Post_walk_33 : decode zb_Post_walk 33 = .ok (.if_icmp .eq 15, 3) := by decide +kernel
theorem zd_Post_walk_36 : decode zb_Post_walk 36 = .ok (.iload_n 3, 1) := by decide +kernel
theorem zd_Post_walk_37 : decode zb_Post_walk 37 = .ok (.iload_n 1, 1) := by decide +kernel
theorem zd_Post_walk_38 : decode zb_Post_walk 38 = .ok (.if_icmp .eq 10, 3) := by decide +kernel
theorem zd_Post_walk_41 : decode zb_Post_walk 41 = .ok (.aload_n 0, 1) := by decide +kernel
theorem zd_Post_walk_42 : decode zb_Post_walk 42 = .ok (.ldc 76, 2) := by decide +kernel
theorem zd_Post_walk_44 : decode zb_Post_walk 44 = .ok (.invokevirtual 56, 3) := by decide +kernel
theorem zd_Post_walk_47 : decode zb_Post_walk 47 = .ok (.ireturn, 1) := by decide +kernel
theorem zd_Post_walk_48 : decode zb_Post_walk 48 = .ok (.aload_n 0, 1) := by decide +kernel
theorem zd_Post_walk_49 : decode zb_Post_walk 49 = .ok (.getfield 10, 3) := by decide +kernel
theorem zd_Post_walk_52 : decode zb_Post_walk 52 = .ok (.getfield 87, 3) := by decide +kernel
theorem zd_Post_walk_55 : decode zb_Post_walk 55 = .ok (.iload_n 1, 1) := by decide +kernel
theorem zd_Post_walk_56 : decode zb_Post_walk 56 = .ok (.aaload, 1) := by decide +kernel
theorem zd_Post_walk_57 : decode zb_Post_walk 57 = .ok (.getfield 91, 3) := by decide +kernel
theorem zd_Post_walk_60 : decode zb_Post_walk 60 = .ok (.astore 4, 2) := by decide +kernel
theorem zd_Post_walk_62 : decode zb_Post_walk 62 = .ok (.aload 4, 2) := by decide +kernel
theorem zd_Post_walk_64 : decode zb_Post_walk 64 = .ok (.iconst 1, 1) := by decide +kernel
theorem zd_Post_walk_65 : decode zb_Post_walk 65 = .ok (.iaload, 1) := by decide +kernel
theorem zd_Post_walk_66 : decode zb_Post_walk 66 = .ok (.istore 5, 2) := by decide +kernel
theorem zd_Post_walk_68 : decode zb_Post_walk 68 = .ok (.aload 4, 2) := by decide +kernel
theorem zd_Post_walk_70 : decode zb_Post_walk 70 = .ok (.iconst 1, 1) := by decide +kernel
theorem zd_Post_walk_71 : decode zb_Post_walk 71 = .ok (.iload_n 2, 1) := by decide +kernel
theorem zd_Post_walk_72 : decode zb_Post_walk 72 = .ok (.iastore, 1) := by decide +kernel
theorem zd_Post_walk_73 : decode zb_Post_walk 73 = .ok (.iload 5, 2) := by decide +kernel
theorem zd_Post_walk_75 : decode zb_Post_walk 75 = .ok (.ireturn, 1) := by decide +kernel
set_option maxHeartbeats 4000000 in
theorem zl_Post_walk_L48 {p : Program} {l : Launch} {e : Env} {s : State} {m : MethodId} {args : Array Value} {below : List Frame} {meth : Method} {c : Code} {D : va_G} {cA : Nat → ClassId} {ad : Nat → Nat} {A : Nat → Prop} (B : zu_B p s m args c zb_Post_walk 6 "StonePost" D cA ad A) (hret : meth.sig.returnType = (some .int)) (hlk : meth.locks = false) {Y : LX} {res : Int32 × IX} (x1 : Int32) (x2 : Int32) (X : IX) (H : Heap) (locs : List Loc) (ls : Array Slot) (hP : va_P D zu_cl (zu_pic cA ad X Y) H) (hS : va_S A s.heap H locs) (hl : lv_has ls 6 [(0, .ref (ad 0)), (1, .int x1), (2, .int x2)]) (hf : fn_Post_walk_L48 x1 x2 X = some res) : W p l e zR_Post_walk s m args below meth c H locs 0 0 (MQ below (zu_Qi D cA ad A res.1 res.2 Y) args s 0 0 A) (F0 m 48 ls []) := by
  obtain ⟨hx, hb, hml, hown, hts, hST⟩ := id B
  unfold fn_Post_walk_L48 at hf
  refine lv_aload_n hx hb zd_Post_walk_48 rfl (lv_at hl 0 rfl) ?_
  refine zg_Post_land B hP rfl zq_191 zd_Post_walk_49 ?_
  refine zg_Land_throwers B hP rfl zq_55 zd_Post_walk_52 ?_
  refine lv_iload_n hx hb zd_Post_walk_55 rfl (lv_at hl 1 rfl) ?_
  obtain ⟨hg17, hf⟩ := zu_gd_e hf
  refine zr_thr rfl B hP (zk_Land_throwers rfl) hg17 zd_Post_walk_56 ?_
  refine zg_Thr_facts B hP (zk_thr (zk_Land_throwers rfl) (zu_ib_lt hg17)) zq_41 zd_Post_walk_57 ?_
  refine lv_astore (lv' := [(4, .ref (ad ((zu_th (20 + 6) (x1.toNatClampNeg)) + 30))), (0, .ref (ad 0)), (1, .int x1), (2, .int x2)]) hx hb zd_Post_walk_60 hl (by decide) rfl (fun ls hl => ?_)
  refine lv_aload hx hb zd_Post_walk_62 (lv_at hl 0 rfl) ?_
  refine lv_iconst (v := 1) hx hb zd_Post_walk_64 (by decide) ?_
  refine zr_iald (j := 1) (by decide) B hP (zk_Thr_facts (zk_thr (zk_Land_throwers rfl) (zu_ib_lt hg17))) (by decide) rfl (by decide) zd_Post_walk_65 ?_
  refine zr_nxi hf (fun v18 hf => ?_)
  refine lv_istore (lv' := [(5, .int v18), (4, .ref (ad ((zu_th (20 + 6) (x1.toNatClampNeg)) + 30))), (0, .ref (ad 0)), (1, .int x1), (2, .int x2)]) hx hb zd_Post_walk_66 hl (by decide) rfl (fun ls hl => ?_)
  refine lv_aload hx hb zd_Post_walk_68 (lv_at hl 1 rfl) ?_
  refine lv_iconst (v := 1) hx hb zd_Post_walk_70 (by decide) ?_
  refine lv_iload_n hx hb zd_Post_walk_71 rfl (lv_at hl 4 rfl) ?_
  refine zr_iast (j := 1) (by decide) B hP hS hf (zk_Thr_facts (zk_thr (zk_Land_throwers rfl) (zu_ib_lt hg17))) (by decide) rfl (by decide) zd_Post_walk_72 (fun X19 H locs hf hP hS => ?_)
  refine lv_iload hx hb zd_Post_walk_73 (lv_at hl 0 rfl) ?_
  obtain rfl := Option.some.inj hf
  exact zr_iret hx hb hret hlk hP hS zd_Post_walk_75
set_option maxHeartbeats 4000000 in
theorem zl_Post_walk_L15 {p : Program} {l : Launch} {e : Env} {s : State} {m : MethodId} {args : Array Value} {below : List Frame} {meth : Method} {c : Code} {D : va_G} {cA : Nat → ClassId} {ad : Nat → Nat} {A : Nat → Prop} (B : zu_B p s m args c zb_Post_walk 6 "StonePost" D cA ad A) (hret : meth.sig.returnType = (some .int)) (hlk : meth.locks = false) {Y : LX} {res : Int32 × IX} (X : IX) (H : Heap) (locs : List Loc) (ls : Array Slot) (hP : va_P D zu_cl (zu_pic cA ad X Y) H) (hS : va_S A s.heap H locs) (hl : lv_has ls 6 [(0, .ref (ad 0))]) (hf : fn_Post_walk_L15 X = some res) : W p l e zR_Post_walk s m args below meth c H locs 0 0 (MQ below (zu_Qi D cA ad A res.1 res.2 Y) args s 0 0 A) (F0 m 15 ls []) := by
  obtain ⟨hx, hb, hml, hown, hts, hST⟩ := id B
  unfold fn_Post_walk_L15 at hf
  refine lv_aload_n hx hb zd_Post_walk_15 rfl (lv_at hl 0 rfl) ?_
  refine lv_ldc (v := -1000001) hx hb hown (hts _ zq_226) zd_Post_walk_16 ?_
  obtain ⟨v14, X15, hq16, hf⟩ := zu_b2_e hf
  refine zw_Post_finding (rest := []) B hP hS hq16 zq_227 (Nat.le_of_ble_eq_true rfl) (Nat.le_of_ble_eq_true rfl) hl.1 rfl (Nat.le_of_ble_eq_true rfl) zd_Post_walk_18 (by decide) (fun H locs hP hS => ?_)
  clear hq16
  obtain rfl := Option.some.inj hf
  exact zr_iret hx hb hret hlk hP hS zd_Post_walk_21
set_option maxHeartbeats 4000000 in
theorem zl_Post_walk {p : Program} {l : Launch} {e : Env} {s : State} {m : MethodId} {args : Array Value} {below : List Frame} {meth : Method} {c : Code} {D : va_G} {cA : Nat → ClassId} {ad : Nat → Nat} {A : Nat → Prop} (B : zu_B p s m args c zb_Post_walk 6 "StonePost" D cA ad A) (hret : meth.sig.returnType = (some .int)) (hlk : meth.locks = false) {Y : LX} {res : Int32 × IX} {a1 : Int32} {a2 : Int32} {X : IX} (H : Heap) (locs : List Loc) (ls : Array Slot) (hP : va_P D zu_cl (zu_pic cA ad X Y) H) (hS : va_S A s.heap H locs) (hl : lv_has ls 6 [(0, .ref (ad 0)), (1, .int a1), (2, .int a2)]) (hf : fn_Post_walk a1 a2 X = some res) : W p l e zR_Post_walk s m args below meth c H locs 0 0 (MQ below (zu_Qi D cA ad A res.1 res.2 Y) args s 0 0 A) (F0 m 0 ls []) := by
  obtain ⟨hx, hb, hml, hown, hts, hST⟩ := id B
  unfold fn_Post_walk at hf
  refine lv_aload_n hx hb zd_Post_walk_0 rfl (lv_at hl 0 rfl) ?_
  refine lv_iload_n hx hb zd_Post_walk_1 rfl (lv_at hl 1 rfl) ?_
  obtain ⟨v1, hq2, hf⟩ := zu_b1_e hf
  refine zw_Post_isThrower (rest := []) B hP hS hq2 zq_265 (Nat.le_of_ble_eq_true rfl) (Nat.le_of_ble_eq_true rfl) hl.1 rfl (Nat.le_of_ble_eq_true rfl) zd_Post_walk_2 (by decide) (fun H locs hP hS => ?_)
  clear hq2
  refine lv_if_eq (tgt := 15) hx hb zd_Post_walk_5 (by decide) (fun c3 => ?_) (fun c3 => ?_)
  · have hf := zu_t c3 hf
    exact zl_Post_walk_L15 B hret hlk X _ _ _ hP hS (lv_sub hl [0] rfl) hf
  · have hf := zu_f c3 hf
    refine lv_iload_n hx hb zd_Post_walk_8 rfl (lv_at hl 2 rfl) ?_
    obtain ⟨v4, hq5, hf⟩ := zu_b1_e hf
    refine zw_Post_isCell (rest := []) B hP hS hq5 zq_220 (Nat.le_of_ble_eq_true rfl) (Nat.le_of_ble_eq_true rfl) hl.1 rfl (Nat.le_of_ble_eq_true rfl) zd_Post_walk_9 (by decide) (fun H locs hP hS => ?_)
    clear hq5
    refine lv_if_ne (tgt := 22) hx hb zd_Post_walk_12 (by decide) (fun c6 => ?_) (fun c6 => ?_)
    · have hf := zu_f c6 hf
      refine lv_aload_n hx hb zd_Post_walk_22 rfl (lv_at hl 0 rfl) ?_
      refine zg_Post_land B hP rfl zq_191 zd_Post_walk_23 ?_
      refine lv_iload_n hx hb zd_Post_walk_26 rfl (lv_at hl 2 rfl) ?_
      obtain ⟨v7, hq8, hf⟩ := zu_b1_e hf
      refine zw_Land_standingOn (rest := []) B hP hS rfl hq8 zq_242 (Nat.le_of_ble_eq_true rfl) (Nat.le_of_ble_eq_true rfl) hl.1 rfl (Nat.le_of_ble_eq_true rfl) zd_Post_walk_27 (by decide) (fun H locs hP hS => ?_)
      clear hq8
      refine lv_istore_n (lv' := [(3, .int v7), (0, .ref (ad 0)), (1, .int a1), (2, .int a2)]) hx hb zd_Post_walk_30 rfl hl (by decide) rfl (fun ls hl => ?_)
      refine lv_iload_n hx hb zd_Post_walk_31 rfl (lv_at hl 0 rfl) ?_
      refine lv_iconst (v := -1) hx hb zd_Post_walk_32 (by decide) ?_
      refine lv_icmp_eq (tgt := 48) hx hb zd_Post_walk_33 (by decide) (fun c9 => ?_) (fun c9 => ?_)
      · have hf := zu_t c9 hf
        exact zl_Post_walk_L48 B hret hlk a1 a2 X _ _ _ hP hS (lv_sub hl [1, 2, 3] rfl) hf
      · have hf := zu_f c9 hf
        refine lv_iload_n hx hb zd_Post_walk_36 rfl (lv_at hl 0 rfl) ?_
        refine lv_iload_n hx hb zd_Post_walk_37 rfl (lv_at hl 2 rfl) ?_
        refine lv_icmp_eq (tgt := 48) hx hb zd_Post_walk_38 (by decide) (fun c10 => ?_) (fun c10 => ?_)
        · have hf := zu_t c10 hf
          exact zl_Post_walk_L48 B hret hlk a1 a2 X _ _ _ hP hS (lv_sub hl [1, 2, 3] rfl) hf
        · have hf := zu_f c10 hf
          refine lv_aload_n hx hb zd_Post_walk_41 rfl (lv_at hl 1 rfl) ?_
          refine lv_ldc (v := -1000005) hx hb hown (hts _ zq_246) zd_Post_walk_42 ?_
          obtain ⟨v11, X12, hq13, hf⟩ := zu_b2_e hf
          refine zw_Post_finding (rest := []) B hP hS hq13 zq_227 (Nat.le_of_ble_eq_true rfl) (Nat.le_of_ble_eq_true rfl) hl.1 rfl (Nat.le_of_ble_eq_true rfl) zd_Post_walk_44 (by decide) (fun H locs hP hS => ?_)
          clear hq13
          obtain rfl := Option.some.inj hf
          exact zr_iret hx hb hret hlk hP hS zd_Post_walk_47
    · have hf := zu_t c6 hf
      exact zl_Post_walk_L15 B hret hlk X _ _ _ hP hS (lv_sub hl [0] rfl) hf
theorem zC_Post_walk (l : Launch) {D : va_G} {cA : Nat → ClassId} {ad : Nat → Nat} {A : Nat → Prop} {a1 : Int32} {a2 : Int32} {X : IX} {Y : LX} {res : Int32 × IX} (hf : fn_Post_walk a1 a2 X = some res) : Met l zm_Post_walk (zu_ws zm_Post_walk zb_Post_walk 6 (some .int)) zR_Post_walk (va_Pc [.ref (ad 0), .int a1, .int a2] (zu_Pre D cA ad A X Y)) (zu_Qi D cA ad A res.1 res.2 Y) 0 0 A := by
  refine Met.ofW (cc := zb_Post_walk) (maxL := 6) (ret := (some .int)) (by decide +kernel) rfl ?_
  intro p e s m args below meth c s₁ B0 hml hv
  obtain ⟨rfl, hP, hST⟩ := hv
  have B : zu_B p s m _ c zb_Post_walk 6 "StonePost" D cA ad A := ⟨B0.exec, B0.bytes, hml, findClass_of_methodNamed B0.named, (fun w hw => atoms_spec (ws := zu_ws zm_Post_walk zb_Post_walk 6 (some .int)) B0.pre w (List.mem_cons_of_mem _ hw)), hST⟩
  have hl := lv_entry ([.ref (ad 0), .int a1, .int a2]) (n := 6) (Nat.le_of_ble_eq_true rfl)
  rw [lg_entry_eq]
  generalize (lg_sl ([.ref (ad 0), .int a1, .int a2]) ++ List.replicate (6 - (lg_sl ([.ref (ad 0), .int a1, .int a2])).length) Slot.unset).toArray = ls at hl ⊢
  exact zl_Post_walk B B0.returns B0.notSynchronized s.heap [] ls hP va_S.rf hl  hf
theorem zw_Post_walk {p : Program} {l : Launch} {e : Env} {R : Room} {s : State} {m : MethodId} {args : Array Value} {below : List Frame} {meth : Method} {c : Code} {H : Heap} {locs : List Loc} {cells slots : Nat} {Q : State → Prop} {cc : ByteArray} {pc nL : Nat} {ls : Array Slot} {rest st0 : List Value} {D : va_G} {cA : Nat → ClassId} {ad : Nat → Nat} {A : Nat → Prop} {X : IX} {Y : LX} {own : String} {index : Nat} {a1 : Int32} {a2 : Int32} {v1 : Int32} {X1 : IX} (B : zu_B p s m args c cc nL own D cA ad A) (hP : va_P D zu_cl (zu_pic cA ad X Y) H) (hS : va_S A s.heap H locs) (hq : fn_Post_walk a1 a2 X = some (v1, X1)) (m1 : Cond.methodLink own index zm_Post_walk ∈ zu_TB) (hR1 : 2 + 1 ≤ R.frames) (hR2 : 8 + (6 + 11) + 44 ≤ R.locals) (hsz : ls.size = nL) (hst : st0 = .int a2 :: .int a1 :: .ref (ad 0) :: rest) (hw : (rest.map fun v => v.category).sum ≤ 8) (hdg : decode cc pc = .ok (.invokevirtual index, 3)) (h00 : cells ≤ R.cells ∧ slots ≤ R.slots) (kk : ∀ (H1 : Heap) (locs1 : List Loc), va_P D zu_cl (zu_pic cA ad X1 Y) H1 → va_S A s.heap H1 locs1 → W p l e R s m args below meth c H1 locs1 cells slots Q (F0 m (pc + 3) ls (.int v1 :: rest))) : W p l e R s m args below meth c H locs cells slots Q (F0 m pc ls st0) := by
  subst hst
  exact zr_cVi (As := [.int a1, .int a2]) (rest := rest) (n := 2) (C := "StonePost") (T := zt_Post) (N := 8) B hP hS (zC_Post_walk l  hq) (K := 1) rfl (by decide) (by decide) rfl rfl m1 zq_282 zq_283 zq_1 zq_284 (by decide +kernel) ⟨hR1, hR2⟩ rfl rfl rfl hsz rfl hw hdg h00 kk
abbrev zR_Post_isThrow : Room := { frames := 1, cells := 0, slots := 0, locals := 22 }
theorem zd_Post_isThrow_0 : decode zb_Post_isThrow 0 = .ok (.iload_n 0, 1) := by decide +kernel
theorem zd_Post_isThrow_1 : decode zb_Post_isThrow 1 = .ok (.iconst 0, 1) := by decide +kernel
theorem zd_Post_isThrow_2 : decode zb_Post_isThrow 2 = .ok (.iconst 1, 1) := by decide +kernel
theorem zd_Post_isThrow_3 : decode zb_Post_isThrow 3 = .ok (.invokestatic 51, 3) := by decide +kernel
theorem zd_Post_isThrow_6 : decode zb_Post_isThrow 6 = .ok (.ifCond .eq 17, 3) := by decide +kernel
theorem zd_Post_isThrow_9 : decode zb_Post_isThrow 9 = .ok (.iload_n 1, 1) := by decide +kernel
theorem zd_Post_isThrow_10 : decode zb_Post_isThrow 10 = .ok (.iconst 0, 1) := by decide +kernel
theorem zd_Post_isThrow_11 : decode zb_Post_isThrow 11 = .ok (.bipush 23, 2) := by decide +kernel
theorem zd_Post_isThrow_13 : decode zb_Post_isThrow 13 = .ok (.invokestatic 51, 3) := by decide +kernel
theorem zd_Post_isThrow_16 : decode zb_Post_isThrow 16 = .ok (.ifCond .eq 7, 3) := by decide +kernel
theorem zd_Post_isThrow_19 : decode zb_Post_isThrow 19 = .ok (.iconst 1, 1) := by decide +kernel
theorem zd_Post_isThrow_20 : decode zb_Post_isThrow 20 = .ok (.goto 4, 3) := by decide +kernel
theorem zd_Post_isThrow_23 : decode zb_Post_isThrow 23 = .ok (.iconst 0, 1) := by decide +kernel
theorem zd_Post_isThrow_24 : decode zb_Post_isThrow 24 = .ok (.ireturn, 1) := by decide +kernel
set_option maxHeartbeats 4000000 in
theorem zl_Post_isThrow_L24 {p : Program} {l : Launch} {e : Env} {s : State} {m : MethodId} {args : Array Value} {below : List Frame} {meth : Method} {c : Code} {D : va_G} {cA : Nat → ClassId} {ad : Nat → Nat} {A : Nat → Prop} (B : zu_B p s m args c zb_Post_isThrow 2 "StonePost" D cA ad A) (hret : meth.sig.returnType = (some .boolean)) (hlk : meth.locks = false) {X : IX} {Y : LX} {res : Int32} (y0 : Int32) (H : Heap) (locs : List Loc) (ls : Array Slot) (hP : va_P D zu_cl (zu_pic cA ad X Y) H) (hS : va_S A s.heap H locs) (hl : lv_has ls 2 []) (hf : fn_Post_isThrow_L24 y0 = some res) : W p l e zR_Post_isThrow s m args below meth c H locs 0 0 (MQ below (zu_Qi D cA ad A res X Y) args s 0 0 A) (F0 m 24 ls [.int y0]) := by
  obtain ⟨hx, hb, hml, hown, hts, hST⟩ := id B
  unfold fn_Post_isThrow_L24 at hf
  obtain ⟨hg7, hf⟩ := zu_gd_e hf
  obtain rfl := Option.some.inj hf
  exact zr_zret hx hb hret hlk hP hS hg7 zd_Post_isThrow_24
set_option maxHeartbeats 4000000 in
theorem zl_Post_isThrow_L23 {p : Program} {l : Launch} {e : Env} {s : State} {m : MethodId} {args : Array Value} {below : List Frame} {meth : Method} {c : Code} {D : va_G} {cA : Nat → ClassId} {ad : Nat → Nat} {A : Nat → Prop} (B : zu_B p s m args c zb_Post_isThrow 2 "StonePost" D cA ad A) (hret : meth.sig.returnType = (some .boolean)) (hlk : meth.locks = false) {X : IX} {Y : LX} {res : Int32} (H : Heap) (locs : List Loc) (ls : Array Slot) (hP : va_P D zu_cl (zu_pic cA ad X Y) H) (hS : va_S A s.heap H locs) (hl : lv_has ls 2 []) (hf : fn_Post_isThrow_L23 = some res) : W p l e zR_Post_isThrow s m args below meth c H locs 0 0 (MQ below (zu_Qi D cA ad A res X Y) args s 0 0 A) (F0 m 23 ls []) := by
  obtain ⟨hx, hb, hml, hown, hts, hST⟩ := id B
  unfold fn_Post_isThrow_L23 at hf
  refine lv_iconst (v := 0) hx hb zd_Post_isThrow_23 (by decide) ?_
  exact zl_Post_isThrow_L24 B hret hlk (0 : Int32) _ _ _ hP hS (lv_sub hl [] rfl) hf
set_option maxHeartbeats 4000000 in
theorem zl_Post_isThrow {p : Program} {l : Launch} {e : Env} {s : State} {m : MethodId} {args : Array Value} {below : List Frame} {meth : Method} {c : Code} {D : va_G} {cA : Nat → ClassId} {ad : Nat → Nat} {A : Nat → Prop} (B : zu_B p s m args c zb_Post_isThrow 2 "StonePost" D cA ad A) (hret : meth.sig.returnType = (some .boolean)) (hlk : meth.locks = false) {X : IX} {Y : LX} {res : Int32} {a0 : Int32} {a1 : Int32} (H : Heap) (locs : List Loc) (ls : Array Slot) (hP : va_P D zu_cl (zu_pic cA ad X Y) H) (hS : va_S A s.heap H locs) (hl : lv_has ls 2 [(0, .int a0), (1, .int a1)]) (hf : fn_Post_isThrow a0 a1 = some res) : W p l e zR_Post_isThrow s m args below meth c H locs 0 0 (MQ below (zu_Qi D cA ad A res X Y) args s 0 0 A) (F0 m 0 ls []) := by
  obtain ⟨hx, hb, hml, hown, hts, hST⟩ := id B
  unfold fn_Post_isThrow at hf
  refine lv_iload_n hx hb zd_Post_isThrow_0 rfl (lv_at hl 0 rfl) ?_
  refine lv_iconst (v := 0) hx hb zd_Post_isThrow_1 (by decide) ?_
  refine lv_iconst (v := 1) hx hb zd_Post_isThrow_2 (by decide) ?_
  obtain ⟨v1, hq2, hf⟩ := zu_b1_e hf
  refine zw_Post_isWithin (rest := []) B hP hS hq2 zq_223 (Nat.le_of_ble_eq_true rfl) (Nat.le_of_ble_eq_true rfl) hl.1 rfl (Nat.le_of_ble_eq_true rfl) zd_Post_isThrow_3 (by decide) (fun H locs hP hS => ?_)
  clear hq2
  refine lv_if_eq (tgt := 23) hx hb zd_Post_isThrow_6 (by decide) (fun c3 => ?_) (fun c3 => ?_)
  · have hf := zu_t c3 hf
    exact zl_Post_isThrow_L23 B hret hlk _ _ _ hP hS (lv_sub hl [] rfl) hf
  · have hf := zu_f c3 hf
    refine lv_iload_n hx hb zd_Post_isThrow_9 rfl (lv_at hl 1 rfl) ?_
    refine lv_iconst (v := 0) hx hb zd_Post_isThrow_10 (by decide) ?_
    refine lv_bipush (v := 23) hx hb zd_Post_isThrow_11 (by decide) ?_
    obtain ⟨v4, hq5, hf⟩ := zu_b1_e hf
    refine zw_Post_isWithin (rest := []) B hP hS hq5 zq_223 (Nat.le_of_ble_eq_true rfl) (Nat.le_of_ble_eq_true rfl) hl.1 rfl (Nat.le_of_ble_eq_true rfl) zd_Post_isThrow_13 (by decide) (fun H locs hP hS => ?_)
    clear hq5
    refine lv_if_eq (tgt := 23) hx hb zd_Post_isThrow_16 (by decide) (fun c6 => ?_) (fun c6 => ?_)
    · have hf := zu_t c6 hf
      exact zl_Post_isThrow_L23 B hret hlk _ _ _ hP hS (lv_sub hl [] rfl) hf
    · have hf := zu_f c6 hf
      refine lv_iconst (v := 1) hx hb zd_Post_isThrow_19 (by decide) ?_
      refine lv_goto (tgt := 24) hx hb zd_Post_isThrow_20 (by decide) ?_
      exact zl_Post_isThrow_L24 B hret hlk (1 : Int32) _ _ _ hP hS (lv_sub hl [] rfl) hf
theorem zC_Post_isThrow (l : Launch) {D : va_G} {cA : Nat → ClassId} {ad : Nat → Nat} {A : Nat → Prop} {a0 : Int32} {a1 : Int32} {X : IX} {Y : LX} {res : Int32} (hf : fn_Post_isThrow a0 a1 = some res) : Met l zm_Post_isThrow (zu_ws zm_Post_isThrow zb_Post_isThrow 2 (some .boolean)) zR_Post_isThrow (va_Pc [.int a0, .int a1] (zu_Pre D cA ad A X Y)) (zu_Qi D cA ad A res X Y) 0 0 A := by
  refine Met.ofW (cc := zb_Post_isThrow) (maxL := 2) (ret := (some .boolean)) (by decide +kernel) rfl ?_
  intro p e s m args below meth c s₁ B0 hml hv
  obtain ⟨rfl, hP, hST⟩ := hv
  have B : zu_B p s m _ c zb_Post_isThrow 2 "StonePost" D cA ad A := ⟨B0.exec, B0.bytes, hml, findClass_of_methodNamed B0.named, (fun w hw => atoms_spec (ws := zu_ws zm_Post_isThrow zb_Post_isThrow 2 (some .boolean)) B0.pre w (List.mem_cons_of_mem _ hw)), hST⟩
  have hl := lv_entry ([.int a0, .int a1]) (n := 2) (Nat.le_of_ble_eq_true rfl)
  rw [lg_entry_eq]
  generalize (lg_sl ([.int a0, .int a1]) ++ List.replicate (2 - (lg_sl ([.int a0, .int a1])).length) Slot.unset).toArray = ls at hl ⊢
  exact zl_Post_isThrow B B0.returns B0.notSynchronized s.heap [] ls hP va_S.rf hl  hf
theorem zw_Post_isThrow {p : Program} {l : Launch} {e : Env} {R : Room} {s : State} {m : MethodId} {args : Array Value} {below : List Frame} {meth : Method} {c : Code} {H : Heap} {locs : List Loc} {cells slots : Nat} {Q : State → Prop} {cc : ByteArray} {pc nL : Nat} {ls : Array Slot} {rest st0 : List Value} {D : va_G} {cA : Nat → ClassId} {ad : Nat → Nat} {A : Nat → Prop} {X : IX} {Y : LX} {own : String} {index : Nat} {a0 : Int32} {a1 : Int32} {v1 : Int32} (B : zu_B p s m args c cc nL own D cA ad A) (hP : va_P D zu_cl (zu_pic cA ad X Y) H) (hS : va_S A s.heap H locs) (hq : fn_Post_isThrow a0 a1 = some v1) (m1 : Cond.methodLink own index zm_Post_isThrow ∈ zu_TB) (hR1 : 1 + 1 ≤ R.frames) (hR2 : 8 + (2 + 11) + 22 ≤ R.locals) (hsz : ls.size = nL) (hst : st0 = .int a1 :: .int a0 ::  rest) (hw : (rest.map fun v => v.category).sum ≤ 8) (hdg : decode cc pc = .ok (.invokestatic index, 3)) (h00 : cells ≤ R.cells ∧ slots ≤ R.slots) (kk : ∀ (H1 : Heap) (locs1 : List Loc), va_P D zu_cl (zu_pic cA ad X Y) H1 → va_S A s.heap H1 locs1 → W p l e R s m args below meth c H1 locs1 cells slots Q (F0 m (pc + 3) ls (.int v1 :: rest))) : W p l e R s m args below meth c H locs cells slots Q (F0 m pc ls st0) := by
  subst hst
  exact zr_cSi (As := [.int a0, .int a1]) (rest := rest) (n := 2) B hP hS (zC_Post_isThrow l  hq) m1 zq_290 zq_1 zq_291 (by decide +kernel) ⟨hR1, hR2⟩ rfl rfl rfl hsz rfl hw hdg h00 kk
abbrev zR_Post_isNight : Room := { frames := 0, cells := 0, slots := 0, locals := 0 }
theorem zd_Post_isNight_0 : decode zb_Post_isNight 0 = .ok (.iload_n 0, 1) := by decide +kernel
theorem zd_Post_isNight_1 : decode zb_Post_isNight 1 = .ok (.bipush 24, 2) := by decide +kernel
theorem zd_Post_isNight_3 : decode zb_Post_isNight 3 = .ok (.irem, 1) := by decide +kernel
theorem zd_Post_isNight_4 : decode zb_Post_isNight 4 = .ok (.istore_n 1, 1) := by decide +kernel
theorem zd_Post_isNight_5 : decode zb_Post_isNight 5 = .ok (.iload_n 1, 1) := by decide +kernel
theorem zd_Post_isNight_6 : decode zb_Post_isNight 6 = .ok (.bipush 18, 2) := by decide +kernel
theorem zd_Post_isNight_8 : decode zb_Post_isNight 8 = .ok (.if_icmp .ge 8, 3) := by decide +kernel
theorem zd_Post_isNight_11 : decode zb_Post_isNight 11 = .ok (.iload_n 1, 1) := by decide +kernel
theorem zd_Post_isNight_12 : decode zb_Post_isNight 12 = .ok (.iconst 5, 1) := by decide +kernel
theorem zd_Post_isNight_13 : decode zb_Post_isNight 13 = .ok (.if_icmp .gt 7, 3) := by decide +kernel
theorem zd_Post_isNight_16 : decode zb_Post_isNight 16 = .ok (.iconst 1, 1) := by decide +kernel
theorem zd_Post_isNight_17 : decode zb_Post_isNight 17 = .ok (.goto 4, 3) := by decide +kernel
theorem zd_Post_isNight_20 : decode zb_Post_isNight 20 = .ok (.iconst 0, 1) := by decide +kernel
theorem zd_Post_isNight_21 : decode zb_Post_isNight 21 = .ok (.ireturn, 1) := by decide +kernel
set_option maxHeartbeats 4000000 in
theorem zl_Post_isNight_L21 {p : Program} {l : Launch} {e : Env} {s : State} {m : MethodId} {args : Array Value} {below : List Frame} {meth : Method} {c : Code} {D : va_G} {cA : Nat → ClassId} {ad : Nat → Nat} {A : Nat → Prop} (B : zu_B p s m args c zb_Post_isNight 2 "StonePost" D cA ad A) (hret : meth.sig.returnType = (some .boolean)) (hlk : meth.locks = false) {X : IX} {Y : LX} {res : Int32} (y0 : Int32) (H : Heap) (locs : List Loc) (ls : Array Slot) (hP : va_P D zu_cl (zu_pic cA ad X Y) H) (hS : va_S A s.heap H locs) (hl : lv_has ls 2 []) (hf : fn_Post_isNight_L21 y0 = some res) : W p l e zR_Post_isNight s m args below meth c H locs 0 0 (MQ below (zu_Qi D cA ad A res X Y) args s 0 0 A) (F0 m 21 ls [.int y0]) := by
  obtain ⟨hx, hb, hml, hown, hts, hST⟩ := id B
  unfold fn_Post_isNight_L21 at hf
  obtain ⟨hg4, hf⟩ := zu_gd_e hf
  obtain rfl := Option.some.inj hf
  exact zr_zret hx hb hret hlk hP hS hg4 zd_Post_isNight_21
set_option maxHeartbeats 4000000 in
theorem zl_Post_isNight_L16 {p : Program} {l : Launch} {e : Env} {s : State} {m : MethodId} {args : Array Value} {below : List Frame} {meth : Method} {c : Code} {D : va_G} {cA : Nat → ClassId} {ad : Nat → Nat} {A : Nat → Prop} (B : zu_B p s m args c zb_Post_isNight 2 "StonePost" D cA ad A) (hret : meth.sig.returnType = (some .boolean)) (hlk : meth.locks = false) {X : IX} {Y : LX} {res : Int32} (H : Heap) (locs : List Loc) (ls : Array Slot) (hP : va_P D zu_cl (zu_pic cA ad X Y) H) (hS : va_S A s.heap H locs) (hl : lv_has ls 2 []) (hf : fn_Post_isNight_L16 = some res) : W p l e zR_Post_isNight s m args below meth c H locs 0 0 (MQ below (zu_Qi D cA ad A res X Y) args s 0 0 A) (F0 m 16 ls []) := by
  obtain ⟨hx, hb, hml, hown, hts, hST⟩ := id B
  unfold fn_Post_isNight_L16 at hf
  refine lv_iconst (v := 1) hx hb zd_Post_isNight_16 (by decide) ?_
  refine lv_goto (tgt := 21) hx hb zd_Post_isNight_17 (by decide) ?_
  exact zl_Post_isNight_L21 B hret hlk (1 : Int32) _ _ _ hP hS (lv_sub hl [] rfl) hf
set_option maxHeartbeats 4000000 in
theorem zl_Post_isNight {p : Program} {l : Launch} {e : Env} {s : State} {m : MethodId} {args : Array Value} {below : List Frame} {meth : Method} {c : Code} {D : va_G} {cA : Nat → ClassId} {ad : Nat → Nat} {A : Nat → Prop} (B : zu_B p s m args c zb_Post_isNight 2 "StonePost" D cA ad A) (hret : meth.sig.returnType = (some .boolean)) (hlk : meth.locks = false) {X : IX} {Y : LX} {res : Int32} {a0 : Int32} (H : Heap) (locs : List Loc) (ls : Array Slot) (hP : va_P D zu_cl (zu_pic cA ad X Y) H) (hS : va_S A s.heap H locs) (hl : lv_has ls 2 [(0, .int a0)]) (hf : fn_Post_isNight a0 = some res) : W p l e zR_Post_isNight s m args below meth c H locs 0 0 (MQ below (zu_Qi D cA ad A res X Y) args s 0 0 A) (F0 m 0 ls []) := by
  obtain ⟨hx, hb, hml, hown, hts, hST⟩ := id B
  unfold fn_Post_isNight at hf
  refine lv_iload_n hx hb zd_Post_isNight_0 rfl (lv_at hl 0 rfl) ?_
  refine lv_bipush (v := 24) hx hb zd_Post_isNight_1 (by decide) ?_
  refine lv_irem hx hb zd_Post_isNight_3 (by decide) ?_
  refine zr_nxi hf (fun v1 hf => ?_)
  refine lv_istore_n (lv' := [(1, .int v1), (0, .int a0)]) hx hb zd_Post_isNight_4 rfl hl (by decide) rfl (fun ls hl => ?_)
  refine lv_iload_n hx hb zd_Post_isNight_5 rfl (lv_at hl 0 rfl) ?_
  refine lv_bipush (v := 18) hx hb zd_Post_isNight_6 (by decide) ?_
  refine lv_icmp_ge (tgt := 16) hx hb zd_Post_isNight_8 (by decide) (fun c2 => ?_) (fun c2 => ?_)
  · have hf := zu_t c2 hf
    exact zl_Post_isNight_L16 B hret hlk _ _ _ hP hS (lv_sub hl [] rfl) hf
  · have hf := zu_f c2 hf
    refine lv_iload_n hx hb zd_Post_isNight_11 rfl (lv_at hl 0 rfl) ?_
    refine lv_iconst (v := 5) hx hb zd_Post_isNight_12 (by decide) ?_
    refine lv_icmp_gt (tgt := 20) hx hb zd_Post_isNight_13 (by decide) (fun c3 => ?_) (fun c3 => ?_)
    · have hf := zu_t c3 hf
      refine lv_iconst (v := 0) hx hb zd_Post_isNight_20 (by decide) ?_
      exact zl_Post_isNight_L21 B hret hlk (0 : Int32) _ _ _ hP hS (lv_sub hl [] rfl) hf
    · have hf := zu_f c3 hf
      exact zl_Post_isNight_L16 B hret hlk _ _ _ hP hS (lv_sub hl [] rfl) hf
theorem zC_Post_isNight (l : Launch) {D : va_G} {cA : Nat → ClassId} {ad : Nat → Nat} {A : Nat → Prop} {a0 : Int32} {X : IX} {Y : LX} {res : Int32} (hf : fn_Post_isNight a0 = some res) : Met l zm_Post_isNight (zu_ws zm_Post_isNight zb_Post_isNight 2 (some .boolean)) zR_Post_isNight (va_Pc [.int a0] (zu_Pre D cA ad A X Y)) (zu_Qi D cA ad A res X Y) 0 0 A := by
  refine Met.ofW (cc := zb_Post_isNight) (maxL := 2) (ret := (some .boolean)) (by decide +kernel) rfl ?_
  intro p e s m args below meth c s₁ B0 hml hv
  obtain ⟨rfl, hP, hST⟩ := hv
  have B : zu_B p s m _ c zb_Post_isNight 2 "StonePost" D cA ad A := ⟨B0.exec, B0.bytes, hml, findClass_of_methodNamed B0.named, (fun w hw => atoms_spec (ws := zu_ws zm_Post_isNight zb_Post_isNight 2 (some .boolean)) B0.pre w (List.mem_cons_of_mem _ hw)), hST⟩
  have hl := lv_entry ([.int a0]) (n := 2) (Nat.le_of_ble_eq_true rfl)
  rw [lg_entry_eq]
  generalize (lg_sl ([.int a0]) ++ List.replicate (2 - (lg_sl ([.int a0])).length) Slot.unset).toArray = ls at hl ⊢
  exact zl_Post_isNight B B0.returns B0.notSynchronized s.heap [] ls hP va_S.rf hl  hf
theorem zw_Post_isNight {p : Program} {l : Launch} {e : Env} {R : Room} {s : State} {m : MethodId} {args : Array Value} {below : List Frame} {meth : Method} {c : Code} {H : Heap} {locs : List Loc} {cells slots : Nat} {Q : State → Prop} {cc : ByteArray} {pc nL : Nat} {ls : Array Slot} {rest st0 : List Value} {D : va_G} {cA : Nat → ClassId} {ad : Nat → Nat} {A : Nat → Prop} {X : IX} {Y : LX} {own : String} {index : Nat} {a0 : Int32} {v1 : Int32} (B : zu_B p s m args c cc nL own D cA ad A) (hP : va_P D zu_cl (zu_pic cA ad X Y) H) (hS : va_S A s.heap H locs) (hq : fn_Post_isNight a0 = some v1) (m1 : Cond.methodLink own index zm_Post_isNight ∈ zu_TB) (hR1 : 0 + 1 ≤ R.frames) (hR2 : 8 + (2 + 11) + 0 ≤ R.locals) (hsz : ls.size = nL) (hst : st0 = .int a0 ::  rest) (hw : (rest.map fun v => v.category).sum ≤ 8) (hdg : decode cc pc = .ok (.invokestatic index, 3)) (h00 : cells ≤ R.cells ∧ slots ≤ R.slots) (kk : ∀ (H1 : Heap) (locs1 : List Loc), va_P D zu_cl (zu_pic cA ad X Y) H1 → va_S A s.heap H1 locs1 → W p l e R s m args below meth c H1 locs1 cells slots Q (F0 m (pc + 3) ls (.int v1 :: rest))) : W p l e R s m args below meth c H locs cells slots Q (F0 m pc ls st0) := by
  subst hst
  exact zr_cSi (As := [.int a0]) (rest := rest) (n := 1) B hP hS (zC_Post_isNight l  hq) m1 zq_293 zq_1 zq_294 (by decide +kernel) ⟨hR1, hR2⟩ rfl rfl rfl hsz rfl hw hdg h00 kk
theorem zwN_Post_isNight {p : Program} {l : Launch} {e : Env} {R : Room} {s : State} {m : MethodId} {args : Array Value} {below : List Frame} {meth : Method} {c : Code} {H : Heap} {locs : List Loc} {cells slots : Nat} {Q : State → Prop} {cc : ByteArray} {pc nL : Nat} {ls : Array Slot} {rest st0 : List Value} {D : va_G} {cA : Nat → ClassId} {ad : Nat → Nat} {A : Nat → Prop} {X : IX} {Y : LX} {own : String} {index : Nat} {a0 : Int32} {v1 : Int32} (B : zu_B p s m args c cc nL own D cA ad A) (hP : va_P D zu_cl (zu_pic cA ad X Y) H) (hS : va_S A s.heap H locs) (hq : fn_Post_isNight a0 = some v1) (m1 : va_Nw (.methodLinkNest own index zm_Post_isNight "StonePost") s) (hR1 : 0 + 1 ≤ R.frames) (hR2 : 8 + (2 + 11) + 0 ≤ R.locals) (hsz : ls.size = nL) (hst : st0 = .int a0 ::  rest) (hw : (rest.map fun v => v.category).sum ≤ 8) (hdg : decode cc pc = .ok (.invokestatic index, 3)) (h00 : cells ≤ R.cells ∧ slots ≤ R.slots) (kk : ∀ (H1 : Heap) (locs1 : List Loc), va_P D zu_cl (zu_pic cA ad X Y) H1 → va_S A s.heap H1 locs1 → W p l e R s m args below meth c H1 locs1 cells slots Q (F0 m (pc + 3) ls (.int v1 :: rest))) : W p l e R s m args below meth c H locs cells slots Q (F0 m pc ls st0) := by
  subst hst
  exact zr_cNi (As := [.int a0]) (rest := rest) (n := 1) B hP hS (zC_Post_isNight l  hq) m1 zq_293 zq_1 zq_294 (by decide +kernel) ⟨hR1, hR2⟩ rfl rfl rfl hsz rfl hw hdg h00 kk
abbrev zR_Thr_sure : Room := { frames := 1, cells := 0, slots := 0, locals := 21 }
theorem zd_Thr_sure_0 : decode zb_Thr_sure 0 = .ok (.iload_n 1, 1) := by decide +kernel
theorem zd_Thr_sure_1 : decode zb_Thr_sure 1 = .ok (.iconst 1, 1) := by decide +kernel
theorem zd_Thr_sure_2 : decode zb_Thr_sure 2 = .ok (.if_icmp .ne 18, 3) := by decide +kernel
theorem zd_Thr_sure_5 : decode zb_Thr_sure 5 = .ok (.iconst 0, 1) := by decide +kernel
theorem zd_Thr_sure_6 : decode zb_Thr_sure 6 = .ok (.aload_n 0, 1) := by decide +kernel
theorem zd_Thr_sure_7 : decode zb_Thr_sure 7 = .ok (.getfield 11, 3) := by decide +kernel
theorem zd_Thr_sure_10 : decode zb_Thr_sure 10 = .ok (.iconst 5, 1) := by decide +kernel
theorem zd_Thr_sure_11 : decode zb_Thr_sure 11 = .ok (.iaload, 1) := by decide +kernel
theorem zd_Thr_sure_12 : decode zb_Thr_sure 12 = .ok (.iconst 2, 1) := by decide +kernel
theorem zd_Thr_sure_13 : decode zb_Thr_sure 13 = .ok (.isub, 1) := by decide +kernel
theorem zd_Thr_sure_14 : decode zb_Thr_sure 14 = .ok (.invokestatic 41, 3) := by decide +kernel
theorem zd_Thr_sure_17 : decode zb_Thr_sure 17 = .ok (.goto 9, 3) := by decide +kernel
theorem zd_Thr_sure_20 : decode zb_Thr_sure 20 = .ok (.aload_n 0, 1) := by decide +kernel
theorem zd_Thr_sure_21 : decode zb_Thr_sure 21 = .ok (.getfield 11, 3) := by decide +kernel
theorem zd_Thr_sure_24 : decode zb_Thr_sure 24 = .ok (.iconst 5, 1) := by decide +kernel
theorem zd_Thr_sure_25 : decode zb_Thr_sure 25 = .ok (.iaload, 1) := by decide +kernel
theorem zd_Thr_sure_26 : decode zb_Thr_sure 26 = .ok (.istore_n 3, 1) := by decide +kernel
theorem zd_Thr_sure_27 : decode zb_Thr_sure 27 = .ok (.aload_n 0, 1) := by decide +kernel
theorem zd_Thr_sure_28 : decode zb_Thr_sure 28 = .ok (.getfield 11, 3) := by decide +kernel
theorem zd_Thr_sure_31 : decode zb_Thr_sure 31 = .ok (.iconst 0, 1) := by decide +kernel
theorem zd_Thr_sure_32 : decode zb_Thr_sure 32 = .ok (.iaload, 1) := by decide +kernel
theorem zd_Thr_sure_33 : decode zb_Thr_sure 33 = .ok (.tableswitch 62 2 6 #[35, 62, 43, 62, 59], 35) := by decide +kernel
theorem zd_Thr_sure_68 : decode zb_Thr_sure 68 = .ok (.iconst 0, 1) := by decide +kernel
theorem zd_Thr_sure_69 : decode zb_Thr_sure 69 = .ok (.iload_n 3, 1) := by decide +kernel
theorem zd_Thr_sure_70 : decode zb_Thr_sure 70 = .ok (.iconst 3, 1) := by decide +kernel
theorem zd_Thr_sure_71 : decode zb_Thr_sure 71 = .ok (.isub, 1) := by decide +kernel
theorem zd_Thr_sure_72 : decode zb_Thr_sure 72 = .ok (.invokestatic 41, 3) := by decide +kernel
theorem zd_Thr_sure_75 : decode zb_Thr_sure 75 = .ok (.ireturn, 1) := by decide +kernel
theorem zd_Thr_sure_76 : decode zb_Thr_sure 76 = .ok (.iload_n 2, 1) := by decide +kernel
theorem zd_Thr_sure_77 : decode zb_Thr_sure 77 = .ok (.ifCond .eq 7, 3) := by decide +kernel
theorem zd_Thr_sure_80 : decode zb_Thr_sure 80 = .ok (.iconst 0, 1) := by decide +kernel
theorem zd_Thr_sure_81 : decode zb_Thr_sure 81 = .ok (.goto 10, 3) := by decide +kernel
theorem zd_Thr_sure_84 : decode zb_Thr_sure 84 = .ok (.iconst 0, 1) := by decide +kernel
theorem zd_Thr_sure_85 : decode zb_Thr_sure 85 = .ok (.iload_n 3, 1) := by decide +kernel
theorem zd_Thr_sure_86 : decode zb_Thr_sure 86 = .ok (.iconst 3, 1) := by decide +kernel
theorem zd_Thr_sure_87 : decode zb_Thr_sure 87 = .ok (.isub, 1) := by decide +kernel
theorem zd_Thr_sure_88 : decode zb_Thr_sure 88 = .ok (.invokestatic 41, 3) := by decide +kernel
theorem zd_Thr_sure_91 : decode zb_Thr_sure 91 = .ok (.ireturn, 1) := by decide +kernel
theorem zd_Thr_sure_92 : decode zb_Thr_sure 92 = .ok (.bipush 12, 2) := by decide +kernel
theorem zd_Thr_sure_94 : decode zb_Thr_sure 94 = .ok (.ireturn, 1) := by decide +kernel
theorem zd_Thr_sure_95 : decode zb_Thr_sure 95 = .ok (.iload_n 3, 1) := by decide +kernel
theorem zd_Thr_sure_96 : decode zb_Thr_sure 96 = .ok (.ireturn, 1) := by decide +kernel
set_option maxHeartbeats 4000000 in
theorem zl_Thr_sure_L95 {p : Program} {l : Launch} {e : Env} {s : State} {m : MethodId} {args : Array Value} {below : List Frame} {meth : Method} {c : Code} {D : va_G} {cA : Nat → ClassId} {ad : Nat → Nat} {A : Nat → Prop} (B : zu_B p s m args c zb_Thr_sure 4 "StonePost$Thrower" D cA ad A) (hret : meth.sig.returnType = (some .int)) (hlk : meth.locks = false) {X : IX} {Y : LX} {res : Int32} (x3 : Int32) (H : Heap) (locs : List Loc) (ls : Array Slot) (hP : va_P D zu_cl (zu_pic cA ad X Y) H) (hS : va_S A s.heap H locs) (hl : lv_has ls 4 [(3, .int x3)]) (hf : fn_Thr_sure_L95 X x3 = res) : W p l e zR_Thr_sure s m args below meth c H locs 0 0 (MQ below (zu_Qi D cA ad A res X Y) args s 0 0 A) (F0 m 95 ls []) := by
  obtain ⟨hx, hb, hml, hown, hts, hST⟩ := id B
  unfold fn_Thr_sure_L95 at hf
  refine lv_iload_n hx hb zd_Thr_sure_95 rfl (lv_at hl 0 rfl) ?_
  obtain rfl := hf
  exact zr_iret hx hb hret hlk hP hS zd_Thr_sure_96
set_option maxHeartbeats 4000000 in
theorem zl_Thr_sure_L91 {p : Program} {l : Launch} {e : Env} {s : State} {m : MethodId} {args : Array Value} {below : List Frame} {meth : Method} {c : Code} {D : va_G} {cA : Nat → ClassId} {ad : Nat → Nat} {A : Nat → Prop} (B : zu_B p s m args c zb_Thr_sure 4 "StonePost$Thrower" D cA ad A) (hret : meth.sig.returnType = (some .int)) (hlk : meth.locks = false) {X : IX} {Y : LX} {res : Int32} (y0 : Int32) (H : Heap) (locs : List Loc) (ls : Array Slot) (hP : va_P D zu_cl (zu_pic cA ad X Y) H) (hS : va_S A s.heap H locs) (hl : lv_has ls 4 []) (hf : fn_Thr_sure_L91 X y0 = res) : W p l e zR_Thr_sure s m args below meth c H locs 0 0 (MQ below (zu_Qi D cA ad A res X Y) args s 0 0 A) (F0 m 91 ls [.int y0]) := by
  obtain ⟨hx, hb, hml, hown, hts, hST⟩ := id B
  unfold fn_Thr_sure_L91 at hf
  obtain rfl := hf
  exact zr_iret hx hb hret hlk hP hS zd_Thr_sure_91
set_option maxHeartbeats 4000000 in
theorem zl_Thr_sure_L26 {p : Program} {l : Launch} {e : Env} {s : State} {m : MethodId} {args : Array Value} {below : List Frame} {meth : Method} {c : Code} {D : va_G} {cA : Nat → ClassId} {ad : Nat → Nat} {A : Nat → Prop} (B : zu_B p s m args c zb_Thr_sure 4 "StonePost$Thrower" D cA ad A) (hret : meth.sig.returnType = (some .int)) (hlk : meth.locks = false) {X : IX} {Y : LX} {res : Int32} (r0 : Nat) (x2 : Int32) (y0 : Int32) (H : Heap) (locs : List Loc) (ls : Array Slot) (hP : va_P D zu_cl (zu_pic cA ad X Y) H) (hS : va_S A s.heap H locs) (hl : lv_has ls 4 [(0, .ref (ad r0)), (2, .int x2)]) (hr0 : zu_kd r0 = 6) (hf : fn_Thr_sure_L26 X r0 x2 y0 = res) : W p l e zR_Thr_sure s m args below meth c H locs 0 0 (MQ below (zu_Qi D cA ad A res X Y) args s 0 0 A) (F0 m 26 ls [.int y0]) := by
  obtain ⟨hx, hb, hml, hown, hts, hST⟩ := id B
  unfold fn_Thr_sure_L26 at hf
  refine lv_istore_n (lv' := [(3, .int y0), (0, .ref (ad r0)), (2, .int x2)]) hx hb zd_Thr_sure_26 rfl hl (by decide) rfl (fun ls hl => ?_)
  refine lv_aload_n hx hb zd_Thr_sure_27 rfl (lv_at hl 1 rfl) ?_
  refine zg_Thr_facts B hP hr0 zq_38 zd_Thr_sure_28 ?_
  refine lv_iconst (v := 0) hx hb zd_Thr_sure_31 (by decide) ?_
  refine zr_iald (j := 0) (by decide) B hP (zk_Thr_facts hr0) (by decide) rfl (by decide) zd_Thr_sure_32 ?_
  refine zr_nxi hf (fun v3 hf => ?_)
  by_cases h33_2 : v3 = (2 : Int32)
  · have hf := zu_t h33_2 hf
    refine lv_tableIn (tgt := 68) (off := 35) hx hb zd_Thr_sure_33 (by rw [h33_2]; decide) (by rw [h33_2]; decide) (by rw [h33_2]; decide) (by decide) ?_
    refine lv_iconst (v := 0) hx hb zd_Thr_sure_68 (by decide) ?_
    refine lv_iload_n hx hb zd_Thr_sure_69 rfl (lv_at hl 0 rfl) ?_
    refine lv_iconst (v := 3) hx hb zd_Thr_sure_70 (by decide) ?_
    refine lv_isub hx hb zd_Thr_sure_71 ?_
    refine va_mmax hx hb (hml.trans hl.1.symm) hown (hts _ zq_303) (hts _ zq_304) (hts _ zq_10) (hts _ zq_305) (by decide) (Nat.le_of_ble_eq_true rfl) (by decide) (by decide) zd_Thr_sure_72 ?_
    refine zr_nxi hf (fun v4 hf => ?_)
    obtain rfl := hf
    exact zr_iret hx hb hret hlk hP hS zd_Thr_sure_75
  · have hf := zu_f h33_2 hf
    by_cases h33_3 : v3 = (3 : Int32)
    · have hf := zu_t h33_3 hf
      refine lv_tableIn (tgt := 95) (off := 62) hx hb zd_Thr_sure_33 (by rw [h33_3]; decide) (by rw [h33_3]; decide) (by rw [h33_3]; decide) (by decide) ?_
      exact zl_Thr_sure_L95 B hret hlk y0 _ _ _ hP hS (lv_sub hl [0] rfl) hf
    · have hf := zu_f h33_3 hf
      by_cases h33_4 : v3 = (4 : Int32)
      · have hf := zu_t h33_4 hf
        refine lv_tableIn (tgt := 76) (off := 43) hx hb zd_Thr_sure_33 (by rw [h33_4]; decide) (by rw [h33_4]; decide) (by rw [h33_4]; decide) (by decide) ?_
        refine lv_iload_n hx hb zd_Thr_sure_76 rfl (lv_at hl 2 rfl) ?_
        refine lv_if_eq (tgt := 84) hx hb zd_Thr_sure_77 (by decide) (fun c5 => ?_) (fun c5 => ?_)
        · have hf := zu_t c5 hf
          refine lv_iconst (v := 0) hx hb zd_Thr_sure_84 (by decide) ?_
          refine lv_iload_n hx hb zd_Thr_sure_85 rfl (lv_at hl 0 rfl) ?_
          refine lv_iconst (v := 3) hx hb zd_Thr_sure_86 (by decide) ?_
          refine lv_isub hx hb zd_Thr_sure_87 ?_
          refine va_mmax hx hb (hml.trans hl.1.symm) hown (hts _ zq_303) (hts _ zq_304) (hts _ zq_10) (hts _ zq_305) (by decide) (Nat.le_of_ble_eq_true rfl) (by decide) (by decide) zd_Thr_sure_88 ?_
          refine zr_nxi hf (fun v6 hf => ?_)
          exact zl_Thr_sure_L91 B hret hlk v6 _ _ _ hP hS (lv_sub hl [] rfl) hf
        · have hf := zu_f c5 hf
          refine lv_iconst (v := 0) hx hb zd_Thr_sure_80 (by decide) ?_
          refine lv_goto (tgt := 91) hx hb zd_Thr_sure_81 (by decide) ?_
          exact zl_Thr_sure_L91 B hret hlk (0 : Int32) _ _ _ hP hS (lv_sub hl [] rfl) hf
      · have hf := zu_f h33_4 hf
        by_cases h33_5 : v3 = (5 : Int32)
        · have hf := zu_t h33_5 hf
          refine lv_tableIn (tgt := 95) (off := 62) hx hb zd_Thr_sure_33 (by rw [h33_5]; decide) (by rw [h33_5]; decide) (by rw [h33_5]; decide) (by decide) ?_
          exact zl_Thr_sure_L95 B hret hlk y0 _ _ _ hP hS (lv_sub hl [0] rfl) hf
        · have hf := zu_f h33_5 hf
          by_cases h33_6 : v3 = (6 : Int32)
          · have hf := zu_t h33_6 hf
            refine lv_tableIn (tgt := 92) (off := 59) hx hb zd_Thr_sure_33 (by rw [h33_6]; decide) (by rw [h33_6]; decide) (by rw [h33_6]; decide) (by decide) ?_
            refine lv_bipush (v := 12) hx hb zd_Thr_sure_92 (by decide) ?_
            obtain rfl := hf
            exact zr_iret hx hb hret hlk hP hS zd_Thr_sure_94
          · have hf := zu_f h33_6 hf
            have hsw : v3.toInt < 2 ∨ 6 < v3.toInt := by
              have n0 := lv_neT h33_2 (a := 2) (by decide)
              have n1 := lv_neT h33_3 (a := 3) (by decide)
              have n2 := lv_neT h33_4 (a := 4) (by decide)
              have n3 := lv_neT h33_5 (a := 5) (by decide)
              have n4 := lv_neT h33_6 (a := 6) (by decide)
              omega
            refine lv_tableOut (tgt := 95) hx hb zd_Thr_sure_33 hsw (by decide) ?_
            exact zl_Thr_sure_L95 B hret hlk y0 _ _ _ hP hS (lv_sub hl [0] rfl) hf
set_option maxHeartbeats 4000000 in
theorem zl_Thr_sure {p : Program} {l : Launch} {e : Env} {s : State} {m : MethodId} {args : Array Value} {below : List Frame} {meth : Method} {c : Code} {D : va_G} {cA : Nat → ClassId} {ad : Nat → Nat} {A : Nat → Prop} (B : zu_B p s m args c zb_Thr_sure 4 "StonePost$Thrower" D cA ad A) (hret : meth.sig.returnType = (some .int)) (hlk : meth.locks = false) {X : IX} {Y : LX} {res : Int32} {r0 : Nat} {a1 : Int32} {a2 : Int32} (H : Heap) (locs : List Loc) (ls : Array Slot) (hP : va_P D zu_cl (zu_pic cA ad X Y) H) (hS : va_S A s.heap H locs) (hl : lv_has ls 4 [(0, .ref (ad r0)), (1, .int a1), (2, .int a2)]) (hr0 : zu_kd r0 = 6) (hf : fn_Thr_sure X r0 a1 a2 = res) : W p l e zR_Thr_sure s m args below meth c H locs 0 0 (MQ below (zu_Qi D cA ad A res X Y) args s 0 0 A) (F0 m 0 ls []) := by
  obtain ⟨hx, hb, hml, hown, hts, hST⟩ := id B
  unfold fn_Thr_sure at hf
  refine lv_iload_n hx hb zd_Thr_sure_0 rfl (lv_at hl 1 rfl) ?_
  refine lv_iconst (v := 1) hx hb zd_Thr_sure_1 (by decide) ?_
  refine lv_icmp_ne (tgt := 20) hx hb zd_Thr_sure_2 (by decide) (fun c1 => ?_) (fun c1 => ?_)
  · have hf := zu_f c1 hf
    refine lv_aload_n hx hb zd_Thr_sure_20 rfl (lv_at hl 0 rfl) ?_
    refine zg_Thr_facts B hP hr0 zq_38 zd_Thr_sure_21 ?_
    refine lv_iconst (v := 5) hx hb zd_Thr_sure_24 (by decide) ?_
    refine zr_iald (j := 5) (by decide) B hP (zk_Thr_facts hr0) (by decide) rfl (by decide) zd_Thr_sure_25 ?_
    exact zl_Thr_sure_L26 B hret hlk r0 a2 (X (r0 + 30) 5) _ _ _ hP hS (lv_sub hl [0, 2] rfl) hr0 hf
  · have hf := zu_t c1 hf
    refine lv_iconst (v := 0) hx hb zd_Thr_sure_5 (by decide) ?_
    refine lv_aload_n hx hb zd_Thr_sure_6 rfl (lv_at hl 0 rfl) ?_
    refine zg_Thr_facts B hP hr0 zq_38 zd_Thr_sure_7 ?_
    refine lv_iconst (v := 5) hx hb zd_Thr_sure_10 (by decide) ?_
    refine zr_iald (j := 5) (by decide) B hP (zk_Thr_facts hr0) (by decide) rfl (by decide) zd_Thr_sure_11 ?_
    refine lv_iconst (v := 2) hx hb zd_Thr_sure_12 (by decide) ?_
    refine lv_isub hx hb zd_Thr_sure_13 ?_
    refine va_mmax hx hb (hml.trans hl.1.symm) hown (hts _ zq_303) (hts _ zq_304) (hts _ zq_10) (hts _ zq_305) (by decide) (Nat.le_of_ble_eq_true rfl) (by decide) (by decide) zd_Thr_sure_14 ?_
    refine zr_nxi hf (fun v2 hf => ?_)
    refine lv_goto (tgt := 26) hx hb zd_Thr_sure_17 (by decide) ?_
    exact zl_Thr_sure_L26 B hret hlk r0 a2 v2 _ _ _ hP hS (lv_sub hl [0, 2] rfl) hr0 hf
theorem zC_Thr_sure (l : Launch) {D : va_G} {cA : Nat → ClassId} {ad : Nat → Nat} {A : Nat → Prop} {r0 : Nat} {a1 : Int32} {a2 : Int32} {X : IX} {Y : LX} {res : Int32} (hr0 : zu_kd r0 = 6) (hf : fn_Thr_sure X r0 a1 a2 = res) : Met l zm_Thr_sure (zu_ws zm_Thr_sure zb_Thr_sure 4 (some .int)) zR_Thr_sure (va_Pc [.ref (ad r0), .int a1, .int a2] (zu_Pre D cA ad A X Y)) (zu_Qi D cA ad A res X Y) 0 0 A := by
  refine Met.ofW (cc := zb_Thr_sure) (maxL := 4) (ret := (some .int)) (by decide +kernel) rfl ?_
  intro p e s m args below meth c s₁ B0 hml hv
  obtain ⟨rfl, hP, hST⟩ := hv
  have B : zu_B p s m _ c zb_Thr_sure 4 "StonePost$Thrower" D cA ad A := ⟨B0.exec, B0.bytes, hml, findClass_of_methodNamed B0.named, (fun w hw => atoms_spec (ws := zu_ws zm_Thr_sure zb_Thr_sure 4 (some .int)) B0.pre w (List.mem_cons_of_mem _ hw)), hST⟩
  have hl := lv_entry ([.ref (ad r0), .int a1, .int a2]) (n := 4) (Nat.le_of_ble_eq_true rfl)
  rw [lg_entry_eq]
  generalize (lg_sl ([.ref (ad r0), .int a1, .int a2]) ++ List.replicate (4 - (lg_sl ([.ref (ad r0), .int a1, .int a2])).length) Slot.unset).toArray = ls at hl ⊢
  exact zl_Thr_sure B B0.returns B0.notSynchronized s.heap [] ls hP va_S.rf hl hr0 hf
theorem zw_Thr_sure {p : Program} {l : Launch} {e : Env} {R : Room} {s : State} {m : MethodId} {args : Array Value} {below : List Frame} {meth : Method} {c : Code} {H : Heap} {locs : List Loc} {cells slots : Nat} {Q : State → Prop} {cc : ByteArray} {pc nL : Nat} {ls : Array Slot} {rest st0 : List Value} {D : va_G} {cA : Nat → ClassId} {ad : Nat → Nat} {A : Nat → Prop} {X : IX} {Y : LX} {own : String} {index : Nat} {r0 : Nat} {a1 : Int32} {a2 : Int32} {v1 : Int32} (B : zu_B p s m args c cc nL own D cA ad A) (hP : va_P D zu_cl (zu_pic cA ad X Y) H) (hS : va_S A s.heap H locs) (hr0 : zu_kd r0 = 6) (hq : fn_Thr_sure X r0 a1 a2 = v1) (m1 : Cond.methodLink own index zm_Thr_sure ∈ zu_TB) (hR1 : 1 + 1 ≤ R.frames) (hR2 : 8 + (4 + 11) + 21 ≤ R.locals) (hsz : ls.size = nL) (hst : st0 = .int a2 :: .int a1 :: .ref (ad r0) :: rest) (hw : (rest.map fun v => v.category).sum ≤ 8) (hdg : decode cc pc = .ok (.invokevirtual index, 3)) (h00 : cells ≤ R.cells ∧ slots ≤ R.slots) (kk : ∀ (H1 : Heap) (locs1 : List Loc), va_P D zu_cl (zu_pic cA ad X Y) H1 → va_S A s.heap H1 locs1 → W p l e R s m args below meth c H1 locs1 cells slots Q (F0 m (pc + 3) ls (.int v1 :: rest))) : W p l e R s m args below meth c H locs cells slots Q (F0 m pc ls st0) := by
  subst hst
  exact zr_cVi (As := [.int a1, .int a2]) (rest := rest) (n := 2) (C := "StonePost$Thrower") (T := zt_Thr) (N := 1) B hP hS (zC_Thr_sure l hr0 hq) (K := 6) hr0 (by decide) (by decide) rfl rfl m1 zq_300 zq_301 zq_3 zq_302 (by decide +kernel) ⟨hR1, hR2⟩ rfl rfl rfl hsz rfl hw hdg h00 kk
abbrev zR_Thr_reach : Room := { frames := 0, cells := 0, slots := 0, locals := 0 }
theorem zd_Thr_reach_0 : decode zb_Thr_reach 0 = .ok (.iload_n 1, 1) := by decide +kernel
theorem zd_Thr_reach_1 : decode zb_Thr_reach 1 = .ok (.iconst 1, 1) := by decide +kernel
theorem zd_Thr_reach_2 : decode zb_Thr_reach 2 = .ok (.if_icmp .ne 12, 3) := by decide +kernel
theorem zd_Thr_reach_5 : decode zb_Thr_reach 5 = .ok (.aload_n 0, 1) := by decide +kernel
theorem zd_Thr_reach_6 : decode zb_Thr_reach 6 = .ok (.getfield 11, 3) := by decide +kernel
theorem zd_Thr_reach_9 : decode zb_Thr_reach 9 = .ok (.iconst 3, 1) := by decide +kernel
theorem zd_Thr_reach_10 : decode zb_Thr_reach 10 = .ok (.iaload, 1) := by decide +kernel
theorem zd_Thr_reach_11 : decode zb_Thr_reach 11 = .ok (.goto 9, 3) := by decide +kernel
theorem zd_Thr_reach_14 : decode zb_Thr_reach 14 = .ok (.aload_n 0, 1) := by decide +kernel
theorem zd_Thr_reach_15 : decode zb_Thr_reach 15 = .ok (.getfield 11, 3) := by decide +kernel
theorem zd_Thr_reach_18 : decode zb_Thr_reach 18 = .ok (.iconst 2, 1) := by decide +kernel
theorem zd_Thr_reach_19 : decode zb_Thr_reach 19 = .ok (.iaload, 1) := by decide +kernel
theorem zd_Thr_reach_20 : decode zb_Thr_reach 20 = .ok (.istore_n 3, 1) := by decide +kernel
theorem zd_Thr_reach_21 : decode zb_Thr_reach 21 = .ok (.aload_n 0, 1) := by decide +kernel
theorem zd_Thr_reach_22 : decode zb_Thr_reach 22 = .ok (.getfield 11, 3) := by decide +kernel
theorem zd_Thr_reach_25 : decode zb_Thr_reach 25 = .ok (.iconst 0, 1) := by decide +kernel
theorem zd_Thr_reach_26 : decode zb_Thr_reach 26 = .ok (.iaload, 1) := by decide +kernel
theorem zd_Thr_reach_27 : decode zb_Thr_reach 27 = .ok (.tableswitch 72 1 6 #[37, 72, 41, 72, 56, 68], 37) := by decide +kernel
theorem zd_Thr_reach_64 : decode zb_Thr_reach 64 = .ok (.iload_n 3, 1) := by decide +kernel
theorem zd_Thr_reach_65 : decode zb_Thr_reach 65 = .ok (.iconst 1, 1) := by decide +kernel
theorem zd_Thr_reach_66 : decode zb_Thr_reach 66 = .ok (.iadd, 1) := by decide +kernel
theorem zd_Thr_reach_67 : decode zb_Thr_reach 67 = .ok (.ireturn, 1) := by decide +kernel
theorem zd_Thr_reach_68 : decode zb_Thr_reach 68 = .ok (.iload_n 1, 1) := by decide +kernel
theorem zd_Thr_reach_69 : decode zb_Thr_reach 69 = .ok (.iconst 1, 1) := by decide +kernel
theorem zd_Thr_reach_70 : decode zb_Thr_reach 70 = .ok (.if_icmp .ne 9, 3) := by decide +kernel
theorem zd_Thr_reach_73 : decode zb_Thr_reach 73 = .ok (.iload_n 3, 1) := by decide +kernel
theorem zd_Thr_reach_74 : decode zb_Thr_reach 74 = .ok (.iconst 3, 1) := by decide +kernel
theorem zd_Thr_reach_75 : decode zb_Thr_reach 75 = .ok (.iadd, 1) := by decide +kernel
theorem zd_Thr_reach_76 : decode zb_Thr_reach 76 = .ok (.goto 6, 3) := by decide +kernel
theorem zd_Thr_reach_79 : decode zb_Thr_reach 79 = .ok (.iload_n 3, 1) := by decide +kernel
theorem zd_Thr_reach_80 : decode zb_Thr_reach 80 = .ok (.iconst 1, 1) := by decide +kernel
theorem zd_Thr_reach_81 : decode zb_Thr_reach 81 = .ok (.iadd, 1) := by decide +kernel
theorem zd_Thr_reach_82 : decode zb_Thr_reach 82 = .ok (.ireturn, 1) := by decide +kernel
theorem zd_Thr_reach_83 : decode zb_Thr_reach 83 = .ok (.iload_n 2, 1) := by decide +kernel
theorem zd_Thr_reach_84 : decode zb_Thr_reach 84 = .ok (.ifCond .eq 9, 3) := by decide +kernel
theorem zd_Thr_reach_87 : decode zb_Thr_reach 87 = .ok (.iload_n 3, 1) := by decide +kernel
theorem zd_Thr_reach_88 : decode zb_Thr_reach 88 = .ok (.iconst 1, 1) := by decide +kernel
theorem zd_Thr_reach_89 : decode zb_Thr_reach 89 = .ok (.isub, 1) := by decide +kernel
theorem zd_Thr_reach_90 : decode zb_Thr_reach 90 = .ok (.goto 4, 3) := by decide +kernel
theorem zd_Thr_reach_93 : decode zb_Thr_reach 93 = .ok (.iload_n 3, 1) := by decide +kernel
theorem zd_Thr_reach_94 : decode zb_Thr_reach 94 = .ok (.ireturn, 1) := by decide +kernel
theorem zd_Thr_reach_95 : decode zb_Thr_reach 95 = .ok (.iload_n 3, 1) := by decide +kernel
theorem zd_Thr_reach_96 : decode zb_Thr_reach 96 = .ok (.iconst 2, 1) := by decide +kernel
theorem zd_Thr_reach_97 : decode zb_Thr_reach 97 = .ok (.idiv, 1) := by decide +kernel
theorem zd_Thr_reach_98 : decode zb_Thr_reach 98 = .ok (.ireturn, 1) := by decide +kernel
theorem zd_Thr_reach_99 : decode zb_Thr_reach 99 = .ok (.iload_n 3, 1) := by decide +kernel
theorem zd_Thr_reach_100 : decode zb_Thr_reach 100 = .ok (.ireturn, 1) := by decide +kernel
set_option maxHeartbeats 4000000 in
theorem zl_Thr_reach_L99 {p : Program} {l : Launch} {e : Env} {s : State} {m : MethodId} {args : Array Value} {below : List Frame} {meth : Method} {c : Code} {D : va_G} {cA : Nat → ClassId} {ad : Nat → Nat} {A : Nat → Prop} (B : zu_B p s m args c zb_Thr_reach 4 "StonePost$Thrower" D cA ad A) (hret : meth.sig.returnType = (some .int)) (hlk : meth.locks = false) {X : IX} {Y : LX} {res : Int32} (x3 : Int32) (H : Heap) (locs : List Loc) (ls : Array Slot) (hP : va_P D zu_cl (zu_pic cA ad X Y) H) (hS : va_S A s.heap H locs) (hl : lv_has ls 4 [(3, .int x3)]) (hf : fn_Thr_reach_L99 X x3 = res) : W p l e zR_Thr_reach s m args below meth c H locs 0 0 (MQ below (zu_Qi D cA ad A res X Y) args s 0 0 A) (F0 m 99 ls []) := by
  obtain ⟨hx, hb, hml, hown, hts, hST⟩ := id B
  unfold fn_Thr_reach_L99 at hf
  refine lv_iload_n hx hb zd_Thr_reach_99 rfl (lv_at hl 0 rfl) ?_
  obtain rfl := hf
  exact zr_iret hx hb hret hlk hP hS zd_Thr_reach_100
set_option maxHeartbeats 4000000 in
theorem zl_Thr_reach_L94 {p : Program} {l : Launch} {e : Env} {s : State} {m : MethodId} {args : Array Value} {below : List Frame} {meth : Method} {c : Code} {D : va_G} {cA : Nat → ClassId} {ad : Nat → Nat} {A : Nat → Prop} (B : zu_B p s m args c zb_Thr_reach 4 "StonePost$Thrower" D cA ad A) (hret : meth.sig.returnType = (some .int)) (hlk : meth.locks = false) {X : IX} {Y : LX} {res : Int32} (y0 : Int32) (H : Heap) (locs : List Loc) (ls : Array Slot) (hP : va_P D zu_cl (zu_pic cA ad X Y) H) (hS : va_S A s.heap H locs) (hl : lv_has ls 4 []) (hf : fn_Thr_reach_L94 X y0 = res) : W p l e zR_Thr_reach s m args below meth c H locs 0 0 (MQ below (zu_Qi D cA ad A res X Y) args s 0 0 A) (F0 m 94 ls [.int y0]) := by
  obtain ⟨hx, hb, hml, hown, hts, hST⟩ := id B
  unfold fn_Thr_reach_L94 at hf
  obtain rfl := hf
  exact zr_iret hx hb hret hlk hP hS zd_Thr_reach_94
set_option maxHeartbeats 4000000 in
theorem zl_Thr_reach_L82 {p : Program} {l : Launch} {e : Env} {s : State} {m : MethodId} {args : Array Value} {below : List Frame} {meth : Method} {c : Code} {D : va_G} {cA : Nat → ClassId} {ad : Nat → Nat} {A : Nat → Prop} (B : zu_B p s m args c zb_Thr_reach 4 "StonePost$Thrower" D cA ad A) (hret : meth.sig.returnType = (some .int)) (hlk : meth.locks = false) {X : IX} {Y : LX} {res : Int32} (y0 : Int32) (H : Heap) (locs : List Loc) (ls : Array Slot) (hP : va_P D zu_cl (zu_pic cA ad X Y) H) (hS : va_S A s.heap H locs) (hl : lv_has ls 4 []) (hf : fn_Thr_reach_L82 X y0 = res) : W p l e zR_Thr_reach s m args below meth c H locs 0 0 (MQ below (zu_Qi D cA ad A res X Y) args s 0 0 A) (F0 m 82 ls [.int y0]) := by
  obtain ⟨hx, hb, hml, hown, hts, hST⟩ := id B
  unfold fn_Thr_reach_L82 at hf
  obtain rfl := hf
  exact zr_iret hx hb hret hlk hP hS zd_Thr_reach_82
set_option maxHeartbeats 4000000 in
theorem zl_Thr_reach_L20 {p : Program} {l : Launch} {e : Env} {s : State} {m : MethodId} {args : Array Value} {below : List Frame} {meth : Method} {c : Code} {D : va_G} {cA : Nat → ClassId} {ad : Nat → Nat} {A : Nat → Prop} (B : zu_B p s m args c zb_Thr_reach 4 "StonePost$Thrower" D cA ad A) (hret : meth.sig.returnType = (some .int)) (hlk : meth.locks = false) {X : IX} {Y : LX} {res : Int32} (r0 : Nat) (x1 : Int32) (x2 : Int32) (y0 : Int32) (H : Heap) (locs : List Loc) (ls : Array Slot) (hP : va_P D zu_cl (zu_pic cA ad X Y) H) (hS : va_S A s.heap H locs) (hl : lv_has ls 4 [(0, .ref (ad r0)), (1, .int x1), (2, .int x2)]) (hr0 : zu_kd r0 = 6) (hf : fn_Thr_reach_L20 X r0 x1 x2 y0 = res) : W p l e zR_Thr_reach s m args below meth c H locs 0 0 (MQ below (zu_Qi D cA ad A res X Y) args s 0 0 A) (F0 m 20 ls [.int y0]) := by
  obtain ⟨hx, hb, hml, hown, hts, hST⟩ := id B
  unfold fn_Thr_reach_L20 at hf
  refine lv_istore_n (lv' := [(3, .int y0), (0, .ref (ad r0)), (1, .int x1), (2, .int x2)]) hx hb zd_Thr_reach_20 rfl hl (by decide) rfl (fun ls hl => ?_)
  refine lv_aload_n hx hb zd_Thr_reach_21 rfl (lv_at hl 1 rfl) ?_
  refine zg_Thr_facts B hP hr0 zq_38 zd_Thr_reach_22 ?_
  refine lv_iconst (v := 0) hx hb zd_Thr_reach_25 (by decide) ?_
  refine zr_iald (j := 0) (by decide) B hP (zk_Thr_facts hr0) (by decide) rfl (by decide) zd_Thr_reach_26 ?_
  refine zr_nxi hf (fun v2 hf => ?_)
  by_cases h27_1 : v2 = (1 : Int32)
  · have hf := zu_t h27_1 hf
    refine lv_tableIn (tgt := 64) (off := 37) hx hb zd_Thr_reach_27 (by rw [h27_1]; decide) (by rw [h27_1]; decide) (by rw [h27_1]; decide) (by decide) ?_
    refine lv_iload_n hx hb zd_Thr_reach_64 rfl (lv_at hl 0 rfl) ?_
    refine lv_iconst (v := 1) hx hb zd_Thr_reach_65 (by decide) ?_
    refine lv_iadd hx hb zd_Thr_reach_66 ?_
    obtain rfl := hf
    exact zr_iret hx hb hret hlk hP hS zd_Thr_reach_67
  · have hf := zu_f h27_1 hf
    by_cases h27_2 : v2 = (2 : Int32)
    · have hf := zu_t h27_2 hf
      refine lv_tableIn (tgt := 99) (off := 72) hx hb zd_Thr_reach_27 (by rw [h27_2]; decide) (by rw [h27_2]; decide) (by rw [h27_2]; decide) (by decide) ?_
      exact zl_Thr_reach_L99 B hret hlk y0 _ _ _ hP hS (lv_sub hl [0] rfl) hf
    · have hf := zu_f h27_2 hf
      by_cases h27_3 : v2 = (3 : Int32)
      · have hf := zu_t h27_3 hf
        refine lv_tableIn (tgt := 68) (off := 41) hx hb zd_Thr_reach_27 (by rw [h27_3]; decide) (by rw [h27_3]; decide) (by rw [h27_3]; decide) (by decide) ?_
        refine lv_iload_n hx hb zd_Thr_reach_68 rfl (lv_at hl 2 rfl) ?_
        refine lv_iconst (v := 1) hx hb zd_Thr_reach_69 (by decide) ?_
        refine lv_icmp_ne (tgt := 79) hx hb zd_Thr_reach_70 (by decide) (fun c3 => ?_) (fun c3 => ?_)
        · have hf := zu_f c3 hf
          refine lv_iload_n hx hb zd_Thr_reach_79 rfl (lv_at hl 0 rfl) ?_
          refine lv_iconst (v := 1) hx hb zd_Thr_reach_80 (by decide) ?_
          refine lv_iadd hx hb zd_Thr_reach_81 ?_
          exact zl_Thr_reach_L82 B hret hlk (y0 + (1 : Int32)) _ _ _ hP hS (lv_sub hl [] rfl) hf
        · have hf := zu_t c3 hf
          refine lv_iload_n hx hb zd_Thr_reach_73 rfl (lv_at hl 0 rfl) ?_
          refine lv_iconst (v := 3) hx hb zd_Thr_reach_74 (by decide) ?_
          refine lv_iadd hx hb zd_Thr_reach_75 ?_
          refine lv_goto (tgt := 82) hx hb zd_Thr_reach_76 (by decide) ?_
          exact zl_Thr_reach_L82 B hret hlk (y0 + (3 : Int32)) _ _ _ hP hS (lv_sub hl [] rfl) hf
      · have hf := zu_f h27_3 hf
        by_cases h27_4 : v2 = (4 : Int32)
        · have hf := zu_t h27_4 hf
          refine lv_tableIn (tgt := 99) (off := 72) hx hb zd_Thr_reach_27 (by rw [h27_4]; decide) (by rw [h27_4]; decide) (by rw [h27_4]; decide) (by decide) ?_
          exact zl_Thr_reach_L99 B hret hlk y0 _ _ _ hP hS (lv_sub hl [0] rfl) hf
        · have hf := zu_f h27_4 hf
          by_cases h27_5 : v2 = (5 : Int32)
          · have hf := zu_t h27_5 hf
            refine lv_tableIn (tgt := 83) (off := 56) hx hb zd_Thr_reach_27 (by rw [h27_5]; decide) (by rw [h27_5]; decide) (by rw [h27_5]; decide) (by decide) ?_
            refine lv_iload_n hx hb zd_Thr_reach_83 rfl (lv_at hl 3 rfl) ?_
            refine lv_if_eq (tgt := 93) hx hb zd_Thr_reach_84 (by decide) (fun c4 => ?_) (fun c4 => ?_)
            · have hf := zu_t c4 hf
              refine lv_iload_n hx hb zd_Thr_reach_93 rfl (lv_at hl 0 rfl) ?_
              exact zl_Thr_reach_L94 B hret hlk y0 _ _ _ hP hS (lv_sub hl [] rfl) hf
            · have hf := zu_f c4 hf
              refine lv_iload_n hx hb zd_Thr_reach_87 rfl (lv_at hl 0 rfl) ?_
              refine lv_iconst (v := 1) hx hb zd_Thr_reach_88 (by decide) ?_
              refine lv_isub hx hb zd_Thr_reach_89 ?_
              refine lv_goto (tgt := 94) hx hb zd_Thr_reach_90 (by decide) ?_
              exact zl_Thr_reach_L94 B hret hlk (y0 - (1 : Int32)) _ _ _ hP hS (lv_sub hl [] rfl) hf
          · have hf := zu_f h27_5 hf
            by_cases h27_6 : v2 = (6 : Int32)
            · have hf := zu_t h27_6 hf
              refine lv_tableIn (tgt := 95) (off := 68) hx hb zd_Thr_reach_27 (by rw [h27_6]; decide) (by rw [h27_6]; decide) (by rw [h27_6]; decide) (by decide) ?_
              refine lv_iload_n hx hb zd_Thr_reach_95 rfl (lv_at hl 0 rfl) ?_
              refine lv_iconst (v := 2) hx hb zd_Thr_reach_96 (by decide) ?_
              refine lv_idiv hx hb zd_Thr_reach_97 (by decide) ?_
              obtain rfl := hf
              exact zr_iret hx hb hret hlk hP hS zd_Thr_reach_98
            · have hf := zu_f h27_6 hf
              have hsw : v2.toInt < 1 ∨ 6 < v2.toInt := by
                have n0 := lv_neT h27_1 (a := 1) (by decide)
                have n1 := lv_neT h27_2 (a := 2) (by decide)
                have n2 := lv_neT h27_3 (a := 3) (by decide)
                have n3 := lv_neT h27_4 (a := 4) (by decide)
                have n4 := lv_neT h27_5 (a := 5) (by decide)
                have n5 := lv_neT h27_6 (a := 6) (by decide)
                omega
              refine lv_tableOut (tgt := 99) hx hb zd_Thr_reach_27 hsw (by decide) ?_
              exact zl_Thr_reach_L99 B hret hlk y0 _ _ _ hP hS (lv_sub hl [0] rfl) hf
set_option maxHeartbeats 4000000 in
theorem zl_Thr_reach {p : Program} {l : Launch} {e : Env} {s : State} {m : MethodId} {args : Array Value} {below : List Frame} {meth : Method} {c : Code} {D : va_G} {cA : Nat → ClassId} {ad : Nat → Nat} {A : Nat → Prop} (B : zu_B p s m args c zb_Thr_reach 4 "StonePost$Thrower" D cA ad A) (hret : meth.sig.returnType = (some .int)) (hlk : meth.locks = false) {X : IX} {Y : LX} {res : Int32} {r0 : Nat} {a1 : Int32} {a2 : Int32} (H : Heap) (locs : List Loc) (ls : Array Slot) (hP : va_P D zu_cl (zu_pic cA ad X Y) H) (hS : va_S A s.heap H locs) (hl : lv_has ls 4 [(0, .ref (ad r0)), (1, .int a1), (2, .int a2)]) (hr0 : zu_kd r0 = 6) (hf : fn_Thr_reach X r0 a1 a2 = res) : W p l e zR_Thr_reach s m args below meth c H locs 0 0 (MQ below (zu_Qi D cA ad A res X Y) args s 0 0 A) (F0 m 0 ls []) := by
  obtain ⟨hx, hb, hml, hown, hts, hST⟩ := id B
  unfold fn_Thr_reach at hf
  refine lv_iload_n hx hb zd_Thr_reach_0 rfl (lv_at hl 1 rfl) ?_
  refine lv_iconst (v := 1) hx hb zd_Thr_reach_1 (by decide) ?_
  refine lv_icmp_ne (tgt := 14) hx hb zd_Thr_reach_2 (by decide) (fun c1 => ?_) (fun c1 => ?_)
  · have hf := zu_f c1 hf
    refine lv_aload_n hx hb zd_Thr_reach_14 rfl (lv_at hl 0 rfl) ?_
    refine zg_Thr_facts B hP hr0 zq_38 zd_Thr_reach_15 ?_
    refine lv_iconst (v := 2) hx hb zd_Thr_reach_18 (by decide) ?_
    refine zr_iald (j := 2) (by decide) B hP (zk_Thr_facts hr0) (by decide) rfl (by decide) zd_Thr_reach_19 ?_
    exact zl_Thr_reach_L20 B hret hlk r0 a1 a2 (X (r0 + 30) 2) _ _ _ hP hS (lv_sub hl [0, 1, 2] rfl) hr0 hf
  · have hf := zu_t c1 hf
    refine lv_aload_n hx hb zd_Thr_reach_5 rfl (lv_at hl 0 rfl) ?_
    refine zg_Thr_facts B hP hr0 zq_38 zd_Thr_reach_6 ?_
    refine lv_iconst (v := 3) hx hb zd_Thr_reach_9 (by decide) ?_
    refine zr_iald (j := 3) (by decide) B hP (zk_Thr_facts hr0) (by decide) rfl (by decide) zd_Thr_reach_10 ?_
    refine lv_goto (tgt := 20) hx hb zd_Thr_reach_11 (by decide) ?_
    exact zl_Thr_reach_L20 B hret hlk r0 a1 a2 (X (r0 + 30) 3) _ _ _ hP hS (lv_sub hl [0, 1, 2] rfl) hr0 hf
theorem zC_Thr_reach (l : Launch) {D : va_G} {cA : Nat → ClassId} {ad : Nat → Nat} {A : Nat → Prop} {r0 : Nat} {a1 : Int32} {a2 : Int32} {X : IX} {Y : LX} {res : Int32} (hr0 : zu_kd r0 = 6) (hf : fn_Thr_reach X r0 a1 a2 = res) : Met l zm_Thr_reach (zu_ws zm_Thr_reach zb_Thr_reach 4 (some .int)) zR_Thr_reach (va_Pc [.ref (ad r0), .int a1, .int a2] (zu_Pre D cA ad A X Y)) (zu_Qi D cA ad A res X Y) 0 0 A := by
  refine Met.ofW (cc := zb_Thr_reach) (maxL := 4) (ret := (some .int)) (by decide +kernel) rfl ?_
  intro p e s m args below meth c s₁ B0 hml hv
  obtain ⟨rfl, hP, hST⟩ := hv
  have B : zu_B p s m _ c zb_Thr_reach 4 "StonePost$Thrower" D cA ad A := ⟨B0.exec, B0.bytes, hml, findClass_of_methodNamed B0.named, (fun w hw => atoms_spec (ws := zu_ws zm_Thr_reach zb_Thr_reach 4 (some .int)) B0.pre w (List.mem_cons_of_mem _ hw)), hST⟩
  have hl := lv_entry ([.ref (ad r0), .int a1, .int a2]) (n := 4) (Nat.le_of_ble_eq_true rfl)
  rw [lg_entry_eq]
  generalize (lg_sl ([.ref (ad r0), .int a1, .int a2]) ++ List.replicate (4 - (lg_sl ([.ref (ad r0), .int a1, .int a2])).length) Slot.unset).toArray = ls at hl ⊢
  exact zl_Thr_reach B B0.returns B0.notSynchronized s.heap [] ls hP va_S.rf hl hr0 hf
theorem zw_Thr_reach {p : Program} {l : Launch} {e : Env} {R : Room} {s : State} {m : MethodId} {args : Array Value} {below : List Frame} {meth : Method} {c : Code} {H : Heap} {locs : List Loc} {cells slots : Nat} {Q : State → Prop} {cc : ByteArray} {pc nL : Nat} {ls : Array Slot} {rest st0 : List Value} {D : va_G} {cA : Nat → ClassId} {ad : Nat → Nat} {A : Nat → Prop} {X : IX} {Y : LX} {own : String} {index : Nat} {r0 : Nat} {a1 : Int32} {a2 : Int32} {v1 : Int32} (B : zu_B p s m args c cc nL own D cA ad A) (hP : va_P D zu_cl (zu_pic cA ad X Y) H) (hS : va_S A s.heap H locs) (hr0 : zu_kd r0 = 6) (hq : fn_Thr_reach X r0 a1 a2 = v1) (m1 : Cond.methodLink own index zm_Thr_reach ∈ zu_TB) (hR1 : 0 + 1 ≤ R.frames) (hR2 : 8 + (4 + 11) + 0 ≤ R.locals) (hsz : ls.size = nL) (hst : st0 = .int a2 :: .int a1 :: .ref (ad r0) :: rest) (hw : (rest.map fun v => v.category).sum ≤ 8) (hdg : decode cc pc = .ok (.invokevirtual index, 3)) (h00 : cells ≤ R.cells ∧ slots ≤ R.slots) (kk : ∀ (H1 : Heap) (locs1 : List Loc), va_P D zu_cl (zu_pic cA ad X Y) H1 → va_S A s.heap H1 locs1 → W p l e R s m args below meth c H1 locs1 cells slots Q (F0 m (pc + 3) ls (.int v1 :: rest))) : W p l e R s m args below meth c H locs cells slots Q (F0 m pc ls st0) := by
  subst hst
  exact zr_cVi (As := [.int a1, .int a2]) (rest := rest) (n := 2) (C := "StonePost$Thrower") (T := zt_Thr) (N := 1) B hP hS (zC_Thr_reach l hr0 hq) (K := 6) hr0 (by decide) (by decide) rfl rfl m1 zq_296 zq_297 zq_3 zq_298 (by decide +kernel) ⟨hR1, hR2⟩ rfl rfl rfl hsz rfl hw hdg h00 kk
